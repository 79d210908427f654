theorem dX10_findBracket_0 : decode cX10_findBracket 0 = .ok (.iconst 0, 1) := by decide +kernel
theorem dX10_findBracket_1 : decode cX10_findBracket 1 = .ok (.istore_n 1, 1) := by decide +kernel
theorem dX10_findBracket_2 : decode cX10_findBracket 2 = .ok (.iload_n 1, 1) := by decide +kernel
theorem dX10_findBracket_3 : decode cX10_findBracket 3 = .ok (.bipush 120, 2) := by decide +kernel
theorem dX10_findBracket_5 : decode cX10_findBracket 5 = .ok (.if_icmp .gt 16, 3) := by decide +kernel
theorem dX10_findBracket_8 : decode cX10_findBracket 8 = .ok (.aload_n 0, 1) := by decide +kernel
theorem dX10_findBracket_9 : decode cX10_findBracket 9 = .ok (.getfield 47, 3) := by decide +kernel
theorem dX10_findBracket_12 : decode cX10_findBracket 12 = .ok (.iload_n 1, 1) := by decide +kernel
theorem dX10_findBracket_13 : decode cX10_findBracket 13 = .ok (.iconst 0, 1) := by decide +kernel
theorem dX10_findBracket_14 : decode cX10_findBracket 14 = .ok (.iastore, 1) := by decide +kernel
theorem dX10_findBracket_15 : decode cX10_findBracket 15 = .ok (.iinc 1 1, 3) := by decide +kernel
theorem dX10_findBracket_18 : decode cX10_findBracket 18 = .ok (.goto (-16), 3) := by decide +kernel
theorem dX10_findBracket_21 : decode cX10_findBracket 21 = .ok (.iconst 0, 1) := by decide +kernel
theorem dX10_findBracket_22 : decode cX10_findBracket 22 = .ok (.istore_n 1, 1) := by decide +kernel
theorem dX10_findBracket_23 : decode cX10_findBracket 23 = .ok (.iload_n 1, 1) := by decide +kernel
theorem dX10_findBracket_24 : decode cX10_findBracket 24 = .ok (.iconst 1, 1) := by decide +kernel
theorem dX10_findBracket_25 : decode cX10_findBracket 25 = .ok (.aload_n 0, 1) := by decide +kernel
theorem dX10_findBracket_26 : decode cX10_findBracket 26 = .ok (.invokevirtual 61, 3) := by decide +kernel
theorem dX10_findBracket_29 : decode cX10_findBracket 29 = .ok (.ishl, 1) := by decide +kernel
theorem dX10_findBracket_30 : decode cX10_findBracket 30 = .ok (.if_icmp .ge 117, 3) := by decide +kernel
theorem dX10_findBracket_33 : decode cX10_findBracket 33 = .ok (.iconst 0, 1) := by decide +kernel
theorem dX10_findBracket_34 : decode cX10_findBracket 34 = .ok (.istore_n 2, 1) := by decide +kernel
theorem dX10_findBracket_35 : decode cX10_findBracket 35 = .ok (.iconst 0, 1) := by decide +kernel
theorem dX10_findBracket_36 : decode cX10_findBracket 36 = .ok (.istore_n 3, 1) := by decide +kernel
theorem dX10_findBracket_37 : decode cX10_findBracket 37 = .ok (.iload_n 3, 1) := by decide +kernel
theorem dX10_findBracket_38 : decode cX10_findBracket 38 = .ok (.aload_n 0, 1) := by decide +kernel
theorem dX10_findBracket_39 : decode cX10_findBracket 39 = .ok (.invokevirtual 61, 3) := by decide +kernel
theorem dX10_findBracket_42 : decode cX10_findBracket 42 = .ok (.if_icmp .ge 26, 3) := by decide +kernel
theorem dX10_findBracket_45 : decode cX10_findBracket 45 = .ok (.iload_n 2, 1) := by decide +kernel
theorem dX10_findBracket_46 : decode cX10_findBracket 46 = .ok (.iload_n 1, 1) := by decide +kernel
theorem dX10_findBracket_47 : decode cX10_findBracket 47 = .ok (.iload_n 3, 1) := by decide +kernel
theorem dX10_findBracket_48 : decode cX10_findBracket 48 = .ok (.ishr, 1) := by decide +kernel
theorem dX10_findBracket_49 : decode cX10_findBracket 49 = .ok (.iconst 1, 1) := by decide +kernel
theorem dX10_findBracket_50 : decode cX10_findBracket 50 = .ok (.iand, 1) := by decide +kernel
theorem dX10_findBracket_51 : decode cX10_findBracket 51 = .ok (.iconst 1, 1) := by decide +kernel
theorem dX10_findBracket_52 : decode cX10_findBracket 52 = .ok (.if_icmp .ne 7, 3) := by decide +kernel
theorem dX10_findBracket_55 : decode cX10_findBracket 55 = .ok (.iconst (-1), 1) := by decide +kernel
theorem dX10_findBracket_56 : decode cX10_findBracket 56 = .ok (.goto 4, 3) := by decide +kernel
theorem dX10_findBracket_59 : decode cX10_findBracket 59 = .ok (.iconst 1, 1) := by decide +kernel
theorem dX10_findBracket_60 : decode cX10_findBracket 60 = .ok (.iadd, 1) := by decide +kernel
theorem dX10_findBracket_61 : decode cX10_findBracket 61 = .ok (.istore_n 2, 1) := by decide +kernel
theorem dX10_findBracket_62 : decode cX10_findBracket 62 = .ok (.iinc 3 1, 3) := by decide +kernel
theorem dX10_findBracket_65 : decode cX10_findBracket 65 = .ok (.goto (-28), 3) := by decide +kernel
theorem dX10_findBracket_68 : decode cX10_findBracket 68 = .ok (.aload_n 0, 1) := by decide +kernel
theorem dX10_findBracket_69 : decode cX10_findBracket 69 = .ok (.iload_n 1, 1) := by decide +kernel
theorem dX10_findBracket_70 : decode cX10_findBracket 70 = .ok (.invokevirtual 173, 3) := by decide +kernel
theorem dX10_findBracket_73 : decode cX10_findBracket 73 = .ok (.iconst 1, 1) := by decide +kernel
theorem dX10_findBracket_74 : decode cX10_findBracket 74 = .ok (.isub, 1) := by decide +kernel
theorem dX10_findBracket_75 : decode cX10_findBracket 75 = .ok (.istore_n 3, 1) := by decide +kernel
theorem dX10_findBracket_76 : decode cX10_findBracket 76 = .ok (.iload_n 3, 1) := by decide +kernel
theorem dX10_findBracket_77 : decode cX10_findBracket 77 = .ok (.iconst 2, 1) := by decide +kernel
theorem dX10_findBracket_78 : decode cX10_findBracket 78 = .ok (.irem, 1) := by decide +kernel
theorem dX10_findBracket_79 : decode cX10_findBracket 79 = .ok (.ifCond .ne 7, 3) := by decide +kernel
theorem dX10_findBracket_82 : decode cX10_findBracket 82 = .ok (.iconst 1, 1) := by decide +kernel
theorem dX10_findBracket_83 : decode cX10_findBracket 83 = .ok (.goto 4, 3) := by decide +kernel
theorem dX10_findBracket_86 : decode cX10_findBracket 86 = .ok (.iconst (-1), 1) := by decide +kernel
theorem dX10_findBracket_87 : decode cX10_findBracket 87 = .ok (.istore 4, 2) := by decide +kernel
theorem dX10_findBracket_89 : decode cX10_findBracket 89 = .ok (.iconst 0, 1) := by decide +kernel
theorem dX10_findBracket_90 : decode cX10_findBracket 90 = .ok (.istore 5, 2) := by decide +kernel
theorem dX10_findBracket_92 : decode cX10_findBracket 92 = .ok (.iload 5, 2) := by decide +kernel
theorem dX10_findBracket_94 : decode cX10_findBracket 94 = .ok (.iload_n 3, 1) := by decide +kernel
theorem dX10_findBracket_95 : decode cX10_findBracket 95 = .ok (.if_icmp .gt 46, 3) := by decide +kernel
theorem dX10_findBracket_98 : decode cX10_findBracket 98 = .ok (.aload_n 0, 1) := by decide +kernel
theorem dX10_findBracket_99 : decode cX10_findBracket 99 = .ok (.getfield 47, 3) := by decide +kernel
theorem dX10_findBracket_102 : decode cX10_findBracket 102 = .ok (.bipush 60, 2) := by decide +kernel
theorem dX10_findBracket_104 : decode cX10_findBracket 104 = .ok (.iload_n 2, 1) := by decide +kernel
theorem dX10_findBracket_105 : decode cX10_findBracket 105 = .ok (.iadd, 1) := by decide +kernel
theorem dX10_findBracket_106 : decode cX10_findBracket 106 = .ok (.iconst 2, 1) := by decide +kernel
theorem dX10_findBracket_107 : decode cX10_findBracket 107 = .ok (.iload_n 3, 1) := by decide +kernel
theorem dX10_findBracket_108 : decode cX10_findBracket 108 = .ok (.imul, 1) := by decide +kernel
theorem dX10_findBracket_109 : decode cX10_findBracket 109 = .ok (.iadd, 1) := by decide +kernel
theorem dX10_findBracket_110 : decode cX10_findBracket 110 = .ok (.iconst 4, 1) := by decide +kernel
theorem dX10_findBracket_111 : decode cX10_findBracket 111 = .ok (.iload 5, 2) := by decide +kernel
theorem dX10_findBracket_113 : decode cX10_findBracket 113 = .ok (.imul, 1) := by decide +kernel
theorem dX10_findBracket_114 : decode cX10_findBracket 114 = .ok (.isub, 1) := by decide +kernel
theorem dX10_findBracket_115 : decode cX10_findBracket 115 = .ok (.dup2, 1) := by decide +kernel
theorem dX10_findBracket_116 : decode cX10_findBracket 116 = .ok (.iaload, 1) := by decide +kernel
theorem dX10_findBracket_117 : decode cX10_findBracket 117 = .ok (.iload 4, 2) := by decide +kernel
theorem dX10_findBracket_119 : decode cX10_findBracket 119 = .ok (.iadd, 1) := by decide +kernel
theorem dX10_findBracket_120 : decode cX10_findBracket 120 = .ok (.iastore, 1) := by decide +kernel
theorem dX10_findBracket_121 : decode cX10_findBracket 121 = .ok (.iload 4, 2) := by decide +kernel
theorem dX10_findBracket_123 : decode cX10_findBracket 123 = .ok (.iload_n 3, 1) := by decide +kernel
theorem dX10_findBracket_124 : decode cX10_findBracket 124 = .ok (.iload 5, 2) := by decide +kernel
theorem dX10_findBracket_126 : decode cX10_findBracket 126 = .ok (.isub, 1) := by decide +kernel
theorem dX10_findBracket_127 : decode cX10_findBracket 127 = .ok (.imul, 1) := by decide +kernel
theorem dX10_findBracket_128 : decode cX10_findBracket 128 = .ok (.iload 5, 2) := by decide +kernel
theorem dX10_findBracket_130 : decode cX10_findBracket 130 = .ok (.iconst 1, 1) := by decide +kernel
theorem dX10_findBracket_131 : decode cX10_findBracket 131 = .ok (.iadd, 1) := by decide +kernel
theorem dX10_findBracket_132 : decode cX10_findBracket 132 = .ok (.idiv, 1) := by decide +kernel
theorem dX10_findBracket_133 : decode cX10_findBracket 133 = .ok (.istore 4, 2) := by decide +kernel
theorem dX10_findBracket_135 : decode cX10_findBracket 135 = .ok (.iinc 5 1, 3) := by decide +kernel
theorem dX10_findBracket_138 : decode cX10_findBracket 138 = .ok (.goto (-46), 3) := by decide +kernel
theorem dX10_findBracket_141 : decode cX10_findBracket 141 = .ok (.iinc 1 1, 3) := by decide +kernel
theorem dX10_findBracket_144 : decode cX10_findBracket 144 = .ok (.goto (-121), 3) := by decide +kernel
theorem dX10_findBracket_147 : decode cX10_findBracket 147 = .ok (.return_, 1) := by decide +kernel
set_option maxRecDepth 20000 in
theorem ggX10_isExponent_X10_in : GoodIn wsX10_isExponent wsX10_in := goodIn_r _ [4] (by decide +kernel) (by decide +kernel)
set_option maxRecDepth 20000 in
theorem gX10_isExponent_X10_in : GoodIn wsX10_isExponent (va_wsS RX10 64 yX10_in wsX10_in) := goodIn_app (goodIn_of _ (by decide +kernel)) ggX10_isExponent_X10_in
theorem dX10_isExponent_0 : decode cX10_isExponent 0 = .ok (.iload_n 0, 1) := by decide +kernel
theorem dX10_isExponent_1 : decode cX10_isExponent 1 = .ok (.bipush (-60), 2) := by decide +kernel
theorem dX10_isExponent_3 : decode cX10_isExponent 3 = .ok (.bipush 60, 2) := by decide +kernel
theorem dX10_isExponent_5 : decode cX10_isExponent 5 = .ok (.invokestatic 64, 3) := by decide +kernel
theorem dX10_isExponent_8 : decode cX10_isExponent 8 = .ok (.ireturn, 1) := by decide +kernel
set_option maxRecDepth 20000 in
theorem ggX10_stateLoops_X10_crossings : GoodIn wsX10_stateLoops wsX10_crossings := goodIn_r _ [6, 7, 40, 41, 42, 43, 44, 45, 46, 47, 48, 49, 50, 51, 52, 53, 54, 55, 56] (by decide +kernel) (by decide +kernel)
set_option maxRecDepth 20000 in
theorem gX10_stateLoops_X10_crossings : GoodIn wsX10_stateLoops (wsV RX10 61 RX10 yX10_crossings wsX10_crossings) := goodIn_app (goodIn_of _ (by decide +kernel)) ggX10_stateLoops_X10_crossings
set_option maxRecDepth 20000 in
theorem ggX10_stateLoops_X10_in : GoodIn wsX10_stateLoops wsX10_in := goodIn_r _ [10] (by decide +kernel) (by decide +kernel)
set_option maxRecDepth 20000 in
theorem gX10_stateLoops_X10_in : GoodIn wsX10_stateLoops (va_wsS RX10 64 yX10_in wsX10_in) := goodIn_app (goodIn_of _ (by decide +kernel)) ggX10_stateLoops_X10_in
set_option maxRecDepth 20000 in
theorem ggX10_stateLoops_X10_loops : GoodIn wsX10_stateLoops wsX10_loops := goodIn_r _ [14, 7, 15, 16, 17, 5, 18, 19, 2, 3, 4, 6, 20, 21, 22, 23, 24, 25, 26, 27, 28, 29, 30, 31, 32, 33, 34, 35, 36, 37, 38, 39, 40, 41, 42, 43, 44, 45, 46, 47, 48, 49, 50, 51, 52, 53, 54, 55, 56] (by decide +kernel) (by decide +kernel)
set_option maxRecDepth 20000 in
theorem gX10_stateLoops_X10_loops : GoodIn wsX10_stateLoops (wsV RX10 173 RX10 yX10_loops wsX10_loops) := goodIn_app (goodIn_of _ (by decide +kernel)) ggX10_stateLoops_X10_loops
theorem dX10_stateLoops_0 : decode cX10_stateLoops 0 = .ok (.iload_n 1, 1) := by decide +kernel
theorem dX10_stateLoops_1 : decode cX10_stateLoops 1 = .ok (.iconst 0, 1) := by decide +kernel
theorem dX10_stateLoops_2 : decode cX10_stateLoops 2 = .ok (.iconst 1, 1) := by decide +kernel
theorem dX10_stateLoops_3 : decode cX10_stateLoops 3 = .ok (.aload_n 0, 1) := by decide +kernel
theorem dX10_stateLoops_4 : decode cX10_stateLoops 4 = .ok (.invokevirtual 61, 3) := by decide +kernel
theorem dX10_stateLoops_7 : decode cX10_stateLoops 7 = .ok (.ishl, 1) := by decide +kernel
theorem dX10_stateLoops_8 : decode cX10_stateLoops 8 = .ok (.iconst 1, 1) := by decide +kernel
theorem dX10_stateLoops_9 : decode cX10_stateLoops 9 = .ok (.isub, 1) := by decide +kernel
theorem dX10_stateLoops_10 : decode cX10_stateLoops 10 = .ok (.invokestatic 64, 3) := by decide +kernel
theorem dX10_stateLoops_13 : decode cX10_stateLoops 13 = .ok (.ifCond .eq 11, 3) := by decide +kernel
theorem dX10_stateLoops_16 : decode cX10_stateLoops 16 = .ok (.aload_n 0, 1) := by decide +kernel
theorem dX10_stateLoops_17 : decode cX10_stateLoops 17 = .ok (.iload_n 1, 1) := by decide +kernel
theorem dX10_stateLoops_18 : decode cX10_stateLoops 18 = .ok (.invokevirtual 173, 3) := by decide +kernel
theorem dX10_stateLoops_21 : decode cX10_stateLoops 21 = .ok (.goto 5, 3) := by decide +kernel
theorem dX10_stateLoops_24 : decode cX10_stateLoops 24 = .ok (.ldc 68, 2) := by decide +kernel
theorem dX10_stateLoops_26 : decode cX10_stateLoops 26 = .ok (.ireturn, 1) := by decide +kernel
set_option maxRecDepth 20000 in
theorem ggX10_coefficient_X10_isExponent : GoodIn wsX10_coefficient wsX10_isExponent := goodIn_r _ [6, 7, 8, 5, 9] (by decide +kernel) (by decide +kernel)
set_option maxRecDepth 20000 in
theorem gX10_coefficient_X10_isExponent : GoodIn wsX10_coefficient (va_wsS RX10 176 yX10_isExponent wsX10_isExponent) := goodIn_app (goodIn_of _ (by decide +kernel)) ggX10_coefficient_X10_isExponent
set_option maxRecDepth 20000 in
theorem ggX10_coefficient_X10_findBracket : GoodIn wsX10_coefficient wsX10_findBracket := goodIn_r _ [13, 2, 14, 15, 16, 5, 17, 18, 19, 20, 21, 22, 23, 24, 25, 26, 27, 28, 29, 30, 31, 32, 33, 34, 35, 36, 37, 38, 39, 40, 41, 42, 43, 44, 45, 46, 47, 48, 49, 50, 51, 52, 53, 54, 55, 56, 57, 58, 59, 60, 61, 62, 63, 64] (by decide +kernel) (by decide +kernel)
set_option maxRecDepth 20000 in
theorem gX10_coefficient_X10_findBracket : GoodIn wsX10_coefficient (wsV RX10 179 RX10 yX10_findBracket wsX10_findBracket) := goodIn_app (goodIn_of _ (by decide +kernel)) ggX10_coefficient_X10_findBracket
theorem dX10_coefficient_0 : decode cX10_coefficient 0 = .ok (.iload_n 1, 1) := by decide +kernel
theorem dX10_coefficient_1 : decode cX10_coefficient 1 = .ok (.invokestatic 176, 3) := by decide +kernel
theorem dX10_coefficient_4 : decode cX10_coefficient 4 = .ok (.ifCond .ne 6, 3) := by decide +kernel
theorem dX10_coefficient_7 : decode cX10_coefficient 7 = .ok (.ldc 68, 2) := by decide +kernel
theorem dX10_coefficient_9 : decode cX10_coefficient 9 = .ok (.ireturn, 1) := by decide +kernel
theorem dX10_coefficient_10 : decode cX10_coefficient 10 = .ok (.aload_n 0, 1) := by decide +kernel
theorem dX10_coefficient_11 : decode cX10_coefficient 11 = .ok (.invokevirtual 179, 3) := by decide +kernel
theorem dX10_coefficient_14 : decode cX10_coefficient 14 = .ok (.aload_n 0, 1) := by decide +kernel
theorem dX10_coefficient_15 : decode cX10_coefficient 15 = .ok (.getfield 47, 3) := by decide +kernel
theorem dX10_coefficient_18 : decode cX10_coefficient 18 = .ok (.bipush 60, 2) := by decide +kernel
theorem dX10_coefficient_20 : decode cX10_coefficient 20 = .ok (.iload_n 1, 1) := by decide +kernel
theorem dX10_coefficient_21 : decode cX10_coefficient 21 = .ok (.iadd, 1) := by decide +kernel
theorem dX10_coefficient_22 : decode cX10_coefficient 22 = .ok (.iaload, 1) := by decide +kernel
theorem dX10_coefficient_23 : decode cX10_coefficient 23 = .ok (.ireturn, 1) := by decide +kernel
set_option maxRecDepth 20000 in
theorem ggX10_normalizedCoefficient_X10_isExponent : GoodIn wsX10_normalizedCoefficient wsX10_isExponent := goodIn_r _ [6, 7, 8, 5, 9] (by decide +kernel) (by decide +kernel)
set_option maxRecDepth 20000 in
theorem gX10_normalizedCoefficient_X10_isExponent : GoodIn wsX10_normalizedCoefficient (va_wsS RX10 176 yX10_isExponent wsX10_isExponent) := goodIn_app (goodIn_of _ (by decide +kernel)) ggX10_normalizedCoefficient_X10_isExponent
set_option maxRecDepth 20000 in
theorem ggX10_normalizedCoefficient_X10_findBracket : GoodIn wsX10_normalizedCoefficient wsX10_findBracket := goodIn_r _ [13, 2, 14, 15, 16, 5, 17, 18, 19, 20, 21, 22, 23, 24, 25, 26, 27, 28, 29, 30, 31, 32, 33, 34, 35, 36, 37, 38, 39, 40, 41, 42, 43, 44, 45, 46, 47, 73, 74, 75, 76, 77, 78, 79, 80, 81, 82, 83, 84, 85, 86, 87, 88, 89] (by decide +kernel) (by decide +kernel)
set_option maxRecDepth 20000 in
theorem gX10_normalizedCoefficient_X10_findBracket : GoodIn wsX10_normalizedCoefficient (wsV RX10 179 RX10 yX10_findBracket wsX10_findBracket) := goodIn_app (goodIn_of _ (by decide +kernel)) ggX10_normalizedCoefficient_X10_findBracket
set_option maxRecDepth 20000 in
theorem ggX10_normalizedCoefficient_X10_writheNow : GoodIn wsX10_normalizedCoefficient wsX10_writheNow := goodIn_r _ [51, 52, 53, 54, 5, 55, 56, 44, 45, 46, 47, 18, 32, 33, 34, 35, 57, 58, 59, 60, 61, 62, 63, 64, 65, 66, 67, 68, 14, 15, 16, 17, 69, 70, 71, 72, 73, 74, 75, 76, 77, 78, 79, 80, 81, 82, 83, 84, 85, 86, 87, 88, 89] (by decide +kernel) (by decide +kernel)
set_option maxRecDepth 20000 in
theorem gX10_normalizedCoefficient_X10_writheNow : GoodIn wsX10_normalizedCoefficient (wsV RX10 127 RX10 yX10_writheNow wsX10_writheNow) := goodIn_app (goodIn_of _ (by decide +kernel)) ggX10_normalizedCoefficient_X10_writheNow
theorem dX10_normalizedCoefficient_0 : decode cX10_normalizedCoefficient 0 = .ok (.iload_n 1, 1) := by decide +kernel
theorem dX10_normalizedCoefficient_1 : decode cX10_normalizedCoefficient 1 = .ok (.invokestatic 176, 3) := by decide +kernel
theorem dX10_normalizedCoefficient_4 : decode cX10_normalizedCoefficient 4 = .ok (.ifCond .ne 6, 3) := by decide +kernel
theorem dX10_normalizedCoefficient_7 : decode cX10_normalizedCoefficient 7 = .ok (.ldc 68, 2) := by decide +kernel
theorem dX10_normalizedCoefficient_9 : decode cX10_normalizedCoefficient 9 = .ok (.ireturn, 1) := by decide +kernel
theorem dX10_normalizedCoefficient_10 : decode cX10_normalizedCoefficient 10 = .ok (.aload_n 0, 1) := by decide +kernel
theorem dX10_normalizedCoefficient_11 : decode cX10_normalizedCoefficient 11 = .ok (.invokevirtual 179, 3) := by decide +kernel
theorem dX10_normalizedCoefficient_14 : decode cX10_normalizedCoefficient 14 = .ok (.aload_n 0, 1) := by decide +kernel
theorem dX10_normalizedCoefficient_15 : decode cX10_normalizedCoefficient 15 = .ok (.invokevirtual 127, 3) := by decide +kernel
theorem dX10_normalizedCoefficient_18 : decode cX10_normalizedCoefficient 18 = .ok (.istore_n 2, 1) := by decide +kernel
theorem dX10_normalizedCoefficient_19 : decode cX10_normalizedCoefficient 19 = .ok (.iload_n 1, 1) := by decide +kernel
theorem dX10_normalizedCoefficient_20 : decode cX10_normalizedCoefficient 20 = .ok (.iconst 3, 1) := by decide +kernel
theorem dX10_normalizedCoefficient_21 : decode cX10_normalizedCoefficient 21 = .ok (.iload_n 2, 1) := by decide +kernel
theorem dX10_normalizedCoefficient_22 : decode cX10_normalizedCoefficient 22 = .ok (.imul, 1) := by decide +kernel
theorem dX10_normalizedCoefficient_23 : decode cX10_normalizedCoefficient 23 = .ok (.iadd, 1) := by decide +kernel
theorem dX10_normalizedCoefficient_24 : decode cX10_normalizedCoefficient 24 = .ok (.istore_n 3, 1) := by decide +kernel
theorem dX10_normalizedCoefficient_25 : decode cX10_normalizedCoefficient 25 = .ok (.iload_n 3, 1) := by decide +kernel
theorem dX10_normalizedCoefficient_26 : decode cX10_normalizedCoefficient 26 = .ok (.invokestatic 176, 3) := by decide +kernel
theorem dX10_normalizedCoefficient_29 : decode cX10_normalizedCoefficient 29 = .ok (.ifCond .eq 15, 3) := by decide +kernel
theorem dX10_normalizedCoefficient_32 : decode cX10_normalizedCoefficient 32 = .ok (.aload_n 0, 1) := by decide +kernel
theorem dX10_normalizedCoefficient_33 : decode cX10_normalizedCoefficient 33 = .ok (.getfield 47, 3) := by decide +kernel
theorem dX10_normalizedCoefficient_36 : decode cX10_normalizedCoefficient 36 = .ok (.bipush 60, 2) := by decide +kernel
theorem dX10_normalizedCoefficient_38 : decode cX10_normalizedCoefficient 38 = .ok (.iload_n 3, 1) := by decide +kernel
theorem dX10_normalizedCoefficient_39 : decode cX10_normalizedCoefficient 39 = .ok (.iadd, 1) := by decide +kernel
theorem dX10_normalizedCoefficient_40 : decode cX10_normalizedCoefficient 40 = .ok (.iaload, 1) := by decide +kernel
theorem dX10_normalizedCoefficient_41 : decode cX10_normalizedCoefficient 41 = .ok (.goto 4, 3) := by decide +kernel
theorem dX10_normalizedCoefficient_44 : decode cX10_normalizedCoefficient 44 = .ok (.iconst 0, 1) := by decide +kernel
theorem dX10_normalizedCoefficient_45 : decode cX10_normalizedCoefficient 45 = .ok (.istore 4, 2) := by decide +kernel
theorem dX10_normalizedCoefficient_47 : decode cX10_normalizedCoefficient 47 = .ok (.iload_n 2, 1) := by decide +kernel
theorem dX10_normalizedCoefficient_48 : decode cX10_normalizedCoefficient 48 = .ok (.iconst 2, 1) := by decide +kernel
theorem dX10_normalizedCoefficient_49 : decode cX10_normalizedCoefficient 49 = .ok (.irem, 1) := by decide +kernel
theorem dX10_normalizedCoefficient_50 : decode cX10_normalizedCoefficient 50 = .ok (.ifCond .ne 8, 3) := by decide +kernel
theorem dX10_normalizedCoefficient_53 : decode cX10_normalizedCoefficient 53 = .ok (.iload 4, 2) := by decide +kernel
theorem dX10_normalizedCoefficient_55 : decode cX10_normalizedCoefficient 55 = .ok (.goto 6, 3) := by decide +kernel
theorem dX10_normalizedCoefficient_58 : decode cX10_normalizedCoefficient 58 = .ok (.iload 4, 2) := by decide +kernel
theorem dX10_normalizedCoefficient_60 : decode cX10_normalizedCoefficient 60 = .ok (.ineg, 1) := by decide +kernel
theorem dX10_normalizedCoefficient_61 : decode cX10_normalizedCoefficient 61 = .ok (.ireturn, 1) := by decide +kernel
theorem dX10_lowest_0 : decode cX10_lowest 0 = .ok (.ldc 153, 2) := by decide +kernel
theorem dX10_lowest_2 : decode cX10_lowest 2 = .ok (.istore_n 1, 1) := by decide +kernel
theorem dX10_lowest_3 : decode cX10_lowest 3 = .ok (.bipush 120, 2) := by decide +kernel
theorem dX10_lowest_5 : decode cX10_lowest 5 = .ok (.istore_n 2, 1) := by decide +kernel
theorem dX10_lowest_6 : decode cX10_lowest 6 = .ok (.iload_n 2, 1) := by decide +kernel
theorem dX10_lowest_7 : decode cX10_lowest 7 = .ok (.ifCond .lt 27, 3) := by decide +kernel
theorem dX10_lowest_10 : decode cX10_lowest 10 = .ok (.aload_n 0, 1) := by decide +kernel
theorem dX10_lowest_11 : decode cX10_lowest 11 = .ok (.getfield 47, 3) := by decide +kernel
theorem dX10_lowest_14 : decode cX10_lowest 14 = .ok (.iload_n 2, 1) := by decide +kernel
theorem dX10_lowest_15 : decode cX10_lowest 15 = .ok (.iaload, 1) := by decide +kernel
theorem dX10_lowest_16 : decode cX10_lowest 16 = .ok (.ifCond .eq 10, 3) := by decide +kernel
theorem dX10_lowest_19 : decode cX10_lowest 19 = .ok (.iload_n 2, 1) := by decide +kernel
theorem dX10_lowest_20 : decode cX10_lowest 20 = .ok (.bipush 60, 2) := by decide +kernel
theorem dX10_lowest_22 : decode cX10_lowest 22 = .ok (.isub, 1) := by decide +kernel
theorem dX10_lowest_23 : decode cX10_lowest 23 = .ok (.goto 4, 3) := by decide +kernel
theorem dX10_lowest_26 : decode cX10_lowest 26 = .ok (.iload_n 1, 1) := by decide +kernel
theorem dX10_lowest_27 : decode cX10_lowest 27 = .ok (.istore_n 1, 1) := by decide +kernel
theorem dX10_lowest_28 : decode cX10_lowest 28 = .ok (.iinc 2 (-1), 3) := by decide +kernel
theorem dX10_lowest_31 : decode cX10_lowest 31 = .ok (.goto (-25), 3) := by decide +kernel
theorem dX10_lowest_34 : decode cX10_lowest 34 = .ok (.iload_n 1, 1) := by decide +kernel
theorem dX10_lowest_35 : decode cX10_lowest 35 = .ok (.ireturn, 1) := by decide +kernel
set_option maxRecDepth 20000 in
theorem ggX10_lowestExponent_X10_findBracket : GoodIn wsX10_lowestExponent wsX10_findBracket := goodIn_r _ [5, 6, 7, 8, 9, 4, 10, 11, 12, 13, 14, 15, 16, 17, 18, 19, 20, 21, 22, 23, 24, 25, 26, 27, 28, 29, 30, 31, 32, 33, 34, 35, 36, 37, 38, 39, 40, 46, 47, 48, 49, 50, 51, 52, 53, 54, 55, 56, 57, 58, 59, 60, 61, 62] (by decide +kernel) (by decide +kernel)
set_option maxRecDepth 20000 in
theorem gX10_lowestExponent_X10_findBracket : GoodIn wsX10_lowestExponent (wsV RX10 179 RX10 yX10_findBracket wsX10_findBracket) := goodIn_app (goodIn_of _ (by decide +kernel)) ggX10_lowestExponent_X10_findBracket
set_option maxRecDepth 20000 in
theorem ggX10_lowestExponent_X10_lowest : GoodIn wsX10_lowestExponent wsX10_lowest := goodIn_r _ [44, 45, 6, 46, 47, 48, 49, 50, 51, 52, 53, 54, 55, 56, 57, 58, 59, 60, 61, 62] (by decide +kernel) (by decide +kernel)
set_option maxRecDepth 20000 in
theorem gX10_lowestExponent_X10_lowest : GoodIn wsX10_lowestExponent (wsV RX10 182 RX10 yX10_lowest wsX10_lowest) := goodIn_app (goodIn_of _ (by decide +kernel)) ggX10_lowestExponent_X10_lowest
theorem dX10_lowestExponent_0 : decode cX10_lowestExponent 0 = .ok (.aload_n 0, 1) := by decide +kernel
theorem dX10_lowestExponent_1 : decode cX10_lowestExponent 1 = .ok (.invokevirtual 179, 3) := by decide +kernel
theorem dX10_lowestExponent_4 : decode cX10_lowestExponent 4 = .ok (.aload_n 0, 1) := by decide +kernel
theorem dX10_lowestExponent_5 : decode cX10_lowestExponent 5 = .ok (.invokevirtual 182, 3) := by decide +kernel
theorem dX10_lowestExponent_8 : decode cX10_lowestExponent 8 = .ok (.ireturn, 1) := by decide +kernel
set_option maxRecDepth 20000 in
theorem ggX10_highestExponent_X10_findBracket : GoodIn wsX10_highestExponent wsX10_findBracket := goodIn_r _ [7, 2, 8, 9, 10, 6, 11, 12, 13, 14, 15, 16, 17, 18, 19, 20, 21, 22, 23, 24, 25, 26, 27, 28, 29, 30, 31, 32, 33, 34, 35, 36, 37, 38, 39, 40, 41, 42, 43, 44, 45, 46, 47, 48, 49, 50, 51, 52, 53, 54, 55, 56, 57, 58] (by decide +kernel) (by decide +kernel)
set_option maxRecDepth 20000 in
theorem gX10_highestExponent_X10_findBracket : GoodIn wsX10_highestExponent (wsV RX10 179 RX10 yX10_findBracket wsX10_findBracket) := goodIn_app (goodIn_of _ (by decide +kernel)) ggX10_highestExponent_X10_findBracket
theorem dX10_highestExponent_0 : decode cX10_highestExponent 0 = .ok (.aload_n 0, 1) := by decide +kernel
theorem dX10_highestExponent_1 : decode cX10_highestExponent 1 = .ok (.invokevirtual 179, 3) := by decide +kernel
theorem dX10_highestExponent_4 : decode cX10_highestExponent 4 = .ok (.ldc 153, 2) := by decide +kernel
theorem dX10_highestExponent_6 : decode cX10_highestExponent 6 = .ok (.istore_n 1, 1) := by decide +kernel
theorem dX10_highestExponent_7 : decode cX10_highestExponent 7 = .ok (.iconst 0, 1) := by decide +kernel
theorem dX10_highestExponent_8 : decode cX10_highestExponent 8 = .ok (.istore_n 2, 1) := by decide +kernel
theorem dX10_highestExponent_9 : decode cX10_highestExponent 9 = .ok (.iload_n 2, 1) := by decide +kernel
theorem dX10_highestExponent_10 : decode cX10_highestExponent 10 = .ok (.bipush 120, 2) := by decide +kernel
theorem dX10_highestExponent_12 : decode cX10_highestExponent 12 = .ok (.if_icmp .gt 27, 3) := by decide +kernel
theorem dX10_highestExponent_15 : decode cX10_highestExponent 15 = .ok (.aload_n 0, 1) := by decide +kernel
theorem dX10_highestExponent_16 : decode cX10_highestExponent 16 = .ok (.getfield 47, 3) := by decide +kernel
theorem dX10_highestExponent_19 : decode cX10_highestExponent 19 = .ok (.iload_n 2, 1) := by decide +kernel
theorem dX10_highestExponent_20 : decode cX10_highestExponent 20 = .ok (.iaload, 1) := by decide +kernel
theorem dX10_highestExponent_21 : decode cX10_highestExponent 21 = .ok (.ifCond .eq 10, 3) := by decide +kernel
theorem dX10_highestExponent_24 : decode cX10_highestExponent 24 = .ok (.iload_n 2, 1) := by decide +kernel
theorem dX10_highestExponent_25 : decode cX10_highestExponent 25 = .ok (.bipush 60, 2) := by decide +kernel
theorem dX10_highestExponent_27 : decode cX10_highestExponent 27 = .ok (.isub, 1) := by decide +kernel
theorem dX10_highestExponent_28 : decode cX10_highestExponent 28 = .ok (.goto 4, 3) := by decide +kernel
theorem dX10_highestExponent_31 : decode cX10_highestExponent 31 = .ok (.iload_n 1, 1) := by decide +kernel
theorem dX10_highestExponent_32 : decode cX10_highestExponent 32 = .ok (.istore_n 1, 1) := by decide +kernel
theorem dX10_highestExponent_33 : decode cX10_highestExponent 33 = .ok (.iinc 2 1, 3) := by decide +kernel
theorem dX10_highestExponent_36 : decode cX10_highestExponent 36 = .ok (.goto (-27), 3) := by decide +kernel
theorem dX10_highestExponent_39 : decode cX10_highestExponent 39 = .ok (.iload_n 1, 1) := by decide +kernel
theorem dX10_highestExponent_40 : decode cX10_highestExponent 40 = .ok (.ireturn, 1) := by decide +kernel
set_option maxRecDepth 20000 in
theorem ggX10_determinant_X10_findBracket : GoodIn wsX10_determinant wsX10_findBracket := goodIn_r _ [7, 2, 8, 9, 10, 6, 11, 12, 13, 14, 15, 16, 17, 18, 19, 20, 21, 22, 23, 24, 25, 26, 27, 28, 29, 30, 31, 32, 33, 34, 35, 36, 37, 38, 39, 40, 41, 46, 47, 48, 49, 50, 51, 52, 53, 54, 55, 56, 57, 58, 59, 60, 61, 62] (by decide +kernel) (by decide +kernel)
set_option maxRecDepth 20000 in
theorem gX10_determinant_X10_findBracket : GoodIn wsX10_determinant (wsV RX10 179 RX10 yX10_findBracket wsX10_findBracket) := goodIn_app (goodIn_of _ (by decide +kernel)) ggX10_determinant_X10_findBracket
set_option maxRecDepth 20000 in
theorem ggX10_determinant_X10_lowest : GoodIn wsX10_determinant wsX10_lowest := goodIn_r _ [45, 1, 2, 46, 47, 48, 49, 50, 51, 52, 53, 54, 55, 56, 57, 58, 59, 60, 61, 62] (by decide +kernel) (by decide +kernel)
set_option maxRecDepth 20000 in
theorem gX10_determinant_X10_lowest : GoodIn wsX10_determinant (wsV RX10 182 RX10 yX10_lowest wsX10_lowest) := goodIn_app (goodIn_of _ (by decide +kernel)) ggX10_determinant_X10_lowest
theorem dX10_determinant_0 : decode cX10_determinant 0 = .ok (.aload_n 0, 1) := by decide +kernel
theorem dX10_determinant_1 : decode cX10_determinant 1 = .ok (.invokevirtual 179, 3) := by decide +kernel
theorem dX10_determinant_4 : decode cX10_determinant 4 = .ok (.aload_n 0, 1) := by decide +kernel
theorem dX10_determinant_5 : decode cX10_determinant 5 = .ok (.invokevirtual 182, 3) := by decide +kernel
theorem dX10_determinant_8 : decode cX10_determinant 8 = .ok (.istore_n 1, 1) := by decide +kernel
theorem dX10_determinant_9 : decode cX10_determinant 9 = .ok (.iload_n 1, 1) := by decide +kernel
theorem dX10_determinant_10 : decode cX10_determinant 10 = .ok (.ldc 153, 2) := by decide +kernel
theorem dX10_determinant_12 : decode cX10_determinant 12 = .ok (.if_icmp .ne 5, 3) := by decide +kernel
theorem dX10_determinant_15 : decode cX10_determinant 15 = .ok (.iconst 0, 1) := by decide +kernel
theorem dX10_determinant_16 : decode cX10_determinant 16 = .ok (.ireturn, 1) := by decide +kernel
theorem dX10_determinant_17 : decode cX10_determinant 17 = .ok (.iconst 0, 1) := by decide +kernel
theorem dX10_determinant_18 : decode cX10_determinant 18 = .ok (.istore_n 2, 1) := by decide +kernel
theorem dX10_determinant_19 : decode cX10_determinant 19 = .ok (.iconst 1, 1) := by decide +kernel
theorem dX10_determinant_20 : decode cX10_determinant 20 = .ok (.istore_n 3, 1) := by decide +kernel
theorem dX10_determinant_21 : decode cX10_determinant 21 = .ok (.iload_n 1, 1) := by decide +kernel
theorem dX10_determinant_22 : decode cX10_determinant 22 = .ok (.istore 4, 2) := by decide +kernel
theorem dX10_determinant_24 : decode cX10_determinant 24 = .ok (.iload 4, 2) := by decide +kernel
theorem dX10_determinant_26 : decode cX10_determinant 26 = .ok (.bipush 60, 2) := by decide +kernel
theorem dX10_determinant_28 : decode cX10_determinant 28 = .ok (.if_icmp .gt 27, 3) := by decide +kernel
theorem dX10_determinant_31 : decode cX10_determinant 31 = .ok (.iload_n 2, 1) := by decide +kernel
theorem dX10_determinant_32 : decode cX10_determinant 32 = .ok (.iload_n 3, 1) := by decide +kernel
theorem dX10_determinant_33 : decode cX10_determinant 33 = .ok (.aload_n 0, 1) := by decide +kernel
theorem dX10_determinant_34 : decode cX10_determinant 34 = .ok (.getfield 47, 3) := by decide +kernel
theorem dX10_determinant_37 : decode cX10_determinant 37 = .ok (.bipush 60, 2) := by decide +kernel
theorem dX10_determinant_39 : decode cX10_determinant 39 = .ok (.iload 4, 2) := by decide +kernel
theorem dX10_determinant_41 : decode cX10_determinant 41 = .ok (.iadd, 1) := by decide +kernel
theorem dX10_determinant_42 : decode cX10_determinant 42 = .ok (.iaload, 1) := by decide +kernel
theorem dX10_determinant_43 : decode cX10_determinant 43 = .ok (.imul, 1) := by decide +kernel
theorem dX10_determinant_44 : decode cX10_determinant 44 = .ok (.iadd, 1) := by decide +kernel
theorem dX10_determinant_45 : decode cX10_determinant 45 = .ok (.istore_n 2, 1) := by decide +kernel
theorem dX10_determinant_46 : decode cX10_determinant 46 = .ok (.iload_n 3, 1) := by decide +kernel
theorem dX10_determinant_47 : decode cX10_determinant 47 = .ok (.ineg, 1) := by decide +kernel
theorem dX10_determinant_48 : decode cX10_determinant 48 = .ok (.istore_n 3, 1) := by decide +kernel
theorem dX10_determinant_49 : decode cX10_determinant 49 = .ok (.iinc 4 4, 3) := by decide +kernel
theorem dX10_determinant_52 : decode cX10_determinant 52 = .ok (.goto (-28), 3) := by decide +kernel
theorem dX10_determinant_55 : decode cX10_determinant 55 = .ok (.iload_n 2, 1) := by decide +kernel
theorem dX10_determinant_56 : decode cX10_determinant 56 = .ok (.ifCond .ge 8, 3) := by decide +kernel
theorem dX10_determinant_59 : decode cX10_determinant 59 = .ok (.iload_n 2, 1) := by decide +kernel
theorem dX10_determinant_60 : decode cX10_determinant 60 = .ok (.ineg, 1) := by decide +kernel
theorem dX10_determinant_61 : decode cX10_determinant 61 = .ok (.goto 4, 3) := by decide +kernel
theorem dX10_determinant_64 : decode cX10_determinant 64 = .ok (.iload_n 2, 1) := by decide +kernel
theorem dX10_determinant_65 : decode cX10_determinant 65 = .ok (.ireturn, 1) := by decide +kernel
theorem dX10_inverse_0 : decode cX10_inverse 0 = .ok (.iconst 1, 1) := by decide +kernel
theorem dX10_inverse_1 : decode cX10_inverse 1 = .ok (.istore_n 2, 1) := by decide +kernel
theorem dX10_inverse_2 : decode cX10_inverse 2 = .ok (.iconst 1, 1) := by decide +kernel
theorem dX10_inverse_3 : decode cX10_inverse 3 = .ok (.istore_n 3, 1) := by decide +kernel
theorem dX10_inverse_4 : decode cX10_inverse 4 = .ok (.iload_n 3, 1) := by decide +kernel
theorem dX10_inverse_5 : decode cX10_inverse 5 = .ok (.iload_n 1, 1) := by decide +kernel
theorem dX10_inverse_6 : decode cX10_inverse 6 = .ok (.if_icmp .ge 24, 3) := by decide +kernel
theorem dX10_inverse_9 : decode cX10_inverse 9 = .ok (.iload_n 0, 1) := by decide +kernel
theorem dX10_inverse_10 : decode cX10_inverse 10 = .ok (.iload_n 3, 1) := by decide +kernel
theorem dX10_inverse_11 : decode cX10_inverse 11 = .ok (.imul, 1) := by decide +kernel
theorem dX10_inverse_12 : decode cX10_inverse 12 = .ok (.iload_n 1, 1) := by decide +kernel
theorem dX10_inverse_13 : decode cX10_inverse 13 = .ok (.irem, 1) := by decide +kernel
theorem dX10_inverse_14 : decode cX10_inverse 14 = .ok (.iconst 1, 1) := by decide +kernel
theorem dX10_inverse_15 : decode cX10_inverse 15 = .ok (.if_icmp .ne 7, 3) := by decide +kernel
theorem dX10_inverse_18 : decode cX10_inverse 18 = .ok (.iload_n 3, 1) := by decide +kernel
theorem dX10_inverse_19 : decode cX10_inverse 19 = .ok (.goto 4, 3) := by decide +kernel
theorem dX10_inverse_22 : decode cX10_inverse 22 = .ok (.iload_n 2, 1) := by decide +kernel
theorem dX10_inverse_23 : decode cX10_inverse 23 = .ok (.istore_n 2, 1) := by decide +kernel
theorem dX10_inverse_24 : decode cX10_inverse 24 = .ok (.iinc 3 1, 3) := by decide +kernel
theorem dX10_inverse_27 : decode cX10_inverse 27 = .ok (.goto (-23), 3) := by decide +kernel
theorem dX10_inverse_30 : decode cX10_inverse 30 = .ok (.iload_n 2, 1) := by decide +kernel
theorem dX10_inverse_31 : decode cX10_inverse 31 = .ok (.ireturn, 1) := by decide +kernel
set_option maxRecDepth 20000 in
theorem ggX10_addTo_X10_arc : GoodIn wsX10_addTo wsX10_arc := goodIn_r _ [7, 8, 9, 10, 11, 12, 13, 14, 15, 16, 17, 18, 19, 20, 21, 22, 23, 24, 25] (by decide +kernel) (by decide +kernel)
set_option maxRecDepth 20000 in
theorem gX10_addTo_X10_arc : GoodIn wsX10_addTo (wsV RX10 57 RX10 yX10_arc wsX10_arc) := goodIn_app (goodIn_of _ (by decide +kernel)) ggX10_addTo_X10_arc
theorem dX10_addTo_0 : decode cX10_addTo 0 = .ok (.bipush 17, 2) := by decide +kernel
theorem dX10_addTo_2 : decode cX10_addTo 2 = .ok (.iload_n 1, 1) := by decide +kernel
theorem dX10_addTo_3 : decode cX10_addTo 3 = .ok (.imul, 1) := by decide +kernel
theorem dX10_addTo_4 : decode cX10_addTo 4 = .ok (.aload_n 0, 1) := by decide +kernel
theorem dX10_addTo_5 : decode cX10_addTo 5 = .ok (.getfield 41, 3) := by decide +kernel
theorem dX10_addTo_8 : decode cX10_addTo 8 = .ok (.aload_n 0, 1) := by decide +kernel
theorem dX10_addTo_9 : decode cX10_addTo 9 = .ok (.iload_n 2, 1) := by decide +kernel
theorem dX10_addTo_10 : decode cX10_addTo 10 = .ok (.invokevirtual 57, 3) := by decide +kernel
theorem dX10_addTo_13 : decode cX10_addTo 13 = .ok (.iaload, 1) := by decide +kernel
theorem dX10_addTo_14 : decode cX10_addTo 14 = .ok (.iadd, 1) := by decide +kernel
theorem dX10_addTo_15 : decode cX10_addTo 15 = .ok (.istore 5, 2) := by decide +kernel
theorem dX10_addTo_17 : decode cX10_addTo 17 = .ok (.aload_n 0, 1) := by decide +kernel
theorem dX10_addTo_18 : decode cX10_addTo 18 = .ok (.getfield 50, 3) := by decide +kernel
theorem dX10_addTo_21 : decode cX10_addTo 21 = .ok (.iload 5, 2) := by decide +kernel
theorem dX10_addTo_23 : decode cX10_addTo 23 = .ok (.aload_n 0, 1) := by decide +kernel
theorem dX10_addTo_24 : decode cX10_addTo 24 = .ok (.getfield 50, 3) := by decide +kernel
theorem dX10_addTo_27 : decode cX10_addTo 27 = .ok (.iload 5, 2) := by decide +kernel
theorem dX10_addTo_29 : decode cX10_addTo 29 = .ok (.iaload, 1) := by decide +kernel
theorem dX10_addTo_30 : decode cX10_addTo 30 = .ok (.iload_n 3, 1) := by decide +kernel
theorem dX10_addTo_31 : decode cX10_addTo 31 = .ok (.iadd, 1) := by decide +kernel
theorem dX10_addTo_32 : decode cX10_addTo 32 = .ok (.iload 4, 2) := by decide +kernel
theorem dX10_addTo_34 : decode cX10_addTo 34 = .ok (.iadd, 1) := by decide +kernel
theorem dX10_addTo_35 : decode cX10_addTo 35 = .ok (.iload 4, 2) := by decide +kernel
theorem dX10_addTo_37 : decode cX10_addTo 37 = .ok (.irem, 1) := by decide +kernel
theorem dX10_addTo_38 : decode cX10_addTo 38 = .ok (.iastore, 1) := by decide +kernel
theorem dX10_addTo_39 : decode cX10_addTo 39 = .ok (.return_, 1) := by decide +kernel
set_option maxRecDepth 20000 in
theorem ggX10_layEquations_X10_crossings : GoodIn wsX10_layEquations wsX10_crossings := goodIn_r _ [6, 7, 17, 18, 19, 20, 21, 22, 23, 24, 25, 26, 27, 28, 29, 30, 31, 32, 33] (by decide +kernel) (by decide +kernel)
set_option maxRecDepth 20000 in
theorem gX10_layEquations_X10_crossings : GoodIn wsX10_layEquations (wsV RX10 61 RX10 yX10_crossings wsX10_crossings) := goodIn_app (goodIn_of _ (by decide +kernel)) ggX10_layEquations_X10_crossings
set_option maxRecDepth 20000 in
theorem ggX10_layEquations_X10_addTo : GoodIn wsX10_layEquations wsX10_addTo := goodIn_r _ [11, 12, 1, 13, 14, 15, 5, 16, 7, 17, 18, 19, 20, 21, 22, 23, 24, 25, 26, 27, 28, 29, 30, 31, 32, 33] (by decide +kernel) (by decide +kernel)
set_option maxRecDepth 20000 in
theorem gX10_layEquations_X10_addTo : GoodIn wsX10_layEquations (wsV RX10 185 RX10 yX10_addTo wsX10_addTo) := goodIn_app (goodIn_of _ (by decide +kernel)) ggX10_layEquations_X10_addTo
theorem dX10_layEquations_0 : decode cX10_layEquations 0 = .ok (.iconst 0, 1) := by decide +kernel
theorem dX10_layEquations_1 : decode cX10_layEquations 1 = .ok (.istore_n 2, 1) := by decide +kernel
theorem dX10_layEquations_2 : decode cX10_layEquations 2 = .ok (.iload_n 2, 1) := by decide +kernel
theorem dX10_layEquations_3 : decode cX10_layEquations 3 = .ok (.sipush 136, 3) := by decide +kernel
theorem dX10_layEquations_6 : decode cX10_layEquations 6 = .ok (.if_icmp .ge 16, 3) := by decide +kernel
theorem dX10_layEquations_9 : decode cX10_layEquations 9 = .ok (.aload_n 0, 1) := by decide +kernel
theorem dX10_layEquations_10 : decode cX10_layEquations 10 = .ok (.getfield 50, 3) := by decide +kernel
theorem dX10_layEquations_13 : decode cX10_layEquations 13 = .ok (.iload_n 2, 1) := by decide +kernel
theorem dX10_layEquations_14 : decode cX10_layEquations 14 = .ok (.iconst 0, 1) := by decide +kernel
theorem dX10_layEquations_15 : decode cX10_layEquations 15 = .ok (.iastore, 1) := by decide +kernel
theorem dX10_layEquations_16 : decode cX10_layEquations 16 = .ok (.iinc 2 1, 3) := by decide +kernel
theorem dX10_layEquations_19 : decode cX10_layEquations 19 = .ok (.goto (-17), 3) := by decide +kernel
theorem dX10_layEquations_22 : decode cX10_layEquations 22 = .ok (.iconst 0, 1) := by decide +kernel
theorem dX10_layEquations_23 : decode cX10_layEquations 23 = .ok (.istore_n 2, 1) := by decide +kernel
theorem dX10_layEquations_24 : decode cX10_layEquations 24 = .ok (.iload_n 2, 1) := by decide +kernel
theorem dX10_layEquations_25 : decode cX10_layEquations 25 = .ok (.aload_n 0, 1) := by decide +kernel
theorem dX10_layEquations_26 : decode cX10_layEquations 26 = .ok (.invokevirtual 61, 3) := by decide +kernel
theorem dX10_layEquations_29 : decode cX10_layEquations 29 = .ok (.if_icmp .ge 44, 3) := by decide +kernel
theorem dX10_layEquations_32 : decode cX10_layEquations 32 = .ok (.aload_n 0, 1) := by decide +kernel
theorem dX10_layEquations_33 : decode cX10_layEquations 33 = .ok (.iload_n 2, 1) := by decide +kernel
theorem dX10_layEquations_34 : decode cX10_layEquations 34 = .ok (.iconst 4, 1) := by decide +kernel
theorem dX10_layEquations_35 : decode cX10_layEquations 35 = .ok (.iload_n 2, 1) := by decide +kernel
theorem dX10_layEquations_36 : decode cX10_layEquations 36 = .ok (.imul, 1) := by decide +kernel
theorem dX10_layEquations_37 : decode cX10_layEquations 37 = .ok (.iconst 1, 1) := by decide +kernel
theorem dX10_layEquations_38 : decode cX10_layEquations 38 = .ok (.iload_n 1, 1) := by decide +kernel
theorem dX10_layEquations_39 : decode cX10_layEquations 39 = .ok (.invokevirtual 185, 3) := by decide +kernel
theorem dX10_layEquations_42 : decode cX10_layEquations 42 = .ok (.aload_n 0, 1) := by decide +kernel
theorem dX10_layEquations_43 : decode cX10_layEquations 43 = .ok (.iload_n 2, 1) := by decide +kernel
theorem dX10_layEquations_44 : decode cX10_layEquations 44 = .ok (.iconst 4, 1) := by decide +kernel
theorem dX10_layEquations_45 : decode cX10_layEquations 45 = .ok (.iload_n 2, 1) := by decide +kernel
theorem dX10_layEquations_46 : decode cX10_layEquations 46 = .ok (.imul, 1) := by decide +kernel
theorem dX10_layEquations_47 : decode cX10_layEquations 47 = .ok (.iconst 2, 1) := by decide +kernel
theorem dX10_layEquations_48 : decode cX10_layEquations 48 = .ok (.iadd, 1) := by decide +kernel
theorem dX10_layEquations_49 : decode cX10_layEquations 49 = .ok (.iconst 1, 1) := by decide +kernel
theorem dX10_layEquations_50 : decode cX10_layEquations 50 = .ok (.iload_n 1, 1) := by decide +kernel
theorem dX10_layEquations_51 : decode cX10_layEquations 51 = .ok (.invokevirtual 185, 3) := by decide +kernel
theorem dX10_layEquations_54 : decode cX10_layEquations 54 = .ok (.aload_n 0, 1) := by decide +kernel
theorem dX10_layEquations_55 : decode cX10_layEquations 55 = .ok (.iload_n 2, 1) := by decide +kernel
theorem dX10_layEquations_56 : decode cX10_layEquations 56 = .ok (.iconst 4, 1) := by decide +kernel
theorem dX10_layEquations_57 : decode cX10_layEquations 57 = .ok (.iload_n 2, 1) := by decide +kernel
theorem dX10_layEquations_58 : decode cX10_layEquations 58 = .ok (.imul, 1) := by decide +kernel
theorem dX10_layEquations_59 : decode cX10_layEquations 59 = .ok (.iconst 1, 1) := by decide +kernel
theorem dX10_layEquations_60 : decode cX10_layEquations 60 = .ok (.iadd, 1) := by decide +kernel
theorem dX10_layEquations_61 : decode cX10_layEquations 61 = .ok (.bipush (-2), 2) := by decide +kernel
theorem dX10_layEquations_63 : decode cX10_layEquations 63 = .ok (.iload_n 1, 1) := by decide +kernel
theorem dX10_layEquations_64 : decode cX10_layEquations 64 = .ok (.invokevirtual 185, 3) := by decide +kernel
theorem dX10_layEquations_67 : decode cX10_layEquations 67 = .ok (.iinc 2 1, 3) := by decide +kernel
theorem dX10_layEquations_70 : decode cX10_layEquations 70 = .ok (.goto (-46), 3) := by decide +kernel
theorem dX10_layEquations_73 : decode cX10_layEquations 73 = .ok (.return_, 1) := by decide +kernel
set_option maxRecDepth 20000 in
theorem ggX10_eliminate_X10_crossings : GoodIn wsX10_eliminate wsX10_crossings := goodIn_r _ [6, 7, 11, 12, 13, 14, 15, 16, 17, 18, 19, 20, 21, 22, 23, 24, 25, 26, 27] (by decide +kernel) (by decide +kernel)
set_option maxRecDepth 20000 in
theorem gX10_eliminate_X10_crossings : GoodIn wsX10_eliminate (wsV RX10 61 RX10 yX10_crossings wsX10_crossings) := goodIn_app (goodIn_of _ (by decide +kernel)) ggX10_eliminate_X10_crossings
set_option maxRecDepth 20000 in
theorem ggX10_eliminate_X10_inverse : GoodIn wsX10_eliminate wsX10_inverse := goodIn_r _ [10] (by decide +kernel) (by decide +kernel)
set_option maxRecDepth 20000 in
theorem gX10_eliminate_X10_inverse : GoodIn wsX10_eliminate (va_wsS RX10 189 yX10_inverse wsX10_inverse) := goodIn_app (goodIn_of _ (by decide +kernel)) ggX10_eliminate_X10_inverse
theorem dX10_eliminate_0 : decode cX10_eliminate 0 = .ok (.iconst (-1), 1) := by decide +kernel
theorem dX10_eliminate_1 : decode cX10_eliminate 1 = .ok (.istore 4, 2) := by decide +kernel
theorem dX10_eliminate_3 : decode cX10_eliminate 3 = .ok (.aload_n 0, 1) := by decide +kernel
theorem dX10_eliminate_4 : decode cX10_eliminate 4 = .ok (.invokevirtual 61, 3) := by decide +kernel
theorem dX10_eliminate_7 : decode cX10_eliminate 7 = .ok (.iconst 1, 1) := by decide +kernel
theorem dX10_eliminate_8 : decode cX10_eliminate 8 = .ok (.isub, 1) := by decide +kernel
theorem dX10_eliminate_9 : decode cX10_eliminate 9 = .ok (.istore 5, 2) := by decide +kernel
theorem dX10_eliminate_11 : decode cX10_eliminate 11 = .ok (.iload 5, 2) := by decide +kernel
theorem dX10_eliminate_13 : decode cX10_eliminate 13 = .ok (.iload_n 1, 1) := by decide +kernel
theorem dX10_eliminate_14 : decode cX10_eliminate 14 = .ok (.if_icmp .lt 33, 3) := by decide +kernel
theorem dX10_eliminate_17 : decode cX10_eliminate 17 = .ok (.aload_n 0, 1) := by decide +kernel
theorem dX10_eliminate_18 : decode cX10_eliminate 18 = .ok (.getfield 50, 3) := by decide +kernel
theorem dX10_eliminate_21 : decode cX10_eliminate 21 = .ok (.bipush 17, 2) := by decide +kernel
theorem dX10_eliminate_23 : decode cX10_eliminate 23 = .ok (.iload 5, 2) := by decide +kernel
theorem dX10_eliminate_25 : decode cX10_eliminate 25 = .ok (.imul, 1) := by decide +kernel
theorem dX10_eliminate_26 : decode cX10_eliminate 26 = .ok (.iload_n 2, 1) := by decide +kernel
theorem dX10_eliminate_27 : decode cX10_eliminate 27 = .ok (.iadd, 1) := by decide +kernel
theorem dX10_eliminate_28 : decode cX10_eliminate 28 = .ok (.iaload, 1) := by decide +kernel
theorem dX10_eliminate_29 : decode cX10_eliminate 29 = .ok (.ifCond .eq 8, 3) := by decide +kernel
theorem dX10_eliminate_32 : decode cX10_eliminate 32 = .ok (.iload 5, 2) := by decide +kernel
theorem dX10_eliminate_34 : decode cX10_eliminate 34 = .ok (.goto 5, 3) := by decide +kernel
theorem dX10_eliminate_37 : decode cX10_eliminate 37 = .ok (.iload 4, 2) := by decide +kernel
theorem dX10_eliminate_39 : decode cX10_eliminate 39 = .ok (.istore 4, 2) := by decide +kernel
theorem dX10_eliminate_41 : decode cX10_eliminate 41 = .ok (.iinc 5 (-1), 3) := by decide +kernel
theorem dX10_eliminate_44 : decode cX10_eliminate 44 = .ok (.goto (-33), 3) := by decide +kernel
theorem dX10_eliminate_47 : decode cX10_eliminate 47 = .ok (.iload 4, 2) := by decide +kernel
theorem dX10_eliminate_49 : decode cX10_eliminate 49 = .ok (.ifCond .ge 5, 3) := by decide +kernel
theorem dX10_eliminate_52 : decode cX10_eliminate 52 = .ok (.iconst 0, 1) := by decide +kernel
theorem dX10_eliminate_53 : decode cX10_eliminate 53 = .ok (.ireturn, 1) := by decide +kernel
theorem dX10_eliminate_54 : decode cX10_eliminate 54 = .ok (.iconst 0, 1) := by decide +kernel
theorem dX10_eliminate_55 : decode cX10_eliminate 55 = .ok (.istore 5, 2) := by decide +kernel
theorem dX10_eliminate_57 : decode cX10_eliminate 57 = .ok (.iload 5, 2) := by decide +kernel
theorem dX10_eliminate_59 : decode cX10_eliminate 59 = .ok (.bipush 17, 2) := by decide +kernel
theorem dX10_eliminate_61 : decode cX10_eliminate 61 = .ok (.if_icmp .ge 63, 3) := by decide +kernel
theorem dX10_eliminate_64 : decode cX10_eliminate 64 = .ok (.aload_n 0, 1) := by decide +kernel
theorem dX10_eliminate_65 : decode cX10_eliminate 65 = .ok (.getfield 50, 3) := by decide +kernel
theorem dX10_eliminate_68 : decode cX10_eliminate 68 = .ok (.bipush 17, 2) := by decide +kernel
theorem dX10_eliminate_70 : decode cX10_eliminate 70 = .ok (.iload_n 1, 1) := by decide +kernel
theorem dX10_eliminate_71 : decode cX10_eliminate 71 = .ok (.imul, 1) := by decide +kernel
theorem dX10_eliminate_72 : decode cX10_eliminate 72 = .ok (.iload 5, 2) := by decide +kernel
theorem dX10_eliminate_74 : decode cX10_eliminate 74 = .ok (.iadd, 1) := by decide +kernel
theorem dX10_eliminate_75 : decode cX10_eliminate 75 = .ok (.iaload, 1) := by decide +kernel
theorem dX10_eliminate_76 : decode cX10_eliminate 76 = .ok (.istore 6, 2) := by decide +kernel
theorem dX10_eliminate_78 : decode cX10_eliminate 78 = .ok (.aload_n 0, 1) := by decide +kernel
theorem dX10_eliminate_79 : decode cX10_eliminate 79 = .ok (.getfield 50, 3) := by decide +kernel
theorem dX10_eliminate_82 : decode cX10_eliminate 82 = .ok (.bipush 17, 2) := by decide +kernel
theorem dX10_eliminate_84 : decode cX10_eliminate 84 = .ok (.iload_n 1, 1) := by decide +kernel
theorem dX10_eliminate_85 : decode cX10_eliminate 85 = .ok (.imul, 1) := by decide +kernel
theorem dX10_eliminate_86 : decode cX10_eliminate 86 = .ok (.iload 5, 2) := by decide +kernel
theorem dX10_eliminate_88 : decode cX10_eliminate 88 = .ok (.iadd, 1) := by decide +kernel
theorem dX10_eliminate_89 : decode cX10_eliminate 89 = .ok (.aload_n 0, 1) := by decide +kernel
theorem dX10_eliminate_90 : decode cX10_eliminate 90 = .ok (.getfield 50, 3) := by decide +kernel
theorem dX10_eliminate_93 : decode cX10_eliminate 93 = .ok (.bipush 17, 2) := by decide +kernel
theorem dX10_eliminate_95 : decode cX10_eliminate 95 = .ok (.iload 4, 2) := by decide +kernel
theorem dX10_eliminate_97 : decode cX10_eliminate 97 = .ok (.imul, 1) := by decide +kernel
theorem dX10_eliminate_98 : decode cX10_eliminate 98 = .ok (.iload 5, 2) := by decide +kernel
theorem dX10_eliminate_100 : decode cX10_eliminate 100 = .ok (.iadd, 1) := by decide +kernel
theorem dX10_eliminate_101 : decode cX10_eliminate 101 = .ok (.iaload, 1) := by decide +kernel
theorem dX10_eliminate_102 : decode cX10_eliminate 102 = .ok (.iastore, 1) := by decide +kernel
theorem dX10_eliminate_103 : decode cX10_eliminate 103 = .ok (.aload_n 0, 1) := by decide +kernel
theorem dX10_eliminate_104 : decode cX10_eliminate 104 = .ok (.getfield 50, 3) := by decide +kernel
theorem dX10_eliminate_107 : decode cX10_eliminate 107 = .ok (.bipush 17, 2) := by decide +kernel
theorem dX10_eliminate_109 : decode cX10_eliminate 109 = .ok (.iload 4, 2) := by decide +kernel
theorem dX10_eliminate_111 : decode cX10_eliminate 111 = .ok (.imul, 1) := by decide +kernel
theorem dX10_eliminate_112 : decode cX10_eliminate 112 = .ok (.iload 5, 2) := by decide +kernel
theorem dX10_eliminate_114 : decode cX10_eliminate 114 = .ok (.iadd, 1) := by decide +kernel
theorem dX10_eliminate_115 : decode cX10_eliminate 115 = .ok (.iload 6, 2) := by decide +kernel
theorem dX10_eliminate_117 : decode cX10_eliminate 117 = .ok (.iastore, 1) := by decide +kernel
theorem dX10_eliminate_118 : decode cX10_eliminate 118 = .ok (.iinc 5 1, 3) := by decide +kernel
theorem dX10_eliminate_121 : decode cX10_eliminate 121 = .ok (.goto (-64), 3) := by decide +kernel
theorem dX10_eliminate_124 : decode cX10_eliminate 124 = .ok (.aload_n 0, 1) := by decide +kernel
theorem dX10_eliminate_125 : decode cX10_eliminate 125 = .ok (.getfield 50, 3) := by decide +kernel
theorem dX10_eliminate_128 : decode cX10_eliminate 128 = .ok (.bipush 17, 2) := by decide +kernel
theorem dX10_eliminate_130 : decode cX10_eliminate 130 = .ok (.iload_n 1, 1) := by decide +kernel
theorem dX10_eliminate_131 : decode cX10_eliminate 131 = .ok (.imul, 1) := by decide +kernel
theorem dX10_eliminate_132 : decode cX10_eliminate 132 = .ok (.iload_n 2, 1) := by decide +kernel
theorem dX10_eliminate_133 : decode cX10_eliminate 133 = .ok (.iadd, 1) := by decide +kernel
theorem dX10_eliminate_134 : decode cX10_eliminate 134 = .ok (.iaload, 1) := by decide +kernel
theorem dX10_eliminate_135 : decode cX10_eliminate 135 = .ok (.iload_n 3, 1) := by decide +kernel
theorem dX10_eliminate_136 : decode cX10_eliminate 136 = .ok (.invokestatic 189, 3) := by decide +kernel
theorem dX10_eliminate_139 : decode cX10_eliminate 139 = .ok (.istore 5, 2) := by decide +kernel
theorem dX10_eliminate_141 : decode cX10_eliminate 141 = .ok (.iload_n 1, 1) := by decide +kernel
theorem dX10_eliminate_142 : decode cX10_eliminate 142 = .ok (.iconst 1, 1) := by decide +kernel
theorem dX10_eliminate_143 : decode cX10_eliminate 143 = .ok (.iadd, 1) := by decide +kernel
theorem dX10_eliminate_144 : decode cX10_eliminate 144 = .ok (.istore 6, 2) := by decide +kernel
theorem dX10_eliminate_146 : decode cX10_eliminate 146 = .ok (.iload 6, 2) := by decide +kernel
theorem dX10_eliminate_148 : decode cX10_eliminate 148 = .ok (.aload_n 0, 1) := by decide +kernel
theorem dX10_eliminate_149 : decode cX10_eliminate 149 = .ok (.invokevirtual 61, 3) := by decide +kernel
theorem dX10_eliminate_152 : decode cX10_eliminate 152 = .ok (.if_icmp .ge 96, 3) := by decide +kernel
theorem dX10_eliminate_155 : decode cX10_eliminate 155 = .ok (.aload_n 0, 1) := by decide +kernel
theorem dX10_eliminate_156 : decode cX10_eliminate 156 = .ok (.getfield 50, 3) := by decide +kernel
theorem dX10_eliminate_159 : decode cX10_eliminate 159 = .ok (.bipush 17, 2) := by decide +kernel
theorem dX10_eliminate_161 : decode cX10_eliminate 161 = .ok (.iload 6, 2) := by decide +kernel
theorem dX10_eliminate_163 : decode cX10_eliminate 163 = .ok (.imul, 1) := by decide +kernel
theorem dX10_eliminate_164 : decode cX10_eliminate 164 = .ok (.iload_n 2, 1) := by decide +kernel
theorem dX10_eliminate_165 : decode cX10_eliminate 165 = .ok (.iadd, 1) := by decide +kernel
theorem dX10_eliminate_166 : decode cX10_eliminate 166 = .ok (.iaload, 1) := by decide +kernel
theorem dX10_eliminate_167 : decode cX10_eliminate 167 = .ok (.iload 5, 2) := by decide +kernel
theorem dX10_eliminate_169 : decode cX10_eliminate 169 = .ok (.imul, 1) := by decide +kernel
theorem dX10_eliminate_170 : decode cX10_eliminate 170 = .ok (.iload_n 3, 1) := by decide +kernel
theorem dX10_eliminate_171 : decode cX10_eliminate 171 = .ok (.irem, 1) := by decide +kernel
theorem dX10_eliminate_172 : decode cX10_eliminate 172 = .ok (.istore 7, 2) := by decide +kernel
theorem dX10_eliminate_174 : decode cX10_eliminate 174 = .ok (.iconst 0, 1) := by decide +kernel
theorem dX10_eliminate_175 : decode cX10_eliminate 175 = .ok (.istore 8, 2) := by decide +kernel
theorem dX10_eliminate_177 : decode cX10_eliminate 177 = .ok (.iload 8, 2) := by decide +kernel
theorem dX10_eliminate_179 : decode cX10_eliminate 179 = .ok (.bipush 17, 2) := by decide +kernel
theorem dX10_eliminate_181 : decode cX10_eliminate 181 = .ok (.if_icmp .ge 61, 3) := by decide +kernel
theorem dX10_eliminate_184 : decode cX10_eliminate 184 = .ok (.aload_n 0, 1) := by decide +kernel
theorem dX10_eliminate_185 : decode cX10_eliminate 185 = .ok (.getfield 50, 3) := by decide +kernel
theorem dX10_eliminate_188 : decode cX10_eliminate 188 = .ok (.bipush 17, 2) := by decide +kernel
theorem dX10_eliminate_190 : decode cX10_eliminate 190 = .ok (.iload 6, 2) := by decide +kernel
theorem dX10_eliminate_192 : decode cX10_eliminate 192 = .ok (.imul, 1) := by decide +kernel
theorem dX10_eliminate_193 : decode cX10_eliminate 193 = .ok (.iload 8, 2) := by decide +kernel
theorem dX10_eliminate_195 : decode cX10_eliminate 195 = .ok (.iadd, 1) := by decide +kernel
theorem dX10_eliminate_196 : decode cX10_eliminate 196 = .ok (.iaload, 1) := by decide +kernel
theorem dX10_eliminate_197 : decode cX10_eliminate 197 = .ok (.iload 7, 2) := by decide +kernel
theorem dX10_eliminate_199 : decode cX10_eliminate 199 = .ok (.aload_n 0, 1) := by decide +kernel
theorem dX10_eliminate_200 : decode cX10_eliminate 200 = .ok (.getfield 50, 3) := by decide +kernel
theorem dX10_eliminate_203 : decode cX10_eliminate 203 = .ok (.bipush 17, 2) := by decide +kernel
theorem dX10_eliminate_205 : decode cX10_eliminate 205 = .ok (.iload_n 1, 1) := by decide +kernel
theorem dX10_eliminate_206 : decode cX10_eliminate 206 = .ok (.imul, 1) := by decide +kernel
theorem dX10_eliminate_207 : decode cX10_eliminate 207 = .ok (.iload 8, 2) := by decide +kernel
theorem dX10_eliminate_209 : decode cX10_eliminate 209 = .ok (.iadd, 1) := by decide +kernel
theorem dX10_eliminate_210 : decode cX10_eliminate 210 = .ok (.iaload, 1) := by decide +kernel
theorem dX10_eliminate_211 : decode cX10_eliminate 211 = .ok (.imul, 1) := by decide +kernel
theorem dX10_eliminate_212 : decode cX10_eliminate 212 = .ok (.iload_n 3, 1) := by decide +kernel
theorem dX10_eliminate_213 : decode cX10_eliminate 213 = .ok (.irem, 1) := by decide +kernel
theorem dX10_eliminate_214 : decode cX10_eliminate 214 = .ok (.isub, 1) := by decide +kernel
theorem dX10_eliminate_215 : decode cX10_eliminate 215 = .ok (.istore 9, 2) := by decide +kernel
theorem dX10_eliminate_217 : decode cX10_eliminate 217 = .ok (.aload_n 0, 1) := by decide +kernel
theorem dX10_eliminate_218 : decode cX10_eliminate 218 = .ok (.getfield 50, 3) := by decide +kernel
theorem dX10_eliminate_221 : decode cX10_eliminate 221 = .ok (.bipush 17, 2) := by decide +kernel
theorem dX10_eliminate_223 : decode cX10_eliminate 223 = .ok (.iload 6, 2) := by decide +kernel
theorem dX10_eliminate_225 : decode cX10_eliminate 225 = .ok (.imul, 1) := by decide +kernel
theorem dX10_eliminate_226 : decode cX10_eliminate 226 = .ok (.iload 8, 2) := by decide +kernel
theorem dX10_eliminate_228 : decode cX10_eliminate 228 = .ok (.iadd, 1) := by decide +kernel
theorem dX10_eliminate_229 : decode cX10_eliminate 229 = .ok (.iload 9, 2) := by decide +kernel
theorem dX10_eliminate_231 : decode cX10_eliminate 231 = .ok (.iload_n 3, 1) := by decide +kernel
theorem dX10_eliminate_232 : decode cX10_eliminate 232 = .ok (.iadd, 1) := by decide +kernel
theorem dX10_eliminate_233 : decode cX10_eliminate 233 = .ok (.iload_n 3, 1) := by decide +kernel
theorem dX10_eliminate_234 : decode cX10_eliminate 234 = .ok (.irem, 1) := by decide +kernel
theorem dX10_eliminate_235 : decode cX10_eliminate 235 = .ok (.iastore, 1) := by decide +kernel
theorem dX10_eliminate_236 : decode cX10_eliminate 236 = .ok (.iinc 8 1, 3) := by decide +kernel
theorem dX10_eliminate_239 : decode cX10_eliminate 239 = .ok (.goto (-62), 3) := by decide +kernel
theorem dX10_eliminate_242 : decode cX10_eliminate 242 = .ok (.iinc 6 1, 3) := by decide +kernel
theorem dX10_eliminate_245 : decode cX10_eliminate 245 = .ok (.goto (-99), 3) := by decide +kernel
theorem dX10_eliminate_248 : decode cX10_eliminate 248 = .ok (.iconst 1, 1) := by decide +kernel
theorem dX10_eliminate_249 : decode cX10_eliminate 249 = .ok (.ireturn, 1) := by decide +kernel
set_option maxRecDepth 20000 in
theorem ggX10_colouringDimension_X10_beginClasses : GoodIn wsX10_colouringDimension wsX10_beginClasses := goodIn_r _ [7, 8, 49, 50, 51, 52, 53, 54, 55, 56, 57, 58, 59, 60, 61, 62, 63, 64, 65] (by decide +kernel) (by decide +kernel)
set_option maxRecDepth 20000 in
theorem gX10_colouringDimension_X10_beginClasses : GoodIn wsX10_colouringDimension (wsV RX10 157 RX10 yX10_beginClasses wsX10_beginClasses) := goodIn_app (goodIn_of _ (by decide +kernel)) ggX10_colouringDimension_X10_beginClasses
set_option maxRecDepth 20000 in
theorem ggX10_colouringDimension_X10_crossings : GoodIn wsX10_colouringDimension wsX10_crossings := goodIn_r _ [12, 2, 49, 50, 51, 52, 53, 54, 55, 56, 57, 58, 59, 60, 61, 62, 63, 64, 65] (by decide +kernel) (by decide +kernel)
set_option maxRecDepth 20000 in
theorem gX10_colouringDimension_X10_crossings : GoodIn wsX10_colouringDimension (wsV RX10 61 RX10 yX10_crossings wsX10_crossings) := goodIn_app (goodIn_of _ (by decide +kernel)) ggX10_colouringDimension_X10_crossings
set_option maxRecDepth 20000 in
theorem ggX10_colouringDimension_X10_unite : GoodIn wsX10_colouringDimension wsX10_unite := goodIn_r _ [16, 8, 17, 18, 19, 6, 20, 2, 49, 50, 51, 52, 53, 54, 55, 56, 57, 58, 59, 60, 61, 62, 63, 64, 65] (by decide +kernel) (by decide +kernel)
set_option maxRecDepth 20000 in
theorem gX10_colouringDimension_X10_unite : GoodIn wsX10_colouringDimension (wsV RX10 160 RX10 yX10_unite wsX10_unite) := goodIn_app (goodIn_of _ (by decide +kernel)) ggX10_colouringDimension_X10_unite
set_option maxRecDepth 20000 in
theorem ggX10_colouringDimension_X10_layEquations : GoodIn wsX10_colouringDimension wsX10_layEquations := goodIn_r _ [24, 25, 9, 10, 11, 6, 12, 2, 26, 27, 28, 29, 8, 17, 18, 19, 20, 49, 50, 51, 52, 53, 54, 55, 56, 57, 58, 59, 60, 61, 62, 63, 64, 65] (by decide +kernel) (by decide +kernel)
set_option maxRecDepth 20000 in
theorem gX10_colouringDimension_X10_layEquations : GoodIn wsX10_colouringDimension (wsV RX10 192 RX10 yX10_layEquations wsX10_layEquations) := goodIn_app (goodIn_of _ (by decide +kernel)) ggX10_colouringDimension_X10_layEquations
set_option maxRecDepth 20000 in
theorem ggX10_colouringDimension_X10_eliminate : GoodIn wsX10_colouringDimension wsX10_eliminate := goodIn_r _ [33, 25, 9, 10, 11, 6, 12, 2, 34, 35, 36, 49, 50, 51, 52, 53, 54, 55, 56, 57, 58, 59, 60, 61, 62, 63, 64, 65] (by decide +kernel) (by decide +kernel)
set_option maxRecDepth 20000 in
theorem gX10_colouringDimension_X10_eliminate : GoodIn wsX10_colouringDimension (wsV RX10 195 RX10 yX10_eliminate wsX10_eliminate) := goodIn_app (goodIn_of _ (by decide +kernel)) ggX10_colouringDimension_X10_eliminate
set_option maxRecDepth 20000 in
theorem ggX10_colouringDimension_X10_classes : GoodIn wsX10_colouringDimension wsX10_classes := goodIn_r _ [40, 8, 41, 42, 43, 6, 44, 45, 46, 47, 48, 2, 17, 18, 19, 20, 49, 50, 51, 52, 53, 54, 55, 56, 57, 58, 59, 60, 61, 62, 63, 64, 65] (by decide +kernel) (by decide +kernel)
set_option maxRecDepth 20000 in
theorem gX10_colouringDimension_X10_classes : GoodIn wsX10_colouringDimension (wsV RX10 164 RX10 yX10_classes wsX10_classes) := goodIn_app (goodIn_of _ (by decide +kernel)) ggX10_colouringDimension_X10_classes
theorem dX10_colouringDimension_0 : decode cX10_colouringDimension 0 = .ok (.iload_n 1, 1) := by decide +kernel
theorem dX10_colouringDimension_1 : decode cX10_colouringDimension 1 = .ok (.iconst 3, 1) := by decide +kernel
theorem dX10_colouringDimension_2 : decode cX10_colouringDimension 2 = .ok (.if_icmp .eq 23, 3) := by decide +kernel
theorem dX10_colouringDimension_5 : decode cX10_colouringDimension 5 = .ok (.iload_n 1, 1) := by decide +kernel
theorem dX10_colouringDimension_6 : decode cX10_colouringDimension 6 = .ok (.iconst 5, 1) := by decide +kernel
theorem dX10_colouringDimension_7 : decode cX10_colouringDimension 7 = .ok (.if_icmp .eq 18, 3) := by decide +kernel
theorem dX10_colouringDimension_10 : decode cX10_colouringDimension 10 = .ok (.iload_n 1, 1) := by decide +kernel
theorem dX10_colouringDimension_11 : decode cX10_colouringDimension 11 = .ok (.bipush 7, 2) := by decide +kernel
theorem dX10_colouringDimension_13 : decode cX10_colouringDimension 13 = .ok (.if_icmp .eq 12, 3) := by decide +kernel
theorem dX10_colouringDimension_16 : decode cX10_colouringDimension 16 = .ok (.iload_n 1, 1) := by decide +kernel
theorem dX10_colouringDimension_17 : decode cX10_colouringDimension 17 = .ok (.bipush 11, 2) := by decide +kernel
theorem dX10_colouringDimension_19 : decode cX10_colouringDimension 19 = .ok (.if_icmp .eq 6, 3) := by decide +kernel
theorem dX10_colouringDimension_22 : decode cX10_colouringDimension 22 = .ok (.ldc 68, 2) := by decide +kernel
theorem dX10_colouringDimension_24 : decode cX10_colouringDimension 24 = .ok (.ireturn, 1) := by decide +kernel
theorem dX10_colouringDimension_25 : decode cX10_colouringDimension 25 = .ok (.aload_n 0, 1) := by decide +kernel
theorem dX10_colouringDimension_26 : decode cX10_colouringDimension 26 = .ok (.invokevirtual 157, 3) := by decide +kernel
theorem dX10_colouringDimension_29 : decode cX10_colouringDimension 29 = .ok (.iconst 0, 1) := by decide +kernel
theorem dX10_colouringDimension_30 : decode cX10_colouringDimension 30 = .ok (.istore_n 2, 1) := by decide +kernel
theorem dX10_colouringDimension_31 : decode cX10_colouringDimension 31 = .ok (.iload_n 2, 1) := by decide +kernel
theorem dX10_colouringDimension_32 : decode cX10_colouringDimension 32 = .ok (.aload_n 0, 1) := by decide +kernel
theorem dX10_colouringDimension_33 : decode cX10_colouringDimension 33 = .ok (.invokevirtual 61, 3) := by decide +kernel
theorem dX10_colouringDimension_36 : decode cX10_colouringDimension 36 = .ok (.if_icmp .ge 23, 3) := by decide +kernel
theorem dX10_colouringDimension_39 : decode cX10_colouringDimension 39 = .ok (.aload_n 0, 1) := by decide +kernel
theorem dX10_colouringDimension_40 : decode cX10_colouringDimension 40 = .ok (.iconst 4, 1) := by decide +kernel
theorem dX10_colouringDimension_41 : decode cX10_colouringDimension 41 = .ok (.iload_n 2, 1) := by decide +kernel
theorem dX10_colouringDimension_42 : decode cX10_colouringDimension 42 = .ok (.imul, 1) := by decide +kernel
theorem dX10_colouringDimension_43 : decode cX10_colouringDimension 43 = .ok (.iconst 1, 1) := by decide +kernel
theorem dX10_colouringDimension_44 : decode cX10_colouringDimension 44 = .ok (.iadd, 1) := by decide +kernel
theorem dX10_colouringDimension_45 : decode cX10_colouringDimension 45 = .ok (.iconst 4, 1) := by decide +kernel
theorem dX10_colouringDimension_46 : decode cX10_colouringDimension 46 = .ok (.iload_n 2, 1) := by decide +kernel
theorem dX10_colouringDimension_47 : decode cX10_colouringDimension 47 = .ok (.imul, 1) := by decide +kernel
theorem dX10_colouringDimension_48 : decode cX10_colouringDimension 48 = .ok (.iconst 3, 1) := by decide +kernel
theorem dX10_colouringDimension_49 : decode cX10_colouringDimension 49 = .ok (.iadd, 1) := by decide +kernel
theorem dX10_colouringDimension_50 : decode cX10_colouringDimension 50 = .ok (.invokevirtual 160, 3) := by decide +kernel
theorem dX10_colouringDimension_53 : decode cX10_colouringDimension 53 = .ok (.iinc 2 1, 3) := by decide +kernel
theorem dX10_colouringDimension_56 : decode cX10_colouringDimension 56 = .ok (.goto (-25), 3) := by decide +kernel
theorem dX10_colouringDimension_59 : decode cX10_colouringDimension 59 = .ok (.aload_n 0, 1) := by decide +kernel
theorem dX10_colouringDimension_60 : decode cX10_colouringDimension 60 = .ok (.iload_n 1, 1) := by decide +kernel
theorem dX10_colouringDimension_61 : decode cX10_colouringDimension 61 = .ok (.invokevirtual 192, 3) := by decide +kernel
theorem dX10_colouringDimension_64 : decode cX10_colouringDimension 64 = .ok (.iconst 0, 1) := by decide +kernel
theorem dX10_colouringDimension_65 : decode cX10_colouringDimension 65 = .ok (.istore_n 2, 1) := by decide +kernel
theorem dX10_colouringDimension_66 : decode cX10_colouringDimension 66 = .ok (.iconst 1, 1) := by decide +kernel
theorem dX10_colouringDimension_67 : decode cX10_colouringDimension 67 = .ok (.istore_n 3, 1) := by decide +kernel
theorem dX10_colouringDimension_68 : decode cX10_colouringDimension 68 = .ok (.iload_n 3, 1) := by decide +kernel
theorem dX10_colouringDimension_69 : decode cX10_colouringDimension 69 = .ok (.bipush 16, 2) := by decide +kernel
theorem dX10_colouringDimension_71 : decode cX10_colouringDimension 71 = .ok (.if_icmp .gt 35, 3) := by decide +kernel
theorem dX10_colouringDimension_74 : decode cX10_colouringDimension 74 = .ok (.iload_n 2, 1) := by decide +kernel
theorem dX10_colouringDimension_75 : decode cX10_colouringDimension 75 = .ok (.aload_n 0, 1) := by decide +kernel
theorem dX10_colouringDimension_76 : decode cX10_colouringDimension 76 = .ok (.invokevirtual 61, 3) := by decide +kernel
theorem dX10_colouringDimension_79 : decode cX10_colouringDimension 79 = .ok (.if_icmp .ge 27, 3) := by decide +kernel
theorem dX10_colouringDimension_82 : decode cX10_colouringDimension 82 = .ok (.iload_n 2, 1) := by decide +kernel
theorem dX10_colouringDimension_83 : decode cX10_colouringDimension 83 = .ok (.aload_n 0, 1) := by decide +kernel
theorem dX10_colouringDimension_84 : decode cX10_colouringDimension 84 = .ok (.iload_n 2, 1) := by decide +kernel
theorem dX10_colouringDimension_85 : decode cX10_colouringDimension 85 = .ok (.iload_n 3, 1) := by decide +kernel
theorem dX10_colouringDimension_86 : decode cX10_colouringDimension 86 = .ok (.iload_n 1, 1) := by decide +kernel
theorem dX10_colouringDimension_87 : decode cX10_colouringDimension 87 = .ok (.invokevirtual 195, 3) := by decide +kernel
theorem dX10_colouringDimension_90 : decode cX10_colouringDimension 90 = .ok (.ifCond .eq 7, 3) := by decide +kernel
theorem dX10_colouringDimension_93 : decode cX10_colouringDimension 93 = .ok (.iconst 1, 1) := by decide +kernel
theorem dX10_colouringDimension_94 : decode cX10_colouringDimension 94 = .ok (.goto 4, 3) := by decide +kernel
theorem dX10_colouringDimension_97 : decode cX10_colouringDimension 97 = .ok (.iconst 0, 1) := by decide +kernel
theorem dX10_colouringDimension_98 : decode cX10_colouringDimension 98 = .ok (.iadd, 1) := by decide +kernel
theorem dX10_colouringDimension_99 : decode cX10_colouringDimension 99 = .ok (.istore_n 2, 1) := by decide +kernel
theorem dX10_colouringDimension_100 : decode cX10_colouringDimension 100 = .ok (.iinc 3 1, 3) := by decide +kernel
theorem dX10_colouringDimension_103 : decode cX10_colouringDimension 103 = .ok (.goto (-35), 3) := by decide +kernel
theorem dX10_colouringDimension_106 : decode cX10_colouringDimension 106 = .ok (.aload_n 0, 1) := by decide +kernel
theorem dX10_colouringDimension_107 : decode cX10_colouringDimension 107 = .ok (.invokevirtual 164, 3) := by decide +kernel
theorem dX10_colouringDimension_110 : decode cX10_colouringDimension 110 = .ok (.aload_n 0, 1) := by decide +kernel
theorem dX10_colouringDimension_111 : decode cX10_colouringDimension 111 = .ok (.getfield 7, 3) := by decide +kernel
theorem dX10_colouringDimension_114 : decode cX10_colouringDimension 114 = .ok (.iconst 1, 1) := by decide +kernel
theorem dX10_colouringDimension_115 : decode cX10_colouringDimension 115 = .ok (.iaload, 1) := by decide +kernel
theorem dX10_colouringDimension_116 : decode cX10_colouringDimension 116 = .ok (.iadd, 1) := by decide +kernel
theorem dX10_colouringDimension_117 : decode cX10_colouringDimension 117 = .ok (.iload_n 2, 1) := by decide +kernel
theorem dX10_colouringDimension_118 : decode cX10_colouringDimension 118 = .ok (.isub, 1) := by decide +kernel
theorem dX10_colouringDimension_119 : decode cX10_colouringDimension 119 = .ok (.ireturn, 1) := by decide +kernel
set_option maxRecDepth 20000 in
theorem ggX10_undo_X10_become : GoodIn wsX10_undo wsX10_become := goodIn_r _ [8, 9, 10, 11, 12, 13, 14, 15, 16, 17, 18, 19, 20, 21, 22, 23, 24, 25, 26] (by decide +kernel) (by decide +kernel)
set_option maxRecDepth 20000 in
theorem gX10_undo_X10_become : GoodIn wsX10_undo (wsV RX10 103 RX10 yX10_become wsX10_become) := goodIn_app (goodIn_of _ (by decide +kernel)) ggX10_undo_X10_become
theorem dX10_undo_0 : decode cX10_undo 0 = .ok (.aload_n 0, 1) := by decide +kernel
theorem dX10_undo_1 : decode cX10_undo 1 = .ok (.getfield 94, 3) := by decide +kernel
theorem dX10_undo_4 : decode cX10_undo 4 = .ok (.ifCond .ne 6, 3) := by decide +kernel
theorem dX10_undo_7 : decode cX10_undo 7 = .ok (.ldc 133, 2) := by decide +kernel
theorem dX10_undo_9 : decode cX10_undo 9 = .ok (.ireturn, 1) := by decide +kernel
theorem dX10_undo_10 : decode cX10_undo 10 = .ok (.aload_n 0, 1) := by decide +kernel
theorem dX10_undo_11 : decode cX10_undo 11 = .ok (.dup, 1) := by decide +kernel
theorem dX10_undo_12 : decode cX10_undo 12 = .ok (.getfield 94, 3) := by decide +kernel
theorem dX10_undo_15 : decode cX10_undo 15 = .ok (.iconst 1, 1) := by decide +kernel
theorem dX10_undo_16 : decode cX10_undo 16 = .ok (.isub, 1) := by decide +kernel
theorem dX10_undo_17 : decode cX10_undo 17 = .ok (.putfield 94, 3) := by decide +kernel
theorem dX10_undo_20 : decode cX10_undo 20 = .ok (.aload_n 0, 1) := by decide +kernel
theorem dX10_undo_21 : decode cX10_undo 21 = .ok (.aload_n 0, 1) := by decide +kernel
theorem dX10_undo_22 : decode cX10_undo 22 = .ok (.getfield 13, 3) := by decide +kernel
theorem dX10_undo_25 : decode cX10_undo 25 = .ok (.bipush 34, 2) := by decide +kernel
theorem dX10_undo_27 : decode cX10_undo 27 = .ok (.aload_n 0, 1) := by decide +kernel
theorem dX10_undo_28 : decode cX10_undo 28 = .ok (.getfield 94, 3) := by decide +kernel
theorem dX10_undo_31 : decode cX10_undo 31 = .ok (.imul, 1) := by decide +kernel
theorem dX10_undo_32 : decode cX10_undo 32 = .ok (.invokevirtual 103, 3) := by decide +kernel
theorem dX10_undo_35 : decode cX10_undo 35 = .ok (.aload_n 0, 1) := by decide +kernel
theorem dX10_undo_36 : decode cX10_undo 36 = .ok (.getfield 94, 3) := by decide +kernel
theorem dX10_undo_39 : decode cX10_undo 39 = .ok (.ireturn, 1) := by decide +kernel
theorem dX10_undoDepth_0 : decode cX10_undoDepth 0 = .ok (.aload_n 0, 1) := by decide +kernel
theorem dX10_undoDepth_1 : decode cX10_undoDepth 1 = .ok (.getfield 94, 3) := by decide +kernel
theorem dX10_undoDepth_4 : decode cX10_undoDepth 4 = .ok (.ireturn, 1) := by decide +kernel
set_option maxRecDepth 20000 in
theorem ggX10_isSlot_X10_in : GoodIn wsX10_isSlot wsX10_in := goodIn_r _ [4] (by decide +kernel) (by decide +kernel)
set_option maxRecDepth 20000 in
theorem gX10_isSlot_X10_in : GoodIn wsX10_isSlot (va_wsS RX10 64 yX10_in wsX10_in) := goodIn_app (goodIn_of _ (by decide +kernel)) ggX10_isSlot_X10_in
theorem dX10_isSlot_0 : decode cX10_isSlot 0 = .ok (.iload_n 0, 1) := by decide +kernel
theorem dX10_isSlot_1 : decode cX10_isSlot 1 = .ok (.iconst 0, 1) := by decide +kernel
theorem dX10_isSlot_2 : decode cX10_isSlot 2 = .ok (.iconst 1, 1) := by decide +kernel
theorem dX10_isSlot_3 : decode cX10_isSlot 3 = .ok (.invokestatic 64, 3) := by decide +kernel
theorem dX10_isSlot_6 : decode cX10_isSlot 6 = .ok (.ireturn, 1) := by decide +kernel
set_option maxRecDepth 20000 in
theorem ggX10_save_X10_isSlot : GoodIn wsX10_save wsX10_isSlot := goodIn_r _ [8, 9, 10, 7, 11] (by decide +kernel) (by decide +kernel)
set_option maxRecDepth 20000 in
theorem gX10_save_X10_isSlot : GoodIn wsX10_save (va_wsS RX10 198 yX10_isSlot wsX10_isSlot) := goodIn_app (goodIn_of _ (by decide +kernel)) ggX10_save_X10_isSlot
set_option maxRecDepth 20000 in
theorem ggX10_save_X10_crossings : GoodIn wsX10_save wsX10_crossings := goodIn_r _ [15, 3, 16, 17, 18, 19, 20, 21, 22, 23, 24, 25, 26, 27, 28, 29, 30, 31, 32] (by decide +kernel) (by decide +kernel)
set_option maxRecDepth 20000 in
theorem gX10_save_X10_crossings : GoodIn wsX10_save (wsV RX10 61 RX10 yX10_crossings wsX10_crossings) := goodIn_app (goodIn_of _ (by decide +kernel)) ggX10_save_X10_crossings
theorem dX10_save_0 : decode cX10_save 0 = .ok (.iload_n 1, 1) := by decide +kernel
theorem dX10_save_1 : decode cX10_save 1 = .ok (.invokestatic 198, 3) := by decide +kernel
theorem dX10_save_4 : decode cX10_save 4 = .ok (.ifCond .ne 6, 3) := by decide +kernel
theorem dX10_save_7 : decode cX10_save 7 = .ok (.ldc 68, 2) := by decide +kernel
theorem dX10_save_9 : decode cX10_save 9 = .ok (.ireturn, 1) := by decide +kernel
theorem dX10_save_10 : decode cX10_save 10 = .ok (.iconst 0, 1) := by decide +kernel
theorem dX10_save_11 : decode cX10_save 11 = .ok (.istore_n 2, 1) := by decide +kernel
theorem dX10_save_12 : decode cX10_save 12 = .ok (.iload_n 2, 1) := by decide +kernel
theorem dX10_save_13 : decode cX10_save 13 = .ok (.bipush 34, 2) := by decide +kernel
theorem dX10_save_15 : decode cX10_save 15 = .ok (.if_icmp .ge 26, 3) := by decide +kernel
theorem dX10_save_18 : decode cX10_save 18 = .ok (.aload_n 0, 1) := by decide +kernel
theorem dX10_save_19 : decode cX10_save 19 = .ok (.getfield 16, 3) := by decide +kernel
theorem dX10_save_22 : decode cX10_save 22 = .ok (.bipush 34, 2) := by decide +kernel
theorem dX10_save_24 : decode cX10_save 24 = .ok (.iload_n 1, 1) := by decide +kernel
theorem dX10_save_25 : decode cX10_save 25 = .ok (.imul, 1) := by decide +kernel
theorem dX10_save_26 : decode cX10_save 26 = .ok (.iload_n 2, 1) := by decide +kernel
theorem dX10_save_27 : decode cX10_save 27 = .ok (.iadd, 1) := by decide +kernel
theorem dX10_save_28 : decode cX10_save 28 = .ok (.aload_n 0, 1) := by decide +kernel
theorem dX10_save_29 : decode cX10_save 29 = .ok (.getfield 7, 3) := by decide +kernel
theorem dX10_save_32 : decode cX10_save 32 = .ok (.iload_n 2, 1) := by decide +kernel
theorem dX10_save_33 : decode cX10_save 33 = .ok (.iaload, 1) := by decide +kernel
theorem dX10_save_34 : decode cX10_save 34 = .ok (.iastore, 1) := by decide +kernel
theorem dX10_save_35 : decode cX10_save 35 = .ok (.iinc 2 1, 3) := by decide +kernel
theorem dX10_save_38 : decode cX10_save 38 = .ok (.goto (-26), 3) := by decide +kernel
theorem dX10_save_41 : decode cX10_save 41 = .ok (.aload_n 0, 1) := by decide +kernel
theorem dX10_save_42 : decode cX10_save 42 = .ok (.getfield 19, 3) := by decide +kernel
theorem dX10_save_45 : decode cX10_save 45 = .ok (.iload_n 1, 1) := by decide +kernel
theorem dX10_save_46 : decode cX10_save 46 = .ok (.iconst 1, 1) := by decide +kernel
theorem dX10_save_47 : decode cX10_save 47 = .ok (.bastore, 1) := by decide +kernel
theorem dX10_save_48 : decode cX10_save 48 = .ok (.aload_n 0, 1) := by decide +kernel
theorem dX10_save_49 : decode cX10_save 49 = .ok (.invokevirtual 61, 3) := by decide +kernel
theorem dX10_save_52 : decode cX10_save 52 = .ok (.ireturn, 1) := by decide +kernel
set_option maxRecDepth 20000 in
theorem ggX10_restore_X10_isSlot : GoodIn wsX10_restore wsX10_isSlot := goodIn_r _ [9, 10, 11, 8, 12] (by decide +kernel) (by decide +kernel)
set_option maxRecDepth 20000 in
theorem gX10_restore_X10_isSlot : GoodIn wsX10_restore (va_wsS RX10 198 yX10_isSlot wsX10_isSlot) := goodIn_app (goodIn_of _ (by decide +kernel)) ggX10_restore_X10_isSlot
set_option maxRecDepth 20000 in
theorem ggX10_restore_X10_become : GoodIn wsX10_restore wsX10_become := goodIn_r _ [16, 17, 22, 23, 24, 25, 26, 27, 28, 29, 30, 31, 32, 33, 34, 35, 36, 37, 38] (by decide +kernel) (by decide +kernel)
set_option maxRecDepth 20000 in
theorem gX10_restore_X10_become : GoodIn wsX10_restore (wsV RX10 103 RX10 yX10_become wsX10_become) := goodIn_app (goodIn_of _ (by decide +kernel)) ggX10_restore_X10_become
set_option maxRecDepth 20000 in
theorem ggX10_restore_X10_crossings : GoodIn wsX10_restore wsX10_crossings := goodIn_r _ [21, 17, 22, 23, 24, 25, 26, 27, 28, 29, 30, 31, 32, 33, 34, 35, 36, 37, 38] (by decide +kernel) (by decide +kernel)
set_option maxRecDepth 20000 in
theorem gX10_restore_X10_crossings : GoodIn wsX10_restore (wsV RX10 61 RX10 yX10_crossings wsX10_crossings) := goodIn_app (goodIn_of _ (by decide +kernel)) ggX10_restore_X10_crossings
theorem dX10_restore_0 : decode cX10_restore 0 = .ok (.iload_n 1, 1) := by decide +kernel
theorem dX10_restore_1 : decode cX10_restore 1 = .ok (.invokestatic 198, 3) := by decide +kernel
theorem dX10_restore_4 : decode cX10_restore 4 = .ok (.ifCond .ne 6, 3) := by decide +kernel
theorem dX10_restore_7 : decode cX10_restore 7 = .ok (.ldc 68, 2) := by decide +kernel
theorem dX10_restore_9 : decode cX10_restore 9 = .ok (.ireturn, 1) := by decide +kernel
theorem dX10_restore_10 : decode cX10_restore 10 = .ok (.aload_n 0, 1) := by decide +kernel
theorem dX10_restore_11 : decode cX10_restore 11 = .ok (.getfield 19, 3) := by decide +kernel
theorem dX10_restore_14 : decode cX10_restore 14 = .ok (.iload_n 1, 1) := by decide +kernel
theorem dX10_restore_15 : decode cX10_restore 15 = .ok (.baload, 1) := by decide +kernel
theorem dX10_restore_16 : decode cX10_restore 16 = .ok (.ifCond .ne 6, 3) := by decide +kernel
theorem dX10_restore_19 : decode cX10_restore 19 = .ok (.ldc 133, 2) := by decide +kernel
theorem dX10_restore_21 : decode cX10_restore 21 = .ok (.ireturn, 1) := by decide +kernel
theorem dX10_restore_22 : decode cX10_restore 22 = .ok (.aload_n 0, 1) := by decide +kernel
theorem dX10_restore_23 : decode cX10_restore 23 = .ok (.aload_n 0, 1) := by decide +kernel
theorem dX10_restore_24 : decode cX10_restore 24 = .ok (.getfield 16, 3) := by decide +kernel
theorem dX10_restore_27 : decode cX10_restore 27 = .ok (.bipush 34, 2) := by decide +kernel
theorem dX10_restore_29 : decode cX10_restore 29 = .ok (.iload_n 1, 1) := by decide +kernel
theorem dX10_restore_30 : decode cX10_restore 30 = .ok (.imul, 1) := by decide +kernel
theorem dX10_restore_31 : decode cX10_restore 31 = .ok (.invokevirtual 103, 3) := by decide +kernel
theorem dX10_restore_34 : decode cX10_restore 34 = .ok (.aload_n 0, 1) := by decide +kernel
theorem dX10_restore_35 : decode cX10_restore 35 = .ok (.iconst 0, 1) := by decide +kernel
theorem dX10_restore_36 : decode cX10_restore 36 = .ok (.putfield 94, 3) := by decide +kernel
theorem dX10_restore_39 : decode cX10_restore 39 = .ok (.aload_n 0, 1) := by decide +kernel
theorem dX10_restore_40 : decode cX10_restore 40 = .ok (.invokevirtual 61, 3) := by decide +kernel
theorem dX10_restore_43 : decode cX10_restore 43 = .ok (.ireturn, 1) := by decide +kernel
theorem dJ6_bitCount_0f7a4_0 : decode cJ6_bitCount_0f7a4 0 = .ok (.iload_n 0, 1) := by decide +kernel
theorem dJ6_bitCount_0f7a4_1 : decode cJ6_bitCount_0f7a4 1 = .ok (.iload_n 0, 1) := by decide +kernel
theorem dJ6_bitCount_0f7a4_2 : decode cJ6_bitCount_0f7a4 2 = .ok (.iconst 1, 1) := by decide +kernel
theorem dJ6_bitCount_0f7a4_3 : decode cJ6_bitCount_0f7a4 3 = .ok (.iushr, 1) := by decide +kernel
theorem dJ6_bitCount_0f7a4_4 : decode cJ6_bitCount_0f7a4 4 = .ok (.ldc_w 265, 3) := by decide +kernel
theorem dJ6_bitCount_0f7a4_7 : decode cJ6_bitCount_0f7a4 7 = .ok (.iand, 1) := by decide +kernel
theorem dJ6_bitCount_0f7a4_8 : decode cJ6_bitCount_0f7a4 8 = .ok (.isub, 1) := by decide +kernel
theorem dJ6_bitCount_0f7a4_9 : decode cJ6_bitCount_0f7a4 9 = .ok (.istore_n 0, 1) := by decide +kernel
theorem dJ6_bitCount_0f7a4_10 : decode cJ6_bitCount_0f7a4 10 = .ok (.iload_n 0, 1) := by decide +kernel
theorem dJ6_bitCount_0f7a4_11 : decode cJ6_bitCount_0f7a4 11 = .ok (.ldc_w 266, 3) := by decide +kernel
theorem dJ6_bitCount_0f7a4_14 : decode cJ6_bitCount_0f7a4 14 = .ok (.iand, 1) := by decide +kernel
theorem dJ6_bitCount_0f7a4_15 : decode cJ6_bitCount_0f7a4 15 = .ok (.iload_n 0, 1) := by decide +kernel
theorem dJ6_bitCount_0f7a4_16 : decode cJ6_bitCount_0f7a4 16 = .ok (.iconst 2, 1) := by decide +kernel
theorem dJ6_bitCount_0f7a4_17 : decode cJ6_bitCount_0f7a4 17 = .ok (.iushr, 1) := by decide +kernel
theorem dJ6_bitCount_0f7a4_18 : decode cJ6_bitCount_0f7a4 18 = .ok (.ldc_w 266, 3) := by decide +kernel
theorem dJ6_bitCount_0f7a4_21 : decode cJ6_bitCount_0f7a4 21 = .ok (.iand, 1) := by decide +kernel
theorem dJ6_bitCount_0f7a4_22 : decode cJ6_bitCount_0f7a4 22 = .ok (.iadd, 1) := by decide +kernel
theorem dJ6_bitCount_0f7a4_23 : decode cJ6_bitCount_0f7a4 23 = .ok (.istore_n 0, 1) := by decide +kernel
theorem dJ6_bitCount_0f7a4_24 : decode cJ6_bitCount_0f7a4 24 = .ok (.iload_n 0, 1) := by decide +kernel
theorem dJ6_bitCount_0f7a4_25 : decode cJ6_bitCount_0f7a4 25 = .ok (.iload_n 0, 1) := by decide +kernel
theorem dJ6_bitCount_0f7a4_26 : decode cJ6_bitCount_0f7a4 26 = .ok (.iconst 4, 1) := by decide +kernel
theorem dJ6_bitCount_0f7a4_27 : decode cJ6_bitCount_0f7a4 27 = .ok (.iushr, 1) := by decide +kernel
theorem dJ6_bitCount_0f7a4_28 : decode cJ6_bitCount_0f7a4 28 = .ok (.iadd, 1) := by decide +kernel
theorem dJ6_bitCount_0f7a4_29 : decode cJ6_bitCount_0f7a4 29 = .ok (.ldc_w 267, 3) := by decide +kernel
theorem dJ6_bitCount_0f7a4_32 : decode cJ6_bitCount_0f7a4 32 = .ok (.iand, 1) := by decide +kernel
theorem dJ6_bitCount_0f7a4_33 : decode cJ6_bitCount_0f7a4 33 = .ok (.istore_n 0, 1) := by decide +kernel
theorem dJ6_bitCount_0f7a4_34 : decode cJ6_bitCount_0f7a4 34 = .ok (.iload_n 0, 1) := by decide +kernel
theorem dJ6_bitCount_0f7a4_35 : decode cJ6_bitCount_0f7a4 35 = .ok (.iload_n 0, 1) := by decide +kernel
theorem dJ6_bitCount_0f7a4_36 : decode cJ6_bitCount_0f7a4 36 = .ok (.bipush 8, 2) := by decide +kernel
theorem dJ6_bitCount_0f7a4_38 : decode cJ6_bitCount_0f7a4 38 = .ok (.iushr, 1) := by decide +kernel
theorem dJ6_bitCount_0f7a4_39 : decode cJ6_bitCount_0f7a4 39 = .ok (.iadd, 1) := by decide +kernel
theorem dJ6_bitCount_0f7a4_40 : decode cJ6_bitCount_0f7a4 40 = .ok (.istore_n 0, 1) := by decide +kernel
theorem dJ6_bitCount_0f7a4_41 : decode cJ6_bitCount_0f7a4 41 = .ok (.iload_n 0, 1) := by decide +kernel
theorem dJ6_bitCount_0f7a4_42 : decode cJ6_bitCount_0f7a4 42 = .ok (.iload_n 0, 1) := by decide +kernel
theorem dJ6_bitCount_0f7a4_43 : decode cJ6_bitCount_0f7a4 43 = .ok (.bipush 16, 2) := by decide +kernel
theorem dJ6_bitCount_0f7a4_45 : decode cJ6_bitCount_0f7a4 45 = .ok (.iushr, 1) := by decide +kernel
theorem dJ6_bitCount_0f7a4_46 : decode cJ6_bitCount_0f7a4 46 = .ok (.iadd, 1) := by decide +kernel
theorem dJ6_bitCount_0f7a4_47 : decode cJ6_bitCount_0f7a4 47 = .ok (.istore_n 0, 1) := by decide +kernel
theorem dJ6_bitCount_0f7a4_48 : decode cJ6_bitCount_0f7a4 48 = .ok (.iload_n 0, 1) := by decide +kernel
theorem dJ6_bitCount_0f7a4_49 : decode cJ6_bitCount_0f7a4 49 = .ok (.bipush 63, 2) := by decide +kernel
theorem dJ6_bitCount_0f7a4_51 : decode cJ6_bitCount_0f7a4 51 = .ok (.iand, 1) := by decide +kernel
theorem dJ6_bitCount_0f7a4_52 : decode cJ6_bitCount_0f7a4 52 = .ok (.ireturn, 1) := by decide +kernel
theorem dJ9_floorMod_7cf53_0 : decode cJ9_floorMod_7cf53 0 = .ok (.iload_n 0, 1) := by decide +kernel
theorem dJ9_floorMod_7cf53_1 : decode cJ9_floorMod_7cf53 1 = .ok (.iload_n 1, 1) := by decide +kernel
theorem dJ9_floorMod_7cf53_2 : decode cJ9_floorMod_7cf53 2 = .ok (.irem, 1) := by decide +kernel
theorem dJ9_floorMod_7cf53_3 : decode cJ9_floorMod_7cf53 3 = .ok (.istore_n 2, 1) := by decide +kernel
theorem dJ9_floorMod_7cf53_4 : decode cJ9_floorMod_7cf53 4 = .ok (.iload_n 0, 1) := by decide +kernel
theorem dJ9_floorMod_7cf53_5 : decode cJ9_floorMod_7cf53 5 = .ok (.iload_n 1, 1) := by decide +kernel
theorem dJ9_floorMod_7cf53_6 : decode cJ9_floorMod_7cf53 6 = .ok (.ixor, 1) := by decide +kernel
theorem dJ9_floorMod_7cf53_7 : decode cJ9_floorMod_7cf53 7 = .ok (.ifCond .ge 11, 3) := by decide +kernel
theorem dJ9_floorMod_7cf53_10 : decode cJ9_floorMod_7cf53 10 = .ok (.iload_n 2, 1) := by decide +kernel
theorem dJ9_floorMod_7cf53_11 : decode cJ9_floorMod_7cf53 11 = .ok (.ifCond .eq 7, 3) := by decide +kernel
theorem dJ9_floorMod_7cf53_14 : decode cJ9_floorMod_7cf53 14 = .ok (.iload_n 2, 1) := by decide +kernel
theorem dJ9_floorMod_7cf53_15 : decode cJ9_floorMod_7cf53 15 = .ok (.iload_n 1, 1) := by decide +kernel
theorem dJ9_floorMod_7cf53_16 : decode cJ9_floorMod_7cf53 16 = .ok (.iadd, 1) := by decide +kernel
theorem dJ9_floorMod_7cf53_17 : decode cJ9_floorMod_7cf53 17 = .ok (.ireturn, 1) := by decide +kernel
theorem dJ9_floorMod_7cf53_18 : decode cJ9_floorMod_7cf53 18 = .ok (.iload_n 2, 1) := by decide +kernel
theorem dJ9_floorMod_7cf53_19 : decode cJ9_floorMod_7cf53 19 = .ok (.ireturn, 1) := by decide +kernel
theorem dJ9_abs_0f7a4_0 : decode cJ9_abs_0f7a4 0 = .ok (.iload_n 0, 1) := by decide +kernel
theorem dJ9_abs_0f7a4_1 : decode cJ9_abs_0f7a4 1 = .ok (.ifCond .ge 8, 3) := by decide +kernel
theorem dJ9_abs_0f7a4_4 : decode cJ9_abs_0f7a4 4 = .ok (.iload_n 0, 1) := by decide +kernel
theorem dJ9_abs_0f7a4_5 : decode cJ9_abs_0f7a4 5 = .ok (.ineg, 1) := by decide +kernel
theorem dJ9_abs_0f7a4_6 : decode cJ9_abs_0f7a4 6 = .ok (.goto 4, 3) := by decide +kernel
theorem dJ9_abs_0f7a4_9 : decode cJ9_abs_0f7a4 9 = .ok (.iload_n 0, 1) := by decide +kernel
theorem dJ9_abs_0f7a4_10 : decode cJ9_abs_0f7a4 10 = .ok (.ireturn, 1) := by decide +kernel
theorem dJ9_max_7cf53_0 : decode cJ9_max_7cf53 0 = .ok (.iload_n 0, 1) := by decide +kernel
theorem dJ9_max_7cf53_1 : decode cJ9_max_7cf53 1 = .ok (.iload_n 1, 1) := by decide +kernel
theorem dJ9_max_7cf53_2 : decode cJ9_max_7cf53 2 = .ok (.if_icmp .lt 7, 3) := by decide +kernel
theorem dJ9_max_7cf53_5 : decode cJ9_max_7cf53 5 = .ok (.iload_n 0, 1) := by decide +kernel
theorem dJ9_max_7cf53_6 : decode cJ9_max_7cf53 6 = .ok (.goto 4, 3) := by decide +kernel
theorem dJ9_max_7cf53_9 : decode cJ9_max_7cf53 9 = .ok (.iload_n 1, 1) := by decide +kernel
theorem dJ9_max_7cf53_10 : decode cJ9_max_7cf53 10 = .ok (.ireturn, 1) := by decide +kernel
theorem dJ9_min_7cf53_0 : decode cJ9_min_7cf53 0 = .ok (.iload_n 0, 1) := by decide +kernel
theorem dJ9_min_7cf53_1 : decode cJ9_min_7cf53 1 = .ok (.iload_n 1, 1) := by decide +kernel
theorem dJ9_min_7cf53_2 : decode cJ9_min_7cf53 2 = .ok (.if_icmp .gt 7, 3) := by decide +kernel
theorem dJ9_min_7cf53_5 : decode cJ9_min_7cf53 5 = .ok (.iload_n 0, 1) := by decide +kernel
theorem dJ9_min_7cf53_6 : decode cJ9_min_7cf53 6 = .ok (.goto 4, 3) := by decide +kernel
theorem dJ9_min_7cf53_9 : decode cJ9_min_7cf53 9 = .ok (.iload_n 1, 1) := by decide +kernel
theorem dJ9_min_7cf53_10 : decode cJ9_min_7cf53 10 = .ok (.ireturn, 1) := by decide +kernel
set_option maxRecDepth 20000 in
theorem ggL_law_X9_init : GoodIn wsL_law wsX9_init := goodIn_r _ [8, 9, 10, 11, 12, 13, 14, 15, 16, 17, 18, 19, 20, 21, 22, 23, 24, 25, 26, 27, 28, 29, 30, 31, 32, 33, 34, 35, 36, 37, 38, 39, 40, 41, 42, 43, 44, 45, 46, 47, 48, 49, 50, 51, 52, 53, 54, 55, 56, 57, 58, 59, 60, 61, 62, 63, 64, 65, 66, 67, 872, 873, 846, 847, 848, 849, 850, 851, 852, 853, 854, 874, 875, 876, 877, 878, 879, 880, 881, 882, 883, 884, 885, 886, 887] (by decide +kernel) (by decide +kernel)
set_option maxRecDepth 20000 in
theorem gL_law_X9_init : GoodIn wsL_law (wsX9_init) := ggL_law_X9_init
set_option maxRecDepth 20000 in
theorem ggL_law_X10_init : GoodIn wsL_law wsX10_init := goodIn_r _ [70, 71, 10, 11, 41, 72, 73, 74, 54, 75, 76, 77, 78, 79, 80, 81, 82, 83, 84, 85, 855, 856, 857, 858, 859, 860, 861, 862, 863, 864, 865, 866, 867, 868, 869, 870, 871] (by decide +kernel) (by decide +kernel)
set_option maxRecDepth 20000 in
theorem gL_law_X10_init : GoodIn wsL_law (wsX10_init) := ggL_law_X10_init
set_option maxRecDepth 20000 in
theorem ggL_law_X9_append : GoodIn wsL_law wsX9_append := goodIn_r _ [89, 90, 15, 91, 92, 93, 94, 95, 14, 96, 97, 42, 846, 847, 848, 849, 850, 851, 852, 853, 854, 872, 873] (by decide +kernel) (by decide +kernel)
set_option maxRecDepth 20000 in
theorem gL_law_X9_append : GoodIn wsL_law (wsV RL 13 RX9 yX9_append wsX9_append) := goodIn_app (goodIn_of _ (by decide +kernel)) ggL_law_X9_append
set_option maxRecDepth 20000 in
theorem ggL_law_X10_append : GoodIn wsL_law wsX10_append := goodIn_r _ [101, 102, 103, 104, 76, 105, 106, 5, 107, 855, 856, 857, 858, 859, 860, 861, 862, 863, 864, 865, 866, 867, 868, 869, 870, 871] (by decide +kernel) (by decide +kernel)
set_option maxRecDepth 20000 in
theorem gL_law_X10_append : GoodIn wsL_law (wsV RL 17 RX10 yX10_append wsX10_append) := goodIn_app (goodIn_of _ (by decide +kernel)) ggL_law_X10_append
set_option maxRecDepth 20000 in
theorem ggL_law_X9_clearText : GoodIn wsL_law wsX9_clearText := goodIn_r _ [111, 15, 91, 846, 847, 848, 849, 850, 851, 852, 853, 854, 872, 873] (by decide +kernel) (by decide +kernel)
set_option maxRecDepth 20000 in
theorem gL_law_X9_clearText : GoodIn wsL_law (wsV RL 18 RX9 yX9_clearText wsX9_clearText) := goodIn_app (goodIn_of _ (by decide +kernel)) ggL_law_X9_clearText
set_option maxRecDepth 20000 in
theorem ggL_law_X10_clearText : GoodIn wsL_law wsX10_clearText := goodIn_r _ [115, 103, 855, 856, 857, 858, 859, 860, 861, 862, 863, 864, 865, 866, 867, 868, 869, 870, 871] (by decide +kernel) (by decide +kernel)
set_option maxRecDepth 20000 in
theorem gL_law_X10_clearText : GoodIn wsL_law (wsV RL 22 RX10 yX10_clearText wsX10_clearText) := goodIn_app (goodIn_of _ (by decide +kernel)) ggL_law_X10_clearText
set_option maxRecDepth 20000 in
theorem ggL_law_X9_load : GoodIn wsL_law wsX9_load := goodIn_r _ [119, 19, 15, 24, 91, 23, 120, 121, 122, 123, 18, 124, 125, 126, 127, 128, 129, 130, 22, 131, 132, 133, 49, 134, 135, 136, 14, 137, 138, 139, 140, 141, 142, 143, 144, 145, 97, 42, 146, 147, 148, 149, 150, 151, 152, 153, 154, 155, 156, 157, 158, 159, 160, 161, 162, 163, 164, 165, 166, 167, 168, 169, 170, 171, 172, 173, 174, 175, 176, 177, 178, 179, 180, 181, 182, 183, 184, 185, 186, 187, 188, 189, 190, 191, 192, 193, 194, 195, 196, 197, 2, 198, 199, 28, 200, 201, 202, 203, 204, 32, 205, 206, 207, 27, 208, 53, 209, 210, 55, 211, 212, 213, 214, 215, 216, 217, 218, 31, 219, 220, 846, 847, 848, 849, 850, 851, 852, 853, 854, 872, 873, 876, 877, 878, 874, 875, 879, 880, 881, 882, 883, 884, 885] (by decide +kernel) (by decide +kernel)
set_option maxRecDepth 20000 in
theorem gL_law_X9_load : GoodIn wsL_law (wsV RL 23 RX9 yX9_load wsX9_load) := goodIn_app (goodIn_of _ (by decide +kernel)) ggL_law_X9_load
set_option maxRecDepth 20000 in
theorem ggL_law_X10_load : GoodIn wsL_law wsX10_load := goodIn_r _ [224, 77, 103, 225, 226, 227, 5, 228, 229, 78, 230, 231, 232, 233, 76, 234, 235, 236, 237, 238, 239, 240, 241, 242, 243, 244, 245, 246, 247, 248, 249, 105, 106, 107, 250, 251, 252, 253, 254, 73, 72, 255, 256, 257, 258, 259, 260, 261, 262, 855, 856, 857, 858, 859, 860, 861, 862, 863, 864, 865, 866, 867, 868, 869, 870, 871] (by decide +kernel) (by decide +kernel)
set_option maxRecDepth 20000 in
theorem gL_law_X10_load : GoodIn wsL_law (wsV RL 26 RX10 yX10_load wsX10_load) := goodIn_app (goodIn_of _ (by decide +kernel)) ggL_law_X10_load
set_option maxRecDepth 20000 in
theorem ggL_law_X9_crossingCount : GoodIn wsL_law wsX9_crossingCount := goodIn_r _ [266, 23, 120, 846, 847, 848, 849, 850, 851, 852, 853, 854, 876, 877, 878] (by decide +kernel) (by decide +kernel)
set_option maxRecDepth 20000 in
theorem gL_law_X9_crossingCount : GoodIn wsL_law (wsV RL 27 RX9 yX9_crossingCount wsX9_crossingCount) := goodIn_app (goodIn_of _ (by decide +kernel)) ggL_law_X9_crossingCount
set_option maxRecDepth 20000 in
theorem ggL_law_X10_crossingCount : GoodIn wsL_law wsX10_crossingCount := goodIn_r _ [270, 259, 260, 261, 5, 262, 72, 855, 856, 857, 858, 859, 860, 861, 862, 863, 864, 865, 866, 867, 868, 869, 870, 871] (by decide +kernel) (by decide +kernel)
set_option maxRecDepth 20000 in
theorem gL_law_X10_crossingCount : GoodIn wsL_law (wsV RL 30 RX10 yX10_crossingCount wsX10_crossingCount) := goodIn_app (goodIn_of _ (by decide +kernel)) ggL_law_X10_crossingCount
set_option maxRecDepth 20000 in
theorem ggL_law_X9_circleCount : GoodIn wsL_law wsX9_circleCount := goodIn_r _ [274, 23, 37, 846, 847, 848, 849, 850, 851, 852, 853, 854, 876, 877, 878] (by decide +kernel) (by decide +kernel)
set_option maxRecDepth 20000 in
theorem gL_law_X9_circleCount : GoodIn wsL_law (wsV RL 31 RX9 yX9_circleCount wsX9_circleCount) := goodIn_app (goodIn_of _ (by decide +kernel)) ggL_law_X9_circleCount
set_option maxRecDepth 20000 in
theorem ggL_law_X10_circleCount : GoodIn wsL_law wsX10_circleCount := goodIn_r _ [278, 72, 855, 856, 857, 858, 859, 860, 861, 862, 863, 864, 865, 866, 867, 868, 869, 870, 871] (by decide +kernel) (by decide +kernel)
set_option maxRecDepth 20000 in
theorem gL_law_X10_circleCount : GoodIn wsL_law (wsV RL 34 RX10 yX10_circleCount wsX10_circleCount) := goodIn_app (goodIn_of _ (by decide +kernel)) ggL_law_X10_circleCount
set_option maxRecDepth 20000 in
theorem ggL_law_X9_arcAt : GoodIn wsL_law wsX9_arcAt := goodIn_r _ [282, 23, 90, 283, 284, 285, 22, 286, 132, 287, 182, 183, 184, 49, 846, 847, 848, 849, 850, 851, 852, 853, 854, 876, 877, 878] (by decide +kernel) (by decide +kernel)
set_option maxRecDepth 20000 in
theorem gL_law_X9_arcAt : GoodIn wsL_law (wsV RL 35 RX9 yX9_arcAt wsX9_arcAt) := goodIn_app (goodIn_of _ (by decide +kernel)) ggL_law_X9_arcAt
set_option maxRecDepth 20000 in
theorem ggL_law_X10_arcAt : GoodIn wsL_law wsX10_arcAt := goodIn_r _ [291, 102, 292, 293, 294, 5, 295, 259, 260, 261, 262, 72, 105, 106, 107, 296, 297, 298, 299, 855, 856, 857, 858, 859, 860, 861, 862, 863, 864, 865, 866, 867, 868, 869, 870, 871] (by decide +kernel) (by decide +kernel)
set_option maxRecDepth 20000 in
theorem gL_law_X10_arcAt : GoodIn wsL_law (wsV RL 39 RX10 yX10_arcAt wsX10_arcAt) := goodIn_app (goodIn_of _ (by decide +kernel)) ggL_law_X10_arcAt
set_option maxRecDepth 20000 in
theorem ggL_law_X9_switchCrossing : GoodIn wsL_law wsX9_switchCrossing := goodIn_r _ [303, 23, 90, 24, 283, 284, 285, 22, 286, 132, 212, 213, 214, 215, 133, 49, 304, 305, 306, 307, 181, 182, 183, 184, 308, 187, 188, 189, 195, 196, 197, 2, 198, 199, 28, 200, 201, 202, 203, 204, 32, 205, 206, 207, 27, 208, 53, 209, 210, 55, 211, 216, 217, 218, 31, 219, 220, 309, 310, 311, 312, 313, 314, 315, 316, 177, 178, 179, 180, 317, 318, 319, 320, 321, 322, 323, 324, 325, 326, 327, 328, 329, 330, 846, 847, 848, 849, 850, 851, 852, 853, 854, 876, 877, 878, 879, 880, 881, 882, 883, 884, 885] (by decide +kernel) (by decide +kernel)
set_option maxRecDepth 20000 in
theorem gL_law_X9_switchCrossing : GoodIn wsL_law (wsV RL 40 RX9 yX9_switchCrossing wsX9_switchCrossing) := goodIn_app (goodIn_of _ (by decide +kernel)) ggL_law_X9_switchCrossing
set_option maxRecDepth 20000 in
theorem ggL_law_X10_switchCrossing : GoodIn wsL_law wsX10_switchCrossing := goodIn_r _ [334, 102, 292, 293, 294, 5, 295, 259, 260, 261, 262, 72, 105, 106, 107, 250, 251, 252, 253, 254, 73, 335, 336, 337, 338, 339, 340, 341, 342, 80, 343, 344, 345, 346, 296, 297, 298, 299, 347, 348, 349, 350, 351, 352, 353, 354, 79, 355, 356, 357, 358, 359, 360, 361, 855, 856, 857, 858, 859, 860, 861, 862, 863, 864, 865, 866, 867, 868, 869, 870, 871] (by decide +kernel) (by decide +kernel)
set_option maxRecDepth 20000 in
theorem gL_law_X10_switchCrossing : GoodIn wsL_law (wsV RL 43 RX10 yX10_switchCrossing wsX10_switchCrossing) := goodIn_app (goodIn_of _ (by decide +kernel)) ggL_law_X10_switchCrossing
set_option maxRecDepth 20000 in
theorem ggL_law_X9_mirror : GoodIn wsL_law wsX9_mirror := goodIn_r _ [365, 23, 120, 366, 24, 212, 213, 214, 22, 215, 132, 133, 49, 304, 305, 306, 307, 181, 182, 183, 184, 308, 187, 188, 189, 195, 196, 197, 2, 198, 199, 28, 200, 201, 202, 203, 204, 32, 205, 206, 207, 27, 208, 53, 209, 210, 55, 211, 216, 217, 218, 31, 219, 220, 367, 368, 311, 369, 370, 371, 310, 312, 313, 314, 315, 316, 177, 178, 179, 180, 317, 318, 319, 320, 321, 322, 323, 324, 325, 326, 327, 372, 329, 330, 846, 847, 848, 849, 850, 851, 852, 853, 854, 876, 877, 878, 879, 880, 881, 882, 883, 884, 885] (by decide +kernel) (by decide +kernel)
set_option maxRecDepth 20000 in
theorem gL_law_X9_mirror : GoodIn wsL_law (wsV RL 44 RX9 yX9_mirror wsX9_mirror) := goodIn_app (goodIn_of _ (by decide +kernel)) ggL_law_X9_mirror
set_option maxRecDepth 20000 in
theorem ggL_law_X10_mirror : GoodIn wsL_law wsX10_mirror := goodIn_r _ [376, 377, 259, 260, 261, 5, 262, 72, 250, 251, 252, 253, 254, 73, 335, 336, 337, 338, 378, 379, 380, 381, 339, 340, 341, 342, 80, 343, 344, 345, 346, 296, 297, 298, 299, 347, 348, 349, 350, 351, 352, 353, 354, 79, 355, 356, 357, 358, 359, 360, 361, 855, 856, 857, 858, 859, 860, 861, 862, 863, 864, 865, 866, 867, 868, 869, 870, 871] (by decide +kernel) (by decide +kernel)
set_option maxRecDepth 20000 in
theorem gL_law_X10_mirror : GoodIn wsL_law (wsV RL 47 RX10 yX10_mirror wsX10_mirror) := goodIn_app (goodIn_of _ (by decide +kernel)) ggL_law_X10_mirror
set_option maxRecDepth 20000 in
theorem ggL_law_X9_removeKink : GoodIn wsL_law wsX9_removeKink := goodIn_r _ [385, 23, 90, 366, 24, 283, 284, 285, 22, 286, 132, 386, 387, 388, 389, 390, 391, 392, 393, 182, 183, 184, 49, 212, 213, 214, 215, 133, 394, 395, 396, 397, 398, 399, 400, 401, 402, 203, 403, 404, 202, 204, 181, 177, 178, 179, 180, 308, 187, 188, 189, 405, 406, 407, 408, 409, 410, 411, 2, 412, 37, 92, 120, 195, 196, 197, 198, 199, 28, 200, 201, 32, 205, 206, 207, 27, 208, 53, 209, 210, 55, 211, 216, 217, 218, 31, 219, 220, 846, 847, 848, 849, 850, 851, 852, 853, 854, 876, 877, 878, 879, 880, 881, 882, 883, 884, 885] (by decide +kernel) (by decide +kernel)
set_option maxRecDepth 20000 in
theorem gL_law_X9_removeKink : GoodIn wsL_law (wsV RL 48 RX9 yX9_removeKink wsX9_removeKink) := goodIn_app (goodIn_of _ (by decide +kernel)) ggL_law_X9_removeKink
set_option maxRecDepth 20000 in
theorem ggL_law_X10_removeKink : GoodIn wsL_law wsX10_removeKink := goodIn_r _ [416, 102, 377, 81, 292, 293, 294, 5, 295, 259, 260, 261, 262, 72, 105, 106, 107, 417, 418, 419, 420, 296, 297, 298, 299, 355, 356, 357, 421, 422, 423, 424, 425, 426, 427, 428, 429, 430, 431, 432, 433, 434, 104, 250, 251, 252, 253, 254, 73, 255, 256, 257, 258, 855, 856, 857, 858, 859, 860, 861, 862, 863, 864, 865, 866, 867, 868, 869, 870, 871] (by decide +kernel) (by decide +kernel)
set_option maxRecDepth 20000 in
theorem gL_law_X10_removeKink : GoodIn wsL_law (wsV RL 51 RX10 yX10_removeKink wsX10_removeKink) := goodIn_app (goodIn_of _ (by decide +kernel)) ggL_law_X10_removeKink
set_option maxRecDepth 20000 in
theorem ggL_law_X9_removeBigon : GoodIn wsL_law wsX9_removeBigon := goodIn_r _ [438, 23, 90, 366, 24, 283, 284, 285, 22, 286, 132, 439, 440, 388, 441, 442, 443, 444, 390, 391, 392, 393, 182, 183, 184, 49, 212, 213, 214, 215, 133, 445, 446, 447, 448, 402, 203, 403, 449, 202, 204, 397, 398, 399, 400, 401, 404, 181, 177, 178, 179, 180, 308, 187, 188, 189, 405, 406, 407, 408, 409, 410, 411, 2, 412, 37, 92, 120, 195, 196, 197, 198, 199, 28, 200, 201, 32, 205, 206, 207, 27, 208, 53, 209, 210, 55, 211, 216, 217, 218, 31, 219, 220, 846, 847, 848, 849, 850, 851, 852, 853, 854, 876, 877, 878, 879, 880, 881, 882, 883, 884, 885] (by decide +kernel) (by decide +kernel)
set_option maxRecDepth 20000 in
theorem gL_law_X9_removeBigon : GoodIn wsL_law (wsV RL 52 RX9 yX9_removeBigon wsX9_removeBigon) := goodIn_app (goodIn_of _ (by decide +kernel)) ggL_law_X9_removeBigon
set_option maxRecDepth 20000 in
theorem ggL_law_X10_removeBigon : GoodIn wsL_law wsX10_removeBigon := goodIn_r _ [453, 102, 377, 81, 292, 293, 294, 5, 295, 259, 260, 261, 262, 72, 105, 106, 107, 454, 455, 456, 457, 296, 297, 298, 299, 355, 356, 357, 421, 422, 423, 424, 425, 426, 427, 428, 429, 430, 431, 432, 433, 434, 104, 250, 251, 252, 253, 254, 73, 255, 256, 257, 258, 855, 856, 857, 858, 859, 860, 861, 862, 863, 864, 865, 866, 867, 868, 869, 870, 871] (by decide +kernel) (by decide +kernel)
set_option maxRecDepth 20000 in
theorem gL_law_X10_removeBigon : GoodIn wsL_law (wsV RL 55 RX10 yX10_removeBigon wsX10_removeBigon) := goodIn_app (goodIn_of _ (by decide +kernel)) ggL_law_X10_removeBigon
set_option maxRecDepth 20000 in
theorem ggL_law_X9_isKink : GoodIn wsL_law wsX9_isKink := goodIn_r _ [461, 23, 90, 283, 284, 285, 22, 286, 132, 386, 387, 388, 389, 390, 391, 392, 393, 182, 183, 184, 49, 846, 847, 848, 849, 850, 851, 852, 853, 854, 876, 877, 878] (by decide +kernel) (by decide +kernel)
set_option maxRecDepth 20000 in
theorem gL_law_X9_isKink : GoodIn wsL_law (wsV RL 56 RX9 yX9_isKink wsX9_isKink) := goodIn_app (goodIn_of _ (by decide +kernel)) ggL_law_X9_isKink
set_option maxRecDepth 20000 in
theorem ggL_law_X10_isKink : GoodIn wsL_law wsX10_isKink := goodIn_r _ [465, 102, 292, 293, 294, 5, 295, 259, 260, 261, 262, 72, 105, 106, 107, 417, 418, 419, 420, 296, 297, 298, 299, 355, 356, 357, 855, 856, 857, 858, 859, 860, 861, 862, 863, 864, 865, 866, 867, 868, 869, 870, 871] (by decide +kernel) (by decide +kernel)
set_option maxRecDepth 20000 in
theorem gL_law_X10_isKink : GoodIn wsL_law (wsV RL 59 RX10 yX10_isKink wsX10_isKink) := goodIn_app (goodIn_of _ (by decide +kernel)) ggL_law_X10_isKink
set_option maxRecDepth 20000 in
theorem ggL_law_X9_bigonPartner : GoodIn wsL_law wsX9_bigonPartner := goodIn_r _ [469, 23, 90, 120, 470, 283, 284, 285, 22, 286, 132, 439, 440, 388, 441, 442, 443, 444, 390, 391, 392, 393, 182, 183, 184, 49, 846, 847, 848, 849, 850, 851, 852, 853, 854, 876, 877, 878] (by decide +kernel) (by decide +kernel)
set_option maxRecDepth 20000 in
theorem gL_law_X9_bigonPartner : GoodIn wsL_law (wsV RL 60 RX9 yX9_bigonPartner wsX9_bigonPartner) := goodIn_app (goodIn_of _ (by decide +kernel)) ggL_law_X9_bigonPartner
set_option maxRecDepth 20000 in
theorem ggL_law_X10_bigonPartner : GoodIn wsL_law wsX10_bigonPartner := goodIn_r _ [474, 102, 475, 292, 293, 294, 5, 295, 259, 260, 261, 262, 72, 105, 106, 107, 454, 455, 456, 457, 296, 297, 298, 299, 355, 356, 357, 855, 856, 857, 858, 859, 860, 861, 862, 863, 864, 865, 866, 867, 868, 869, 870, 871] (by decide +kernel) (by decide +kernel)
set_option maxRecDepth 20000 in
theorem gL_law_X10_bigonPartner : GoodIn wsL_law (wsV RL 63 RX10 yX10_bigonPartner wsX10_bigonPartner) := goodIn_app (goodIn_of _ (by decide +kernel)) ggL_law_X10_bigonPartner
set_option maxRecDepth 20000 in
theorem ggL_law_X9_componentCount : GoodIn wsL_law wsX9_componentCount := goodIn_r _ [479, 23, 37, 480, 481, 311, 482, 483, 178, 179, 22, 180, 132, 321, 2, 322, 323, 324, 325, 326, 327, 317, 318, 319, 320, 181, 182, 183, 184, 49, 177, 846, 847, 848, 849, 850, 851, 852, 853, 854, 876, 877, 878] (by decide +kernel) (by decide +kernel)
set_option maxRecDepth 20000 in
theorem gL_law_X9_componentCount : GoodIn wsL_law (wsV RL 64 RX9 yX9_componentCount wsX9_componentCount) := goodIn_app (goodIn_of _ (by decide +kernel)) ggL_law_X9_componentCount
set_option maxRecDepth 20000 in
theorem ggL_law_X10_componentCount : GoodIn wsL_law wsX10_componentCount := goodIn_r _ [487, 72, 488, 489, 490, 5, 491, 82, 343, 344, 345, 346, 355, 356, 357, 492, 493, 494, 495, 296, 297, 298, 299, 496, 497, 498, 499, 500, 501, 502, 503, 855, 856, 857, 858, 859, 860, 861, 862, 863, 864, 865, 866, 867, 868, 869, 870, 871] (by decide +kernel) (by decide +kernel)
set_option maxRecDepth 20000 in
theorem gL_law_X10_componentCount : GoodIn wsL_law (wsV RL 67 RX10 yX10_componentCount wsX10_componentCount) := goodIn_app (goodIn_of _ (by decide +kernel)) ggL_law_X10_componentCount
set_option maxRecDepth 20000 in
theorem ggL_law_X9_partCount : GoodIn wsL_law wsX9_partCount := goodIn_r _ [507, 23, 37, 508, 509, 510, 511, 512, 321, 2, 322, 513, 514, 515, 326, 327, 516, 178, 179, 22, 180, 132, 517, 318, 319, 320, 181, 182, 183, 184, 49, 177, 846, 847, 848, 849, 850, 851, 852, 853, 854, 876, 877, 878] (by decide +kernel) (by decide +kernel)
set_option maxRecDepth 20000 in
theorem gL_law_X9_partCount : GoodIn wsL_law (wsV RL 68 RX9 yX9_partCount wsX9_partCount) := goodIn_app (goodIn_of _ (by decide +kernel)) ggL_law_X9_partCount
set_option maxRecDepth 20000 in
theorem ggL_law_X10_partCount : GoodIn wsL_law wsX10_partCount := goodIn_r _ [521, 72, 488, 489, 490, 5, 491, 82, 343, 344, 345, 346, 355, 356, 357, 492, 493, 494, 495, 296, 297, 298, 299, 496, 497, 498, 499, 500, 501, 502, 503, 855, 856, 857, 858, 859, 860, 861, 862, 863, 864, 865, 866, 867, 868, 869, 870, 871] (by decide +kernel) (by decide +kernel)
set_option maxRecDepth 20000 in
theorem gL_law_X10_partCount : GoodIn wsL_law (wsV RL 71 RX10 yX10_partCount wsX10_partCount) := goodIn_app (goodIn_of _ (by decide +kernel)) ggL_law_X10_partCount
set_option maxRecDepth 20000 in
theorem ggL_law_X9_faceCount : GoodIn wsL_law wsX9_faceCount := goodIn_r _ [525, 23, 37, 526, 527, 510, 528, 516, 178, 179, 22, 180, 132, 321, 2, 322, 529, 530, 531, 326, 327, 517, 318, 319, 320, 181, 182, 183, 184, 49, 177, 846, 847, 848, 849, 850, 851, 852, 853, 854, 876, 877, 878] (by decide +kernel) (by decide +kernel)
set_option maxRecDepth 20000 in
theorem gL_law_X9_faceCount : GoodIn wsL_law (wsV RL 72 RX9 yX9_faceCount wsX9_faceCount) := goodIn_app (goodIn_of _ (by decide +kernel)) ggL_law_X9_faceCount
set_option maxRecDepth 20000 in
theorem ggL_law_X10_faceCount : GoodIn wsL_law wsX10_faceCount := goodIn_r _ [535, 83, 72, 343, 344, 345, 5, 346, 347, 348, 349, 350, 296, 297, 298, 299, 355, 356, 357, 855, 856, 857, 858, 859, 860, 861, 862, 863, 864, 865, 866, 867, 868, 869, 870, 871] (by decide +kernel) (by decide +kernel)
set_option maxRecDepth 20000 in
theorem gL_law_X10_faceCount : GoodIn wsL_law (wsV RL 75 RX10 yX10_faceCount wsX10_faceCount) := goodIn_app (goodIn_of _ (by decide +kernel)) ggL_law_X10_faceCount
set_option maxRecDepth 20000 in
theorem ggL_law_X9_genus : GoodIn wsL_law wsX9_genus := goodIn_r _ [539, 23, 120, 540, 505, 506, 2, 507, 37, 508, 509, 510, 511, 512, 321, 322, 513, 514, 515, 326, 327, 516, 178, 179, 22, 180, 132, 517, 318, 319, 320, 181, 182, 183, 184, 49, 177, 541, 523, 524, 525, 526, 527, 528, 529, 530, 531, 846, 847, 848, 849, 850, 851, 852, 853, 854, 876, 877, 878] (by decide +kernel) (by decide +kernel)
set_option maxRecDepth 20000 in
theorem gL_law_X9_genus : GoodIn wsL_law (wsV RL 76 RX9 yX9_genus wsX9_genus) := goodIn_app (goodIn_of _ (by decide +kernel)) ggL_law_X9_genus
set_option maxRecDepth 20000 in
theorem ggL_law_X10_genus : GoodIn wsL_law wsX10_genus := goodIn_r _ [545, 259, 260, 261, 5, 262, 72, 546, 519, 520, 521, 488, 489, 490, 491, 82, 343, 344, 345, 346, 355, 356, 357, 492, 493, 494, 495, 296, 297, 298, 299, 496, 497, 498, 499, 500, 501, 502, 503, 547, 533, 534, 535, 83, 347, 348, 349, 350, 855, 856, 857, 858, 859, 860, 861, 862, 863, 864, 865, 866, 867, 868, 869, 870, 871] (by decide +kernel) (by decide +kernel)
set_option maxRecDepth 20000 in
theorem gL_law_X10_genus : GoodIn wsL_law (wsV RL 79 RX10 yX10_genus wsX10_genus) := goodIn_app (goodIn_of _ (by decide +kernel)) ggL_law_X10_genus
set_option maxRecDepth 20000 in
theorem ggL_law_X9_isAlternating : GoodIn wsL_law wsX9_isAlternating := goodIn_r _ [551, 23, 552, 553, 510, 554, 516, 178, 179, 22, 180, 132, 517, 318, 319, 320, 181, 182, 183, 184, 49, 177, 846, 847, 848, 849, 850, 851, 852, 853, 854, 876, 877, 878] (by decide +kernel) (by decide +kernel)
set_option maxRecDepth 20000 in
theorem gL_law_X9_isAlternating : GoodIn wsL_law (wsV RL 80 RX9 yX9_isAlternating wsX9_isAlternating) := goodIn_app (goodIn_of _ (by decide +kernel)) ggL_law_X9_isAlternating
set_option maxRecDepth 20000 in
theorem ggL_law_X10_isAlternating : GoodIn wsL_law wsX10_isAlternating := goodIn_r _ [558, 343, 344, 345, 5, 346, 72, 347, 348, 349, 350, 296, 297, 298, 299, 855, 856, 857, 858, 859, 860, 861, 862, 863, 864, 865, 866, 867, 868, 869, 870, 871] (by decide +kernel) (by decide +kernel)
set_option maxRecDepth 20000 in
theorem gL_law_X10_isAlternating : GoodIn wsL_law (wsV RL 83 RX10 yX10_isAlternating wsX10_isAlternating) := goodIn_app (goodIn_of _ (by decide +kernel)) ggL_law_X10_isAlternating
set_option maxRecDepth 20000 in
theorem ggL_law_X9_crossingSign : GoodIn wsL_law wsX9_crossingSign := goodIn_r _ [562, 23, 90, 283, 284, 285, 22, 286, 132, 309, 310, 311, 312, 313, 314, 315, 316, 177, 178, 179, 180, 181, 182, 183, 184, 49, 317, 318, 319, 320, 321, 2, 322, 323, 324, 325, 326, 327, 328, 329, 330, 846, 847, 848, 849, 850, 851, 852, 853, 854, 876, 877, 878] (by decide +kernel) (by decide +kernel)
set_option maxRecDepth 20000 in
theorem gL_law_X9_crossingSign : GoodIn wsL_law (wsV RL 84 RX9 yX9_crossingSign wsX9_crossingSign) := goodIn_app (goodIn_of _ (by decide +kernel)) ggL_law_X9_crossingSign
set_option maxRecDepth 20000 in
theorem ggL_law_X10_crossingSign : GoodIn wsL_law wsX10_crossingSign := goodIn_r _ [566, 102, 292, 293, 294, 5, 295, 259, 260, 261, 262, 72, 105, 106, 107, 339, 340, 341, 342, 80, 343, 344, 345, 346, 296, 297, 298, 299, 347, 348, 349, 350, 351, 352, 353, 354, 79, 355, 356, 357, 358, 359, 360, 361, 855, 856, 857, 858, 859, 860, 861, 862, 863, 864, 865, 866, 867, 868, 869, 870, 871] (by decide +kernel) (by decide +kernel)
set_option maxRecDepth 20000 in
theorem gL_law_X10_crossingSign : GoodIn wsL_law (wsV RL 87 RX10 yX10_crossingSign wsX10_crossingSign) := goodIn_app (goodIn_of _ (by decide +kernel)) ggL_law_X10_crossingSign
set_option maxRecDepth 20000 in
theorem ggL_law_X9_writhe : GoodIn wsL_law wsX9_writhe := goodIn_r _ [570, 23, 367, 368, 311, 369, 370, 371, 310, 312, 313, 314, 315, 22, 316, 177, 178, 179, 180, 132, 181, 182, 183, 184, 49, 317, 318, 319, 320, 321, 2, 322, 323, 324, 325, 326, 327, 372, 329, 330, 846, 847, 848, 849, 850, 851, 852, 853, 854, 876, 877, 878] (by decide +kernel) (by decide +kernel)
set_option maxRecDepth 20000 in
theorem gL_law_X9_writhe : GoodIn wsL_law (wsV RL 88 RX9 yX9_writhe wsX9_writhe) := goodIn_app (goodIn_of _ (by decide +kernel)) ggL_law_X9_writhe
set_option maxRecDepth 20000 in
theorem ggL_law_X10_writhe : GoodIn wsL_law wsX10_writhe := goodIn_r _ [574, 378, 379, 380, 5, 381, 339, 340, 341, 342, 80, 343, 344, 345, 346, 72, 296, 297, 298, 299, 347, 348, 349, 350, 351, 352, 353, 354, 79, 355, 356, 357, 259, 260, 261, 262, 358, 359, 360, 361, 855, 856, 857, 858, 859, 860, 861, 862, 863, 864, 865, 866, 867, 868, 869, 870, 871] (by decide +kernel) (by decide +kernel)
set_option maxRecDepth 20000 in
theorem gL_law_X10_writhe : GoodIn wsL_law (wsV RL 91 RX10 yX10_writhe wsX10_writhe) := goodIn_app (goodIn_of _ (by decide +kernel)) ggL_law_X10_writhe
set_option maxRecDepth 20000 in
theorem ggL_law_X9_stateLoops : GoodIn wsL_law wsX9_stateLoops := goodIn_r _ [578, 23, 120, 90, 32, 579, 580, 581, 31, 582, 583, 584, 585, 586, 59, 587, 318, 319, 22, 320, 181, 182, 183, 184, 49, 177, 178, 179, 180, 132, 588, 589, 590, 591, 592, 593, 321, 2, 322, 594, 595, 596, 597, 326, 327, 846, 847, 848, 849, 850, 851, 852, 853, 854, 876, 877, 878, 881, 882, 883, 884, 885] (by decide +kernel) (by decide +kernel)
set_option maxRecDepth 20000 in
theorem gL_law_X9_stateLoops : GoodIn wsL_law (wsV RL 92 RX9 yX9_stateLoops wsX9_stateLoops) := goodIn_app (goodIn_of _ (by decide +kernel)) ggL_law_X9_stateLoops
set_option maxRecDepth 20000 in
theorem ggL_law_X10_stateLoops : GoodIn wsL_law wsX10_stateLoops := goodIn_r _ [601, 102, 259, 260, 261, 5, 262, 72, 105, 106, 107, 602, 603, 604, 605, 488, 489, 490, 491, 82, 492, 493, 494, 495, 296, 297, 298, 299, 496, 497, 498, 499, 500, 501, 502, 503, 343, 344, 345, 346, 855, 856, 857, 858, 859, 860, 861, 862, 863, 864, 865, 866, 867, 868, 869, 870, 871] (by decide +kernel) (by decide +kernel)
set_option maxRecDepth 20000 in
theorem gL_law_X10_stateLoops : GoodIn wsL_law (wsV RL 95 RX10 yX10_stateLoops wsX10_stateLoops) := goodIn_app (goodIn_of _ (by decide +kernel)) ggL_law_X10_stateLoops
set_option maxRecDepth 20000 in
theorem ggL_law_X9_coefficient : GoodIn wsL_law wsX9_coefficient := goodIn_r _ [609, 90, 32, 23, 610, 611, 2, 612, 613, 614, 615, 31, 616, 220, 617, 583, 584, 585, 586, 59, 587, 318, 319, 22, 320, 181, 182, 183, 184, 49, 177, 178, 179, 180, 132, 618, 619, 620, 621, 60, 588, 589, 590, 591, 592, 593, 321, 322, 594, 595, 596, 597, 326, 327, 622, 623, 624, 625, 626, 627, 628, 629, 630, 631, 632, 633, 634, 635, 61, 636, 637, 638, 639, 62, 640, 641, 642, 643, 644, 645, 646, 647, 648, 846, 847, 848, 849, 850, 851, 852, 853, 854, 881, 882, 883, 884, 885, 876, 877, 878] (by decide +kernel) (by decide +kernel)
set_option maxRecDepth 20000 in
theorem gL_law_X9_coefficient : GoodIn wsL_law (wsV RL 96 RX9 yX9_coefficient wsX9_coefficient) := goodIn_app (goodIn_of _ (by decide +kernel)) ggL_law_X9_coefficient
set_option maxRecDepth 20000 in
theorem ggL_law_X10_coefficient : GoodIn wsL_law wsX10_coefficient := goodIn_r _ [652, 102, 84, 653, 654, 5, 655, 105, 106, 107, 656, 657, 658, 659, 259, 260, 261, 262, 72, 602, 603, 604, 605, 488, 489, 490, 491, 82, 492, 493, 494, 495, 296, 297, 298, 299, 496, 497, 498, 499, 500, 501, 502, 503, 343, 344, 345, 346, 855, 856, 857, 858, 859, 860, 861, 862, 863, 864, 865, 866, 867, 868, 869, 870, 871] (by decide +kernel) (by decide +kernel)
set_option maxRecDepth 20000 in
theorem gL_law_X10_coefficient : GoodIn wsL_law (wsV RL 99 RX10 yX10_coefficient wsX10_coefficient) := goodIn_app (goodIn_of _ (by decide +kernel)) ggL_law_X10_coefficient
set_option maxRecDepth 20000 in
theorem ggL_law_X9_normalizedCoefficient : GoodIn wsL_law wsX9_normalizedCoefficient := goodIn_r _ [663, 90, 32, 23, 610, 611, 2, 612, 613, 614, 615, 31, 616, 220, 617, 583, 584, 585, 586, 59, 587, 318, 319, 22, 320, 181, 182, 183, 184, 49, 177, 178, 179, 180, 132, 618, 619, 620, 621, 60, 588, 589, 590, 591, 592, 593, 321, 322, 594, 595, 596, 597, 326, 327, 622, 623, 624, 625, 626, 627, 628, 629, 630, 631, 632, 633, 634, 635, 61, 636, 637, 638, 639, 62, 640, 641, 642, 643, 644, 645, 646, 647, 367, 368, 311, 369, 370, 371, 310, 312, 313, 314, 315, 316, 317, 323, 324, 325, 372, 329, 330, 648, 846, 847, 848, 849, 850, 851, 852, 853, 854, 881, 882, 883, 884, 885, 876, 877, 878] (by decide +kernel) (by decide +kernel)
set_option maxRecDepth 20000 in
theorem gL_law_X9_normalizedCoefficient : GoodIn wsL_law (wsV RL 100 RX9 yX9_normalizedCoefficient wsX9_normalizedCoefficient) := goodIn_app (goodIn_of _ (by decide +kernel)) ggL_law_X9_normalizedCoefficient
set_option maxRecDepth 20000 in
theorem ggL_law_X10_normalizedCoefficient : GoodIn wsL_law wsX10_normalizedCoefficient := goodIn_r _ [667, 102, 84, 653, 654, 5, 655, 105, 106, 107, 656, 657, 658, 659, 259, 260, 261, 262, 72, 602, 603, 604, 605, 488, 489, 490, 491, 82, 492, 493, 494, 495, 296, 297, 298, 299, 496, 497, 498, 499, 500, 501, 502, 503, 343, 344, 345, 346, 378, 379, 380, 381, 339, 340, 341, 342, 80, 347, 348, 349, 350, 351, 352, 353, 354, 79, 355, 356, 357, 358, 359, 360, 361, 855, 856, 857, 858, 859, 860, 861, 862, 863, 864, 865, 866, 867, 868, 869, 870, 871] (by decide +kernel) (by decide +kernel)
set_option maxRecDepth 20000 in
theorem gL_law_X10_normalizedCoefficient : GoodIn wsL_law (wsV RL 103 RX10 yX10_normalizedCoefficient wsX10_normalizedCoefficient) := goodIn_app (goodIn_of _ (by decide +kernel)) ggL_law_X10_normalizedCoefficient
set_option maxRecDepth 20000 in
theorem ggL_law_X9_lowestExponent : GoodIn wsL_law wsX9_lowestExponent := goodIn_r _ [671, 32, 23, 613, 614, 615, 31, 616, 220, 617, 583, 584, 585, 586, 59, 587, 318, 319, 22, 320, 181, 182, 183, 184, 49, 177, 178, 179, 180, 132, 618, 619, 620, 621, 60, 588, 589, 590, 591, 592, 593, 321, 2, 322, 594, 595, 596, 597, 326, 327, 622, 623, 624, 625, 626, 627, 628, 629, 630, 631, 632, 633, 634, 635, 61, 636, 637, 638, 639, 62, 640, 641, 642, 643, 644, 645, 646, 647, 672, 673, 674, 675, 676, 846, 847, 848, 849, 850, 851, 852, 853, 854, 881, 882, 883, 884, 885, 876, 877, 878] (by decide +kernel) (by decide +kernel)
set_option maxRecDepth 20000 in
theorem gL_law_X9_lowestExponent : GoodIn wsL_law (wsV RL 104 RX9 yX9_lowestExponent wsX9_lowestExponent) := goodIn_app (goodIn_of _ (by decide +kernel)) ggL_law_X9_lowestExponent
set_option maxRecDepth 20000 in
theorem ggL_law_X10_lowestExponent : GoodIn wsL_law wsX10_lowestExponent := goodIn_r _ [680, 656, 657, 658, 5, 659, 84, 259, 260, 261, 262, 72, 602, 603, 604, 605, 488, 489, 490, 491, 82, 492, 493, 494, 495, 296, 297, 298, 299, 496, 497, 498, 499, 500, 501, 502, 503, 343, 344, 345, 346, 681, 682, 683, 684, 475, 855, 856, 857, 858, 859, 860, 861, 862, 863, 864, 865, 866, 867, 868, 869, 870, 871] (by decide +kernel) (by decide +kernel)
set_option maxRecDepth 20000 in
theorem gL_law_X10_lowestExponent : GoodIn wsL_law (wsV RL 107 RX10 yX10_lowestExponent wsX10_lowestExponent) := goodIn_app (goodIn_of _ (by decide +kernel)) ggL_law_X10_lowestExponent
set_option maxRecDepth 20000 in
theorem ggL_law_X9_highestExponent : GoodIn wsL_law wsX9_highestExponent := goodIn_r _ [688, 32, 23, 613, 614, 615, 31, 616, 220, 617, 583, 584, 585, 586, 59, 587, 318, 319, 22, 320, 181, 182, 183, 184, 49, 177, 178, 179, 180, 132, 618, 619, 620, 621, 60, 588, 589, 590, 591, 592, 593, 321, 2, 322, 594, 595, 596, 597, 326, 327, 622, 623, 624, 625, 626, 627, 628, 629, 630, 631, 632, 633, 634, 635, 61, 636, 637, 638, 639, 62, 640, 641, 642, 643, 644, 645, 646, 647, 689, 690, 691, 692, 676, 846, 847, 848, 849, 850, 851, 852, 853, 854, 881, 882, 883, 884, 885, 876, 877, 878] (by decide +kernel) (by decide +kernel)
set_option maxRecDepth 20000 in
theorem gL_law_X9_highestExponent : GoodIn wsL_law (wsV RL 108 RX9 yX9_highestExponent wsX9_highestExponent) := goodIn_app (goodIn_of _ (by decide +kernel)) ggL_law_X9_highestExponent
set_option maxRecDepth 20000 in
theorem ggL_law_X10_highestExponent : GoodIn wsL_law wsX10_highestExponent := goodIn_r _ [696, 475, 84, 656, 657, 658, 5, 659, 259, 260, 261, 262, 72, 602, 603, 604, 605, 488, 489, 490, 491, 82, 492, 493, 494, 495, 296, 297, 298, 299, 496, 497, 498, 499, 500, 501, 502, 503, 343, 344, 345, 346, 855, 856, 857, 858, 859, 860, 861, 862, 863, 864, 865, 866, 867, 868, 869, 870, 871] (by decide +kernel) (by decide +kernel)
set_option maxRecDepth 20000 in
theorem gL_law_X10_highestExponent : GoodIn wsL_law (wsV RL 111 RX10 yX10_highestExponent wsX10_highestExponent) := goodIn_app (goodIn_of _ (by decide +kernel)) ggL_law_X10_highestExponent
set_option maxRecDepth 20000 in
theorem ggL_law_X9_determinant : GoodIn wsL_law wsX9_determinant := goodIn_r _ [700, 32, 23, 613, 614, 615, 31, 616, 220, 617, 583, 584, 585, 586, 59, 587, 318, 319, 22, 320, 181, 182, 183, 184, 49, 177, 178, 179, 180, 132, 618, 619, 620, 621, 60, 588, 589, 590, 591, 592, 593, 321, 2, 322, 594, 595, 596, 597, 326, 327, 622, 623, 624, 625, 626, 627, 628, 629, 630, 631, 632, 633, 634, 635, 61, 636, 637, 638, 639, 62, 640, 641, 642, 643, 644, 645, 646, 647, 701, 702, 703, 704, 676, 705, 706, 203, 707, 708, 673, 674, 675, 846, 847, 848, 849, 850, 851, 852, 853, 854, 881, 882, 883, 884, 885, 876, 877, 878] (by decide +kernel) (by decide +kernel)
set_option maxRecDepth 20000 in
theorem gL_law_X9_determinant : GoodIn wsL_law (wsV RL 112 RX9 yX9_determinant wsX9_determinant) := goodIn_app (goodIn_of _ (by decide +kernel)) ggL_law_X9_determinant
set_option maxRecDepth 20000 in
theorem ggL_law_X10_determinant : GoodIn wsL_law wsX10_determinant := goodIn_r _ [712, 475, 84, 656, 657, 658, 5, 659, 259, 260, 261, 262, 72, 602, 603, 604, 605, 488, 489, 490, 491, 82, 492, 493, 494, 495, 296, 297, 298, 299, 496, 497, 498, 499, 500, 501, 502, 503, 343, 344, 345, 346, 681, 682, 683, 684, 855, 856, 857, 858, 859, 860, 861, 862, 863, 864, 865, 866, 867, 868, 869, 870, 871] (by decide +kernel) (by decide +kernel)
set_option maxRecDepth 20000 in
theorem gL_law_X10_determinant : GoodIn wsL_law (wsV RL 115 RX10 yX10_determinant wsX10_determinant) := goodIn_app (goodIn_of _ (by decide +kernel)) ggL_law_X10_determinant
set_option maxRecDepth 20000 in
theorem ggL_law_X9_colouringDimension : GoodIn wsL_law wsX9_colouringDimension := goodIn_r _ [716, 90, 36, 23, 717, 718, 719, 35, 720, 721, 722, 723, 724, 725, 726, 66, 727, 202, 203, 204, 728, 402, 403, 729, 182, 183, 22, 184, 49, 730, 731, 732, 733, 734, 735, 736, 737, 738, 739, 740, 741, 67, 742, 743, 744, 745, 746, 747, 748, 749, 750, 751, 752, 753, 754, 755, 756, 757, 758, 759, 760, 761, 762, 314, 315, 316, 177, 178, 179, 180, 132, 181, 763, 764, 765, 766, 767, 768, 769, 770, 771, 772, 773, 774, 775, 776, 777, 778, 846, 847, 848, 849, 850, 851, 852, 853, 854, 876, 877, 878, 886, 887] (by decide +kernel) (by decide +kernel)
set_option maxRecDepth 20000 in
theorem gL_law_X9_colouringDimension : GoodIn wsL_law (wsV RL 116 RX9 yX9_colouringDimension wsX9_colouringDimension) := goodIn_app (goodIn_of _ (by decide +kernel)) ggL_law_X9_colouringDimension
set_option maxRecDepth 20000 in
theorem ggL_law_X10_colouringDimension : GoodIn wsL_law wsX10_colouringDimension := goodIn_r _ [782, 102, 72, 488, 489, 490, 5, 491, 82, 259, 260, 261, 262, 492, 493, 494, 495, 296, 297, 298, 299, 783, 784, 785, 786, 85, 787, 788, 789, 790, 791, 792, 793, 794, 795, 796, 797, 496, 497, 498, 499, 500, 501, 502, 503, 343, 344, 345, 346, 855, 856, 857, 858, 859, 860, 861, 862, 863, 864, 865, 866, 867, 868, 869, 870, 871] (by decide +kernel) (by decide +kernel)
set_option maxRecDepth 20000 in
theorem gL_law_X10_colouringDimension : GoodIn wsL_law (wsV RL 119 RX10 yX10_colouringDimension wsX10_colouringDimension) := goodIn_app (goodIn_of _ (by decide +kernel)) ggL_law_X10_colouringDimension
set_option maxRecDepth 20000 in
theorem ggL_law_X9_undo : GoodIn wsL_law wsX9_undo := goodIn_r _ [801, 200, 366, 28, 199, 23, 32, 802, 803, 804, 27, 805, 53, 209, 210, 806, 807, 808, 809, 55, 810, 187, 188, 22, 189, 49, 216, 217, 218, 31, 219, 220, 846, 847, 848, 849, 850, 851, 852, 853, 854, 879, 880, 876, 877, 878, 881, 882, 883, 884, 885] (by decide +kernel) (by decide +kernel)
set_option maxRecDepth 20000 in
theorem gL_law_X9_undo : GoodIn wsL_law (wsV RL 120 RX9 yX9_undo wsX9_undo) := goodIn_app (goodIn_of _ (by decide +kernel)) ggL_law_X9_undo
set_option maxRecDepth 20000 in
theorem ggL_law_X10_undo : GoodIn wsL_law wsX10_undo := goodIn_r _ [814, 254, 377, 73, 255, 256, 257, 5, 258, 72, 855, 856, 857, 858, 859, 860, 861, 862, 863, 864, 865, 866, 867, 868, 869, 870, 871] (by decide +kernel) (by decide +kernel)
set_option maxRecDepth 20000 in
theorem gL_law_X10_undo : GoodIn wsL_law (wsV RL 123 RX10 yX10_undo wsX10_undo) := goodIn_app (goodIn_of _ (by decide +kernel)) ggL_law_X10_undo
set_option maxRecDepth 20000 in
theorem ggL_law_X9_undoDepth : GoodIn wsL_law wsX9_undoDepth := goodIn_r _ [818, 200, 846, 847, 848, 849, 850, 851, 852, 853, 854] (by decide +kernel) (by decide +kernel)
set_option maxRecDepth 20000 in
theorem gL_law_X9_undoDepth : GoodIn wsL_law (wsV RL 124 RX9 yX9_undoDepth wsX9_undoDepth) := goodIn_app (goodIn_of _ (by decide +kernel)) ggL_law_X9_undoDepth
set_option maxRecDepth 20000 in
theorem ggL_law_X10_undoDepth : GoodIn wsL_law wsX10_undoDepth := goodIn_r _ [822, 254, 855, 856, 857, 858, 859, 860, 861, 862, 863, 864, 865, 866, 867, 868, 869, 870, 871] (by decide +kernel) (by decide +kernel)
set_option maxRecDepth 20000 in
theorem gL_law_X10_undoDepth : GoodIn wsL_law (wsV RL 127 RX10 yX10_undoDepth wsX10_undoDepth) := goodIn_app (goodIn_of _ (by decide +kernel)) ggL_law_X10_undoDepth
set_option maxRecDepth 20000 in
theorem ggL_law_X9_save : GoodIn wsL_law wsX9_save := goodIn_r _ [826, 90, 28, 23, 120, 827, 828, 2, 829, 205, 206, 207, 27, 208, 53, 209, 210, 55, 211, 182, 183, 22, 184, 49, 846, 847, 848, 849, 850, 851, 852, 853, 854, 876, 877, 878, 879, 880] (by decide +kernel) (by decide +kernel)
set_option maxRecDepth 20000 in
theorem gL_law_X9_save : GoodIn wsL_law (wsV RL 128 RX9 yX9_save wsX9_save) := goodIn_app (goodIn_of _ (by decide +kernel)) ggL_law_X9_save
set_option maxRecDepth 20000 in
theorem ggL_law_X10_save : GoodIn wsL_law wsX10_save := goodIn_r _ [833, 102, 74, 72, 75, 834, 835, 5, 836, 105, 106, 107, 259, 260, 261, 262, 855, 856, 857, 858, 859, 860, 861, 862, 863, 864, 865, 866, 867, 868, 869, 870, 871] (by decide +kernel) (by decide +kernel)
set_option maxRecDepth 20000 in
theorem gL_law_X10_save : GoodIn wsL_law (wsV RL 131 RX10 yX10_save wsX10_save) := goodIn_app (goodIn_of _ (by decide +kernel)) ggL_law_X10_save
set_option maxRecDepth 20000 in
theorem ggL_law_X9_restore : GoodIn wsL_law wsX9_restore := goodIn_r _ [840, 90, 28, 366, 23, 32, 200, 120, 827, 828, 2, 829, 841, 807, 808, 27, 809, 55, 802, 803, 804, 805, 53, 209, 210, 806, 810, 187, 188, 22, 189, 49, 216, 217, 218, 31, 219, 220, 846, 847, 848, 849, 850, 851, 852, 853, 854, 876, 877, 878, 879, 880, 881, 882, 883, 884, 885] (by decide +kernel) (by decide +kernel)
set_option maxRecDepth 20000 in
theorem gL_law_X9_restore : GoodIn wsL_law (wsV RL 132 RX9 yX9_restore wsX9_restore) := goodIn_app (goodIn_of _ (by decide +kernel)) ggL_law_X9_restore
set_option maxRecDepth 20000 in
theorem ggL_law_X10_restore : GoodIn wsL_law wsX10_restore := goodIn_r _ [845, 102, 75, 377, 74, 254, 834, 835, 5, 836, 105, 106, 107, 255, 256, 257, 258, 72, 259, 260, 261, 262, 855, 856, 857, 858, 859, 860, 861, 862, 863, 864, 865, 866, 867, 868, 869, 870, 871] (by decide +kernel) (by decide +kernel)
set_option maxRecDepth 20000 in
theorem gL_law_X10_restore : GoodIn wsL_law (wsV RL 135 RX10 yX10_restore wsX10_restore) := goodIn_app (goodIn_of _ (by decide +kernel)) ggL_law_X10_restore
theorem dL_law_0 : decode cL_law 0 = .ok (.new 7, 3) := by decide +kernel
theorem dL_law_3 : decode cL_law 3 = .ok (.dup, 1) := by decide +kernel
theorem dL_law_4 : decode cL_law 4 = .ok (.invokespecial 9, 3) := by decide +kernel
theorem dL_law_7 : decode cL_law 7 = .ok (.astore_n 1, 1) := by decide +kernel
theorem dL_law_8 : decode cL_law 8 = .ok (.new 10, 3) := by decide +kernel
theorem dL_law_11 : decode cL_law 11 = .ok (.dup, 1) := by decide +kernel
theorem dL_law_12 : decode cL_law 12 = .ok (.invokespecial 12, 3) := by decide +kernel
theorem dL_law_15 : decode cL_law 15 = .ok (.astore_n 2, 1) := by decide +kernel
theorem dL_law_16 : decode cL_law 16 = .ok (.iconst 0, 1) := by decide +kernel
theorem dL_law_17 : decode cL_law 17 = .ok (.istore_n 3, 1) := by decide +kernel
theorem dL_law_18 : decode cL_law 18 = .ok (.iload_n 3, 1) := by decide +kernel
theorem dL_law_19 : decode cL_law 19 = .ok (.aload_n 0, 1) := by decide +kernel
theorem dL_law_20 : decode cL_law 20 = .ok (.arraylength, 1) := by decide +kernel
theorem dL_law_21 : decode cL_law 21 = .ok (.iconst 3, 1) := by decide +kernel
theorem dL_law_22 : decode cL_law 22 = .ok (.isub, 1) := by decide +kernel
theorem dL_law_23 : decode cL_law 23 = .ok (.if_icmp .gt 701, 3) := by decide +kernel
theorem dL_law_26 : decode cL_law 26 = .ok (.aload_n 0, 1) := by decide +kernel
theorem dL_law_27 : decode cL_law 27 = .ok (.iload_n 3, 1) := by decide +kernel
theorem dL_law_28 : decode cL_law 28 = .ok (.iaload, 1) := by decide +kernel
theorem dL_law_29 : decode cL_law 29 = .ok (.bipush 31, 2) := by decide +kernel
theorem dL_law_31 : decode cL_law 31 = .ok (.iand, 1) := by decide +kernel
theorem dL_law_32 : decode cL_law 32 = .ok (.tableswitch 686 0 29 #[136, 159, 172, 185, 198, 211, 244, 267, 280, 303, 336, 359, 382, 395, 408, 421, 434, 447, 470, 483, 506, 529, 552, 565, 578, 591, 614, 627, 640, 663], 136) := by decide +kernel
theorem dL_law_168 : decode cL_law 168 = .ok (.aload_n 1, 1) := by decide +kernel
theorem dL_law_169 : decode cL_law 169 = .ok (.aload_n 0, 1) := by decide +kernel
theorem dL_law_170 : decode cL_law 170 = .ok (.iload_n 3, 1) := by decide +kernel
theorem dL_law_171 : decode cL_law 171 = .ok (.iconst 1, 1) := by decide +kernel
theorem dL_law_172 : decode cL_law 172 = .ok (.iadd, 1) := by decide +kernel
theorem dL_law_173 : decode cL_law 173 = .ok (.iaload, 1) := by decide +kernel
theorem dL_law_174 : decode cL_law 174 = .ok (.invokevirtual 13, 3) := by decide +kernel
theorem dL_law_177 : decode cL_law 177 = .ok (.aload_n 2, 1) := by decide +kernel
theorem dL_law_178 : decode cL_law 178 = .ok (.aload_n 0, 1) := by decide +kernel
theorem dL_law_179 : decode cL_law 179 = .ok (.iload_n 3, 1) := by decide +kernel
theorem dL_law_180 : decode cL_law 180 = .ok (.iconst 1, 1) := by decide +kernel
theorem dL_law_181 : decode cL_law 181 = .ok (.iadd, 1) := by decide +kernel
theorem dL_law_182 : decode cL_law 182 = .ok (.iaload, 1) := by decide +kernel
theorem dL_law_183 : decode cL_law 183 = .ok (.invokevirtual 17, 3) := by decide +kernel
theorem dL_law_186 : decode cL_law 186 = .ok (.if_icmp .eq 532, 3) := by decide +kernel
theorem dL_law_189 : decode cL_law 189 = .ok (.iconst 0, 1) := by decide +kernel
theorem dL_law_190 : decode cL_law 190 = .ok (.ireturn, 1) := by decide +kernel
theorem dL_law_191 : decode cL_law 191 = .ok (.aload_n 1, 1) := by decide +kernel
theorem dL_law_192 : decode cL_law 192 = .ok (.invokevirtual 18, 3) := by decide +kernel
theorem dL_law_195 : decode cL_law 195 = .ok (.aload_n 2, 1) := by decide +kernel
theorem dL_law_196 : decode cL_law 196 = .ok (.invokevirtual 22, 3) := by decide +kernel
theorem dL_law_199 : decode cL_law 199 = .ok (.if_icmp .eq 519, 3) := by decide +kernel
theorem dL_law_202 : decode cL_law 202 = .ok (.iconst 0, 1) := by decide +kernel
theorem dL_law_203 : decode cL_law 203 = .ok (.ireturn, 1) := by decide +kernel
theorem dL_law_204 : decode cL_law 204 = .ok (.aload_n 1, 1) := by decide +kernel
theorem dL_law_205 : decode cL_law 205 = .ok (.invokevirtual 23, 3) := by decide +kernel
theorem dL_law_208 : decode cL_law 208 = .ok (.aload_n 2, 1) := by decide +kernel
theorem dL_law_209 : decode cL_law 209 = .ok (.invokevirtual 26, 3) := by decide +kernel
theorem dL_law_212 : decode cL_law 212 = .ok (.if_icmp .eq 506, 3) := by decide +kernel
theorem dL_law_215 : decode cL_law 215 = .ok (.iconst 0, 1) := by decide +kernel
theorem dL_law_216 : decode cL_law 216 = .ok (.ireturn, 1) := by decide +kernel
theorem dL_law_217 : decode cL_law 217 = .ok (.aload_n 1, 1) := by decide +kernel
theorem dL_law_218 : decode cL_law 218 = .ok (.invokevirtual 27, 3) := by decide +kernel
theorem dL_law_221 : decode cL_law 221 = .ok (.aload_n 2, 1) := by decide +kernel
theorem dL_law_222 : decode cL_law 222 = .ok (.invokevirtual 30, 3) := by decide +kernel
theorem dL_law_225 : decode cL_law 225 = .ok (.if_icmp .eq 493, 3) := by decide +kernel
theorem dL_law_228 : decode cL_law 228 = .ok (.iconst 0, 1) := by decide +kernel
theorem dL_law_229 : decode cL_law 229 = .ok (.ireturn, 1) := by decide +kernel
theorem dL_law_230 : decode cL_law 230 = .ok (.aload_n 1, 1) := by decide +kernel
theorem dL_law_231 : decode cL_law 231 = .ok (.invokevirtual 31, 3) := by decide +kernel
theorem dL_law_234 : decode cL_law 234 = .ok (.aload_n 2, 1) := by decide +kernel
theorem dL_law_235 : decode cL_law 235 = .ok (.invokevirtual 34, 3) := by decide +kernel
theorem dL_law_238 : decode cL_law 238 = .ok (.if_icmp .eq 480, 3) := by decide +kernel
theorem dL_law_241 : decode cL_law 241 = .ok (.iconst 0, 1) := by decide +kernel
theorem dL_law_242 : decode cL_law 242 = .ok (.ireturn, 1) := by decide +kernel
theorem dL_law_243 : decode cL_law 243 = .ok (.aload_n 1, 1) := by decide +kernel
theorem dL_law_244 : decode cL_law 244 = .ok (.aload_n 0, 1) := by decide +kernel
theorem dL_law_245 : decode cL_law 245 = .ok (.iload_n 3, 1) := by decide +kernel
theorem dL_law_246 : decode cL_law 246 = .ok (.iconst 1, 1) := by decide +kernel
theorem dL_law_247 : decode cL_law 247 = .ok (.iadd, 1) := by decide +kernel
theorem dL_law_248 : decode cL_law 248 = .ok (.iaload, 1) := by decide +kernel
theorem dL_law_249 : decode cL_law 249 = .ok (.aload_n 0, 1) := by decide +kernel
theorem dL_law_250 : decode cL_law 250 = .ok (.iload_n 3, 1) := by decide +kernel
theorem dL_law_251 : decode cL_law 251 = .ok (.iconst 2, 1) := by decide +kernel
theorem dL_law_252 : decode cL_law 252 = .ok (.iadd, 1) := by decide +kernel
theorem dL_law_253 : decode cL_law 253 = .ok (.iaload, 1) := by decide +kernel
theorem dL_law_254 : decode cL_law 254 = .ok (.invokevirtual 35, 3) := by decide +kernel
theorem dL_law_257 : decode cL_law 257 = .ok (.aload_n 2, 1) := by decide +kernel
theorem dL_law_258 : decode cL_law 258 = .ok (.aload_n 0, 1) := by decide +kernel
theorem dL_law_259 : decode cL_law 259 = .ok (.iload_n 3, 1) := by decide +kernel
theorem dL_law_260 : decode cL_law 260 = .ok (.iconst 1, 1) := by decide +kernel
theorem dL_law_261 : decode cL_law 261 = .ok (.iadd, 1) := by decide +kernel
theorem dL_law_262 : decode cL_law 262 = .ok (.iaload, 1) := by decide +kernel
theorem dL_law_263 : decode cL_law 263 = .ok (.aload_n 0, 1) := by decide +kernel
theorem dL_law_264 : decode cL_law 264 = .ok (.iload_n 3, 1) := by decide +kernel
theorem dL_law_265 : decode cL_law 265 = .ok (.iconst 2, 1) := by decide +kernel
theorem dL_law_266 : decode cL_law 266 = .ok (.iadd, 1) := by decide +kernel
theorem dL_law_267 : decode cL_law 267 = .ok (.iaload, 1) := by decide +kernel
theorem dL_law_268 : decode cL_law 268 = .ok (.invokevirtual 39, 3) := by decide +kernel
theorem dL_law_271 : decode cL_law 271 = .ok (.if_icmp .eq 447, 3) := by decide +kernel
theorem dL_law_274 : decode cL_law 274 = .ok (.iconst 0, 1) := by decide +kernel
theorem dL_law_275 : decode cL_law 275 = .ok (.ireturn, 1) := by decide +kernel
theorem dL_law_276 : decode cL_law 276 = .ok (.aload_n 1, 1) := by decide +kernel
theorem dL_law_277 : decode cL_law 277 = .ok (.aload_n 0, 1) := by decide +kernel
theorem dL_law_278 : decode cL_law 278 = .ok (.iload_n 3, 1) := by decide +kernel
theorem dL_law_279 : decode cL_law 279 = .ok (.iconst 1, 1) := by decide +kernel
theorem dL_law_280 : decode cL_law 280 = .ok (.iadd, 1) := by decide +kernel
theorem dL_law_281 : decode cL_law 281 = .ok (.iaload, 1) := by decide +kernel
theorem dL_law_282 : decode cL_law 282 = .ok (.invokevirtual 40, 3) := by decide +kernel
theorem dL_law_285 : decode cL_law 285 = .ok (.aload_n 2, 1) := by decide +kernel
theorem dL_law_286 : decode cL_law 286 = .ok (.aload_n 0, 1) := by decide +kernel
theorem dL_law_287 : decode cL_law 287 = .ok (.iload_n 3, 1) := by decide +kernel
theorem dL_law_288 : decode cL_law 288 = .ok (.iconst 1, 1) := by decide +kernel
theorem dL_law_289 : decode cL_law 289 = .ok (.iadd, 1) := by decide +kernel
theorem dL_law_290 : decode cL_law 290 = .ok (.iaload, 1) := by decide +kernel
theorem dL_law_291 : decode cL_law 291 = .ok (.invokevirtual 43, 3) := by decide +kernel
theorem dL_law_294 : decode cL_law 294 = .ok (.if_icmp .eq 424, 3) := by decide +kernel
theorem dL_law_297 : decode cL_law 297 = .ok (.iconst 0, 1) := by decide +kernel
theorem dL_law_298 : decode cL_law 298 = .ok (.ireturn, 1) := by decide +kernel
theorem dL_law_299 : decode cL_law 299 = .ok (.aload_n 1, 1) := by decide +kernel
theorem dL_law_300 : decode cL_law 300 = .ok (.invokevirtual 44, 3) := by decide +kernel
theorem dL_law_303 : decode cL_law 303 = .ok (.aload_n 2, 1) := by decide +kernel
theorem dL_law_304 : decode cL_law 304 = .ok (.invokevirtual 47, 3) := by decide +kernel
theorem dL_law_307 : decode cL_law 307 = .ok (.if_icmp .eq 411, 3) := by decide +kernel
theorem dL_law_310 : decode cL_law 310 = .ok (.iconst 0, 1) := by decide +kernel
theorem dL_law_311 : decode cL_law 311 = .ok (.ireturn, 1) := by decide +kernel
theorem dL_law_312 : decode cL_law 312 = .ok (.aload_n 1, 1) := by decide +kernel
theorem dL_law_313 : decode cL_law 313 = .ok (.aload_n 0, 1) := by decide +kernel
theorem dL_law_314 : decode cL_law 314 = .ok (.iload_n 3, 1) := by decide +kernel
theorem dL_law_315 : decode cL_law 315 = .ok (.iconst 1, 1) := by decide +kernel
theorem dL_law_316 : decode cL_law 316 = .ok (.iadd, 1) := by decide +kernel
theorem dL_law_317 : decode cL_law 317 = .ok (.iaload, 1) := by decide +kernel
theorem dL_law_318 : decode cL_law 318 = .ok (.invokevirtual 48, 3) := by decide +kernel
theorem dL_law_321 : decode cL_law 321 = .ok (.aload_n 2, 1) := by decide +kernel
theorem dL_law_322 : decode cL_law 322 = .ok (.aload_n 0, 1) := by decide +kernel
theorem dL_law_323 : decode cL_law 323 = .ok (.iload_n 3, 1) := by decide +kernel
theorem dL_law_324 : decode cL_law 324 = .ok (.iconst 1, 1) := by decide +kernel
theorem dL_law_325 : decode cL_law 325 = .ok (.iadd, 1) := by decide +kernel
theorem dL_law_326 : decode cL_law 326 = .ok (.iaload, 1) := by decide +kernel
theorem dL_law_327 : decode cL_law 327 = .ok (.invokevirtual 51, 3) := by decide +kernel
theorem dL_law_330 : decode cL_law 330 = .ok (.if_icmp .eq 388, 3) := by decide +kernel
theorem dL_law_333 : decode cL_law 333 = .ok (.iconst 0, 1) := by decide +kernel
theorem dL_law_334 : decode cL_law 334 = .ok (.ireturn, 1) := by decide +kernel
theorem dL_law_335 : decode cL_law 335 = .ok (.aload_n 1, 1) := by decide +kernel
theorem dL_law_336 : decode cL_law 336 = .ok (.aload_n 0, 1) := by decide +kernel
theorem dL_law_337 : decode cL_law 337 = .ok (.iload_n 3, 1) := by decide +kernel
theorem dL_law_338 : decode cL_law 338 = .ok (.iconst 1, 1) := by decide +kernel
theorem dL_law_339 : decode cL_law 339 = .ok (.iadd, 1) := by decide +kernel
theorem dL_law_340 : decode cL_law 340 = .ok (.iaload, 1) := by decide +kernel
theorem dL_law_341 : decode cL_law 341 = .ok (.aload_n 0, 1) := by decide +kernel
theorem dL_law_342 : decode cL_law 342 = .ok (.iload_n 3, 1) := by decide +kernel
theorem dL_law_343 : decode cL_law 343 = .ok (.iconst 2, 1) := by decide +kernel
theorem dL_law_344 : decode cL_law 344 = .ok (.iadd, 1) := by decide +kernel
theorem dL_law_345 : decode cL_law 345 = .ok (.iaload, 1) := by decide +kernel
theorem dL_law_346 : decode cL_law 346 = .ok (.invokevirtual 52, 3) := by decide +kernel
theorem dL_law_349 : decode cL_law 349 = .ok (.aload_n 2, 1) := by decide +kernel
theorem dL_law_350 : decode cL_law 350 = .ok (.aload_n 0, 1) := by decide +kernel
theorem dL_law_351 : decode cL_law 351 = .ok (.iload_n 3, 1) := by decide +kernel
theorem dL_law_352 : decode cL_law 352 = .ok (.iconst 1, 1) := by decide +kernel
theorem dL_law_353 : decode cL_law 353 = .ok (.iadd, 1) := by decide +kernel
theorem dL_law_354 : decode cL_law 354 = .ok (.iaload, 1) := by decide +kernel
theorem dL_law_355 : decode cL_law 355 = .ok (.aload_n 0, 1) := by decide +kernel
theorem dL_law_356 : decode cL_law 356 = .ok (.iload_n 3, 1) := by decide +kernel
theorem dL_law_357 : decode cL_law 357 = .ok (.iconst 2, 1) := by decide +kernel
theorem dL_law_358 : decode cL_law 358 = .ok (.iadd, 1) := by decide +kernel
theorem dL_law_359 : decode cL_law 359 = .ok (.iaload, 1) := by decide +kernel
theorem dL_law_360 : decode cL_law 360 = .ok (.invokevirtual 55, 3) := by decide +kernel
theorem dL_law_363 : decode cL_law 363 = .ok (.if_icmp .eq 355, 3) := by decide +kernel
theorem dL_law_366 : decode cL_law 366 = .ok (.iconst 0, 1) := by decide +kernel
theorem dL_law_367 : decode cL_law 367 = .ok (.ireturn, 1) := by decide +kernel
theorem dL_law_368 : decode cL_law 368 = .ok (.aload_n 1, 1) := by decide +kernel
theorem dL_law_369 : decode cL_law 369 = .ok (.aload_n 0, 1) := by decide +kernel
theorem dL_law_370 : decode cL_law 370 = .ok (.iload_n 3, 1) := by decide +kernel
theorem dL_law_371 : decode cL_law 371 = .ok (.iconst 1, 1) := by decide +kernel
theorem dL_law_372 : decode cL_law 372 = .ok (.iadd, 1) := by decide +kernel
theorem dL_law_373 : decode cL_law 373 = .ok (.iaload, 1) := by decide +kernel
theorem dL_law_374 : decode cL_law 374 = .ok (.invokevirtual 56, 3) := by decide +kernel
theorem dL_law_377 : decode cL_law 377 = .ok (.aload_n 2, 1) := by decide +kernel
theorem dL_law_378 : decode cL_law 378 = .ok (.aload_n 0, 1) := by decide +kernel
theorem dL_law_379 : decode cL_law 379 = .ok (.iload_n 3, 1) := by decide +kernel
theorem dL_law_380 : decode cL_law 380 = .ok (.iconst 1, 1) := by decide +kernel
theorem dL_law_381 : decode cL_law 381 = .ok (.iadd, 1) := by decide +kernel
theorem dL_law_382 : decode cL_law 382 = .ok (.iaload, 1) := by decide +kernel
theorem dL_law_383 : decode cL_law 383 = .ok (.invokevirtual 59, 3) := by decide +kernel
theorem dL_law_386 : decode cL_law 386 = .ok (.if_icmp .eq 332, 3) := by decide +kernel
theorem dL_law_389 : decode cL_law 389 = .ok (.iconst 0, 1) := by decide +kernel
theorem dL_law_390 : decode cL_law 390 = .ok (.ireturn, 1) := by decide +kernel
theorem dL_law_391 : decode cL_law 391 = .ok (.aload_n 1, 1) := by decide +kernel
theorem dL_law_392 : decode cL_law 392 = .ok (.aload_n 0, 1) := by decide +kernel
theorem dL_law_393 : decode cL_law 393 = .ok (.iload_n 3, 1) := by decide +kernel
theorem dL_law_394 : decode cL_law 394 = .ok (.iconst 1, 1) := by decide +kernel
theorem dL_law_395 : decode cL_law 395 = .ok (.iadd, 1) := by decide +kernel
theorem dL_law_396 : decode cL_law 396 = .ok (.iaload, 1) := by decide +kernel
theorem dL_law_397 : decode cL_law 397 = .ok (.invokevirtual 60, 3) := by decide +kernel
theorem dL_law_400 : decode cL_law 400 = .ok (.aload_n 2, 1) := by decide +kernel
theorem dL_law_401 : decode cL_law 401 = .ok (.aload_n 0, 1) := by decide +kernel
theorem dL_law_402 : decode cL_law 402 = .ok (.iload_n 3, 1) := by decide +kernel
theorem dL_law_403 : decode cL_law 403 = .ok (.iconst 1, 1) := by decide +kernel
theorem dL_law_404 : decode cL_law 404 = .ok (.iadd, 1) := by decide +kernel
theorem dL_law_405 : decode cL_law 405 = .ok (.iaload, 1) := by decide +kernel
theorem dL_law_406 : decode cL_law 406 = .ok (.invokevirtual 63, 3) := by decide +kernel
theorem dL_law_409 : decode cL_law 409 = .ok (.if_icmp .eq 309, 3) := by decide +kernel
theorem dL_law_412 : decode cL_law 412 = .ok (.iconst 0, 1) := by decide +kernel
theorem dL_law_413 : decode cL_law 413 = .ok (.ireturn, 1) := by decide +kernel
theorem dL_law_414 : decode cL_law 414 = .ok (.aload_n 1, 1) := by decide +kernel
theorem dL_law_415 : decode cL_law 415 = .ok (.invokevirtual 64, 3) := by decide +kernel
theorem dL_law_418 : decode cL_law 418 = .ok (.aload_n 2, 1) := by decide +kernel
theorem dL_law_419 : decode cL_law 419 = .ok (.invokevirtual 67, 3) := by decide +kernel
theorem dL_law_422 : decode cL_law 422 = .ok (.if_icmp .eq 296, 3) := by decide +kernel
theorem dL_law_425 : decode cL_law 425 = .ok (.iconst 0, 1) := by decide +kernel
theorem dL_law_426 : decode cL_law 426 = .ok (.ireturn, 1) := by decide +kernel
theorem dL_law_427 : decode cL_law 427 = .ok (.aload_n 1, 1) := by decide +kernel
theorem dL_law_428 : decode cL_law 428 = .ok (.invokevirtual 68, 3) := by decide +kernel
theorem dL_law_431 : decode cL_law 431 = .ok (.aload_n 2, 1) := by decide +kernel
theorem dL_law_432 : decode cL_law 432 = .ok (.invokevirtual 71, 3) := by decide +kernel
theorem dL_law_435 : decode cL_law 435 = .ok (.if_icmp .eq 283, 3) := by decide +kernel
theorem dL_law_438 : decode cL_law 438 = .ok (.iconst 0, 1) := by decide +kernel
theorem dL_law_439 : decode cL_law 439 = .ok (.ireturn, 1) := by decide +kernel
theorem dL_law_440 : decode cL_law 440 = .ok (.aload_n 1, 1) := by decide +kernel
theorem dL_law_441 : decode cL_law 441 = .ok (.invokevirtual 72, 3) := by decide +kernel
theorem dL_law_444 : decode cL_law 444 = .ok (.aload_n 2, 1) := by decide +kernel
theorem dL_law_445 : decode cL_law 445 = .ok (.invokevirtual 75, 3) := by decide +kernel
theorem dL_law_448 : decode cL_law 448 = .ok (.if_icmp .eq 270, 3) := by decide +kernel
theorem dL_law_451 : decode cL_law 451 = .ok (.iconst 0, 1) := by decide +kernel
theorem dL_law_452 : decode cL_law 452 = .ok (.ireturn, 1) := by decide +kernel
theorem dL_law_453 : decode cL_law 453 = .ok (.aload_n 1, 1) := by decide +kernel
theorem dL_law_454 : decode cL_law 454 = .ok (.invokevirtual 76, 3) := by decide +kernel
theorem dL_law_457 : decode cL_law 457 = .ok (.aload_n 2, 1) := by decide +kernel
theorem dL_law_458 : decode cL_law 458 = .ok (.invokevirtual 79, 3) := by decide +kernel
theorem dL_law_461 : decode cL_law 461 = .ok (.if_icmp .eq 257, 3) := by decide +kernel
theorem dL_law_464 : decode cL_law 464 = .ok (.iconst 0, 1) := by decide +kernel
theorem dL_law_465 : decode cL_law 465 = .ok (.ireturn, 1) := by decide +kernel
theorem dL_law_466 : decode cL_law 466 = .ok (.aload_n 1, 1) := by decide +kernel
theorem dL_law_467 : decode cL_law 467 = .ok (.invokevirtual 80, 3) := by decide +kernel
theorem dL_law_470 : decode cL_law 470 = .ok (.aload_n 2, 1) := by decide +kernel
theorem dL_law_471 : decode cL_law 471 = .ok (.invokevirtual 83, 3) := by decide +kernel
theorem dL_law_474 : decode cL_law 474 = .ok (.if_icmp .eq 244, 3) := by decide +kernel
theorem dL_law_477 : decode cL_law 477 = .ok (.iconst 0, 1) := by decide +kernel
theorem dL_law_478 : decode cL_law 478 = .ok (.ireturn, 1) := by decide +kernel
theorem dL_law_479 : decode cL_law 479 = .ok (.aload_n 1, 1) := by decide +kernel
theorem dL_law_480 : decode cL_law 480 = .ok (.aload_n 0, 1) := by decide +kernel
theorem dL_law_481 : decode cL_law 481 = .ok (.iload_n 3, 1) := by decide +kernel
theorem dL_law_482 : decode cL_law 482 = .ok (.iconst 1, 1) := by decide +kernel
theorem dL_law_483 : decode cL_law 483 = .ok (.iadd, 1) := by decide +kernel
theorem dL_law_484 : decode cL_law 484 = .ok (.iaload, 1) := by decide +kernel
theorem dL_law_485 : decode cL_law 485 = .ok (.invokevirtual 84, 3) := by decide +kernel
theorem dL_law_488 : decode cL_law 488 = .ok (.aload_n 2, 1) := by decide +kernel
theorem dL_law_489 : decode cL_law 489 = .ok (.aload_n 0, 1) := by decide +kernel
theorem dL_law_490 : decode cL_law 490 = .ok (.iload_n 3, 1) := by decide +kernel
theorem dL_law_491 : decode cL_law 491 = .ok (.iconst 1, 1) := by decide +kernel
theorem dL_law_492 : decode cL_law 492 = .ok (.iadd, 1) := by decide +kernel
theorem dL_law_493 : decode cL_law 493 = .ok (.iaload, 1) := by decide +kernel
theorem dL_law_494 : decode cL_law 494 = .ok (.invokevirtual 87, 3) := by decide +kernel
theorem dL_law_497 : decode cL_law 497 = .ok (.if_icmp .eq 221, 3) := by decide +kernel
theorem dL_law_500 : decode cL_law 500 = .ok (.iconst 0, 1) := by decide +kernel
theorem dL_law_501 : decode cL_law 501 = .ok (.ireturn, 1) := by decide +kernel
theorem dL_law_502 : decode cL_law 502 = .ok (.aload_n 1, 1) := by decide +kernel
theorem dL_law_503 : decode cL_law 503 = .ok (.invokevirtual 88, 3) := by decide +kernel
theorem dL_law_506 : decode cL_law 506 = .ok (.aload_n 2, 1) := by decide +kernel
theorem dL_law_507 : decode cL_law 507 = .ok (.invokevirtual 91, 3) := by decide +kernel
theorem dL_law_510 : decode cL_law 510 = .ok (.if_icmp .eq 208, 3) := by decide +kernel
theorem dL_law_513 : decode cL_law 513 = .ok (.iconst 0, 1) := by decide +kernel
theorem dL_law_514 : decode cL_law 514 = .ok (.ireturn, 1) := by decide +kernel
theorem dL_law_515 : decode cL_law 515 = .ok (.aload_n 1, 1) := by decide +kernel
theorem dL_law_516 : decode cL_law 516 = .ok (.aload_n 0, 1) := by decide +kernel
theorem dL_law_517 : decode cL_law 517 = .ok (.iload_n 3, 1) := by decide +kernel
theorem dL_law_518 : decode cL_law 518 = .ok (.iconst 1, 1) := by decide +kernel
theorem dL_law_519 : decode cL_law 519 = .ok (.iadd, 1) := by decide +kernel
theorem dL_law_520 : decode cL_law 520 = .ok (.iaload, 1) := by decide +kernel
theorem dL_law_521 : decode cL_law 521 = .ok (.invokevirtual 92, 3) := by decide +kernel
theorem dL_law_524 : decode cL_law 524 = .ok (.aload_n 2, 1) := by decide +kernel
theorem dL_law_525 : decode cL_law 525 = .ok (.aload_n 0, 1) := by decide +kernel
theorem dL_law_526 : decode cL_law 526 = .ok (.iload_n 3, 1) := by decide +kernel
theorem dL_law_527 : decode cL_law 527 = .ok (.iconst 1, 1) := by decide +kernel
theorem dL_law_528 : decode cL_law 528 = .ok (.iadd, 1) := by decide +kernel
theorem dL_law_529 : decode cL_law 529 = .ok (.iaload, 1) := by decide +kernel
theorem dL_law_530 : decode cL_law 530 = .ok (.invokevirtual 95, 3) := by decide +kernel
theorem dL_law_533 : decode cL_law 533 = .ok (.if_icmp .eq 185, 3) := by decide +kernel
theorem dL_law_536 : decode cL_law 536 = .ok (.iconst 0, 1) := by decide +kernel
theorem dL_law_537 : decode cL_law 537 = .ok (.ireturn, 1) := by decide +kernel
theorem dL_law_538 : decode cL_law 538 = .ok (.aload_n 1, 1) := by decide +kernel
theorem dL_law_539 : decode cL_law 539 = .ok (.aload_n 0, 1) := by decide +kernel
theorem dL_law_540 : decode cL_law 540 = .ok (.iload_n 3, 1) := by decide +kernel
theorem dL_law_541 : decode cL_law 541 = .ok (.iconst 1, 1) := by decide +kernel
theorem dL_law_542 : decode cL_law 542 = .ok (.iadd, 1) := by decide +kernel
theorem dL_law_543 : decode cL_law 543 = .ok (.iaload, 1) := by decide +kernel
theorem dL_law_544 : decode cL_law 544 = .ok (.invokevirtual 96, 3) := by decide +kernel
theorem dL_law_547 : decode cL_law 547 = .ok (.aload_n 2, 1) := by decide +kernel
theorem dL_law_548 : decode cL_law 548 = .ok (.aload_n 0, 1) := by decide +kernel
theorem dL_law_549 : decode cL_law 549 = .ok (.iload_n 3, 1) := by decide +kernel
theorem dL_law_550 : decode cL_law 550 = .ok (.iconst 1, 1) := by decide +kernel
theorem dL_law_551 : decode cL_law 551 = .ok (.iadd, 1) := by decide +kernel
theorem dL_law_552 : decode cL_law 552 = .ok (.iaload, 1) := by decide +kernel
theorem dL_law_553 : decode cL_law 553 = .ok (.invokevirtual 99, 3) := by decide +kernel
theorem dL_law_556 : decode cL_law 556 = .ok (.if_icmp .eq 162, 3) := by decide +kernel
theorem dL_law_559 : decode cL_law 559 = .ok (.iconst 0, 1) := by decide +kernel
theorem dL_law_560 : decode cL_law 560 = .ok (.ireturn, 1) := by decide +kernel
theorem dL_law_561 : decode cL_law 561 = .ok (.aload_n 1, 1) := by decide +kernel
theorem dL_law_562 : decode cL_law 562 = .ok (.aload_n 0, 1) := by decide +kernel
theorem dL_law_563 : decode cL_law 563 = .ok (.iload_n 3, 1) := by decide +kernel
theorem dL_law_564 : decode cL_law 564 = .ok (.iconst 1, 1) := by decide +kernel
theorem dL_law_565 : decode cL_law 565 = .ok (.iadd, 1) := by decide +kernel
theorem dL_law_566 : decode cL_law 566 = .ok (.iaload, 1) := by decide +kernel
theorem dL_law_567 : decode cL_law 567 = .ok (.invokevirtual 100, 3) := by decide +kernel
theorem dL_law_570 : decode cL_law 570 = .ok (.aload_n 2, 1) := by decide +kernel
theorem dL_law_571 : decode cL_law 571 = .ok (.aload_n 0, 1) := by decide +kernel
theorem dL_law_572 : decode cL_law 572 = .ok (.iload_n 3, 1) := by decide +kernel
theorem dL_law_573 : decode cL_law 573 = .ok (.iconst 1, 1) := by decide +kernel
theorem dL_law_574 : decode cL_law 574 = .ok (.iadd, 1) := by decide +kernel
theorem dL_law_575 : decode cL_law 575 = .ok (.iaload, 1) := by decide +kernel
theorem dL_law_576 : decode cL_law 576 = .ok (.invokevirtual 103, 3) := by decide +kernel
theorem dL_law_579 : decode cL_law 579 = .ok (.if_icmp .eq 139, 3) := by decide +kernel
theorem dL_law_582 : decode cL_law 582 = .ok (.iconst 0, 1) := by decide +kernel
theorem dL_law_583 : decode cL_law 583 = .ok (.ireturn, 1) := by decide +kernel
theorem dL_law_584 : decode cL_law 584 = .ok (.aload_n 1, 1) := by decide +kernel
theorem dL_law_585 : decode cL_law 585 = .ok (.invokevirtual 104, 3) := by decide +kernel
theorem dL_law_588 : decode cL_law 588 = .ok (.aload_n 2, 1) := by decide +kernel
theorem dL_law_589 : decode cL_law 589 = .ok (.invokevirtual 107, 3) := by decide +kernel
theorem dL_law_592 : decode cL_law 592 = .ok (.if_icmp .eq 126, 3) := by decide +kernel
theorem dL_law_595 : decode cL_law 595 = .ok (.iconst 0, 1) := by decide +kernel
theorem dL_law_596 : decode cL_law 596 = .ok (.ireturn, 1) := by decide +kernel
theorem dL_law_597 : decode cL_law 597 = .ok (.aload_n 1, 1) := by decide +kernel
theorem dL_law_598 : decode cL_law 598 = .ok (.invokevirtual 108, 3) := by decide +kernel
theorem dL_law_601 : decode cL_law 601 = .ok (.aload_n 2, 1) := by decide +kernel
theorem dL_law_602 : decode cL_law 602 = .ok (.invokevirtual 111, 3) := by decide +kernel
theorem dL_law_605 : decode cL_law 605 = .ok (.if_icmp .eq 113, 3) := by decide +kernel
theorem dL_law_608 : decode cL_law 608 = .ok (.iconst 0, 1) := by decide +kernel
theorem dL_law_609 : decode cL_law 609 = .ok (.ireturn, 1) := by decide +kernel
theorem dL_law_610 : decode cL_law 610 = .ok (.aload_n 1, 1) := by decide +kernel
theorem dL_law_611 : decode cL_law 611 = .ok (.invokevirtual 112, 3) := by decide +kernel
theorem dL_law_614 : decode cL_law 614 = .ok (.aload_n 2, 1) := by decide +kernel
theorem dL_law_615 : decode cL_law 615 = .ok (.invokevirtual 115, 3) := by decide +kernel
theorem dL_law_618 : decode cL_law 618 = .ok (.if_icmp .eq 100, 3) := by decide +kernel
theorem dL_law_621 : decode cL_law 621 = .ok (.iconst 0, 1) := by decide +kernel
theorem dL_law_622 : decode cL_law 622 = .ok (.ireturn, 1) := by decide +kernel
theorem dL_law_623 : decode cL_law 623 = .ok (.aload_n 1, 1) := by decide +kernel
theorem dL_law_624 : decode cL_law 624 = .ok (.aload_n 0, 1) := by decide +kernel
theorem dL_law_625 : decode cL_law 625 = .ok (.iload_n 3, 1) := by decide +kernel
theorem dL_law_626 : decode cL_law 626 = .ok (.iconst 1, 1) := by decide +kernel
theorem dL_law_627 : decode cL_law 627 = .ok (.iadd, 1) := by decide +kernel
theorem dL_law_628 : decode cL_law 628 = .ok (.iaload, 1) := by decide +kernel
theorem dL_law_629 : decode cL_law 629 = .ok (.invokevirtual 116, 3) := by decide +kernel
theorem dL_law_632 : decode cL_law 632 = .ok (.aload_n 2, 1) := by decide +kernel
theorem dL_law_633 : decode cL_law 633 = .ok (.aload_n 0, 1) := by decide +kernel
theorem dL_law_634 : decode cL_law 634 = .ok (.iload_n 3, 1) := by decide +kernel
theorem dL_law_635 : decode cL_law 635 = .ok (.iconst 1, 1) := by decide +kernel
theorem dL_law_636 : decode cL_law 636 = .ok (.iadd, 1) := by decide +kernel
theorem dL_law_637 : decode cL_law 637 = .ok (.iaload, 1) := by decide +kernel
theorem dL_law_638 : decode cL_law 638 = .ok (.invokevirtual 119, 3) := by decide +kernel
theorem dL_law_641 : decode cL_law 641 = .ok (.if_icmp .eq 77, 3) := by decide +kernel
theorem dL_law_644 : decode cL_law 644 = .ok (.iconst 0, 1) := by decide +kernel
theorem dL_law_645 : decode cL_law 645 = .ok (.ireturn, 1) := by decide +kernel
theorem dL_law_646 : decode cL_law 646 = .ok (.aload_n 1, 1) := by decide +kernel
theorem dL_law_647 : decode cL_law 647 = .ok (.invokevirtual 120, 3) := by decide +kernel
theorem dL_law_650 : decode cL_law 650 = .ok (.aload_n 2, 1) := by decide +kernel
theorem dL_law_651 : decode cL_law 651 = .ok (.invokevirtual 123, 3) := by decide +kernel
theorem dL_law_654 : decode cL_law 654 = .ok (.if_icmp .eq 64, 3) := by decide +kernel
theorem dL_law_657 : decode cL_law 657 = .ok (.iconst 0, 1) := by decide +kernel
theorem dL_law_658 : decode cL_law 658 = .ok (.ireturn, 1) := by decide +kernel
theorem dL_law_659 : decode cL_law 659 = .ok (.aload_n 1, 1) := by decide +kernel
theorem dL_law_660 : decode cL_law 660 = .ok (.invokevirtual 124, 3) := by decide +kernel
theorem dL_law_663 : decode cL_law 663 = .ok (.aload_n 2, 1) := by decide +kernel
theorem dL_law_664 : decode cL_law 664 = .ok (.invokevirtual 127, 3) := by decide +kernel
theorem dL_law_667 : decode cL_law 667 = .ok (.if_icmp .eq 51, 3) := by decide +kernel
theorem dL_law_670 : decode cL_law 670 = .ok (.iconst 0, 1) := by decide +kernel
theorem dL_law_671 : decode cL_law 671 = .ok (.ireturn, 1) := by decide +kernel
theorem dL_law_672 : decode cL_law 672 = .ok (.aload_n 1, 1) := by decide +kernel
theorem dL_law_673 : decode cL_law 673 = .ok (.aload_n 0, 1) := by decide +kernel
theorem dL_law_674 : decode cL_law 674 = .ok (.iload_n 3, 1) := by decide +kernel
theorem dL_law_675 : decode cL_law 675 = .ok (.iconst 1, 1) := by decide +kernel
theorem dL_law_676 : decode cL_law 676 = .ok (.iadd, 1) := by decide +kernel
theorem dL_law_677 : decode cL_law 677 = .ok (.iaload, 1) := by decide +kernel
theorem dL_law_678 : decode cL_law 678 = .ok (.invokevirtual 128, 3) := by decide +kernel
theorem dL_law_681 : decode cL_law 681 = .ok (.aload_n 2, 1) := by decide +kernel
theorem dL_law_682 : decode cL_law 682 = .ok (.aload_n 0, 1) := by decide +kernel
theorem dL_law_683 : decode cL_law 683 = .ok (.iload_n 3, 1) := by decide +kernel
theorem dL_law_684 : decode cL_law 684 = .ok (.iconst 1, 1) := by decide +kernel
theorem dL_law_685 : decode cL_law 685 = .ok (.iadd, 1) := by decide +kernel
theorem dL_law_686 : decode cL_law 686 = .ok (.iaload, 1) := by decide +kernel
theorem dL_law_687 : decode cL_law 687 = .ok (.invokevirtual 131, 3) := by decide +kernel
theorem dL_law_690 : decode cL_law 690 = .ok (.if_icmp .eq 28, 3) := by decide +kernel
theorem dL_law_693 : decode cL_law 693 = .ok (.iconst 0, 1) := by decide +kernel
theorem dL_law_694 : decode cL_law 694 = .ok (.ireturn, 1) := by decide +kernel
theorem dL_law_695 : decode cL_law 695 = .ok (.aload_n 1, 1) := by decide +kernel
theorem dL_law_696 : decode cL_law 696 = .ok (.aload_n 0, 1) := by decide +kernel
theorem dL_law_697 : decode cL_law 697 = .ok (.iload_n 3, 1) := by decide +kernel
theorem dL_law_698 : decode cL_law 698 = .ok (.iconst 1, 1) := by decide +kernel
theorem dL_law_699 : decode cL_law 699 = .ok (.iadd, 1) := by decide +kernel
theorem dL_law_700 : decode cL_law 700 = .ok (.iaload, 1) := by decide +kernel
theorem dL_law_701 : decode cL_law 701 = .ok (.invokevirtual 132, 3) := by decide +kernel
theorem dL_law_704 : decode cL_law 704 = .ok (.aload_n 2, 1) := by decide +kernel
theorem dL_law_705 : decode cL_law 705 = .ok (.aload_n 0, 1) := by decide +kernel
theorem dL_law_706 : decode cL_law 706 = .ok (.iload_n 3, 1) := by decide +kernel
theorem dL_law_707 : decode cL_law 707 = .ok (.iconst 1, 1) := by decide +kernel
theorem dL_law_708 : decode cL_law 708 = .ok (.iadd, 1) := by decide +kernel
theorem dL_law_709 : decode cL_law 709 = .ok (.iaload, 1) := by decide +kernel
theorem dL_law_710 : decode cL_law 710 = .ok (.invokevirtual 135, 3) := by decide +kernel
theorem dL_law_713 : decode cL_law 713 = .ok (.if_icmp .eq 5, 3) := by decide +kernel
theorem dL_law_716 : decode cL_law 716 = .ok (.iconst 0, 1) := by decide +kernel
theorem dL_law_717 : decode cL_law 717 = .ok (.ireturn, 1) := by decide +kernel
theorem dL_law_718 : decode cL_law 718 = .ok (.iinc 3 3, 3) := by decide +kernel
theorem dL_law_721 : decode cL_law 721 = .ok (.goto (-703), 3) := by decide +kernel
theorem dL_law_724 : decode cL_law 724 = .ok (.iconst 1, 1) := by decide +kernel
theorem dL_law_725 : decode cL_law 725 = .ok (.ireturn, 1) := by decide +kernel
