theorem dX3_bigonCorner_0 : decode cX3_bigonCorner 0 = .ok (.iconst 0, 1) := by decide +kernel
theorem dX3_bigonCorner_1 : decode cX3_bigonCorner 1 = .ok (.istore_n 3, 1) := by decide +kernel
theorem dX3_bigonCorner_2 : decode cX3_bigonCorner 2 = .ok (.iload_n 3, 1) := by decide +kernel
theorem dX3_bigonCorner_3 : decode cX3_bigonCorner 3 = .ok (.bipush 16, 2) := by decide +kernel
theorem dX3_bigonCorner_5 : decode cX3_bigonCorner 5 = .ok (.if_icmp .ge 26, 3) := by decide +kernel
theorem dX3_bigonCorner_8 : decode cX3_bigonCorner 8 = .ok (.aload_n 0, 1) := by decide +kernel
theorem dX3_bigonCorner_9 : decode cX3_bigonCorner 9 = .ok (.iload_n 1, 1) := by decide +kernel
theorem dX3_bigonCorner_10 : decode cX3_bigonCorner 10 = .ok (.iload_n 3, 1) := by decide +kernel
theorem dX3_bigonCorner_11 : decode cX3_bigonCorner 11 = .ok (.iconst 2, 1) := by decide +kernel
theorem dX3_bigonCorner_12 : decode cX3_bigonCorner 12 = .ok (.ishr, 1) := by decide +kernel
theorem dX3_bigonCorner_13 : decode cX3_bigonCorner 13 = .ok (.iload_n 2, 1) := by decide +kernel
theorem dX3_bigonCorner_14 : decode cX3_bigonCorner 14 = .ok (.iload_n 3, 1) := by decide +kernel
theorem dX3_bigonCorner_15 : decode cX3_bigonCorner 15 = .ok (.iconst 3, 1) := by decide +kernel
theorem dX3_bigonCorner_16 : decode cX3_bigonCorner 16 = .ok (.iand, 1) := by decide +kernel
theorem dX3_bigonCorner_17 : decode cX3_bigonCorner 17 = .ok (.invokestatic 19, 3) := by decide +kernel
theorem dX3_bigonCorner_20 : decode cX3_bigonCorner 20 = .ok (.ifCond .eq 5, 3) := by decide +kernel
theorem dX3_bigonCorner_23 : decode cX3_bigonCorner 23 = .ok (.iload_n 3, 1) := by decide +kernel
theorem dX3_bigonCorner_24 : decode cX3_bigonCorner 24 = .ok (.ireturn, 1) := by decide +kernel
theorem dX3_bigonCorner_25 : decode cX3_bigonCorner 25 = .ok (.iinc 3 1, 3) := by decide +kernel
theorem dX3_bigonCorner_28 : decode cX3_bigonCorner 28 = .ok (.goto (-26), 3) := by decide +kernel
theorem dX3_bigonCorner_31 : decode cX3_bigonCorner 31 = .ok (.iconst (-1), 1) := by decide +kernel
theorem dX3_bigonCorner_32 : decode cX3_bigonCorner 32 = .ok (.ireturn, 1) := by decide +kernel
set_option maxRecDepth 20000 in
theorem ggX3_isBigon_X3_endOf : GoodIn wsX3_isBigon wsX3_endOf := goodIn_r _ [4] (by decide +kernel) (by decide +kernel)
set_option maxRecDepth 20000 in
theorem gX3_isBigon_X3_endOf : GoodIn wsX3_isBigon (va_wsS RX3 7 yX3_endOf wsX3_endOf) := goodIn_app (goodIn_of _ (by decide +kernel)) ggX3_isBigon_X3_endOf
set_option maxRecDepth 20000 in
theorem ggX3_isBigon_X2_arc : GoodIn wsX3_isBigon wsX2_arc := goodIn_r _ [9, 10, 11, 12, 13] (by decide +kernel) (by decide +kernel)
set_option maxRecDepth 20000 in
theorem gX3_isBigon_X2_arc : GoodIn wsX3_isBigon (wsV RX3 13 RX2 yX2_arc wsX2_arc) := goodIn_app (goodIn_of _ (by decide +kernel)) ggX3_isBigon_X2_arc
theorem dX3_isBigon_0 : decode cX3_isBigon 0 = .ok (.iload_n 2, 1) := by decide +kernel
theorem dX3_isBigon_1 : decode cX3_isBigon 1 = .ok (.iload 4, 2) := by decide +kernel
theorem dX3_isBigon_3 : decode cX3_isBigon 3 = .ok (.iadd, 1) := by decide +kernel
theorem dX3_isBigon_4 : decode cX3_isBigon 4 = .ok (.iconst 1, 1) := by decide +kernel
theorem dX3_isBigon_5 : decode cX3_isBigon 5 = .ok (.iand, 1) := by decide +kernel
theorem dX3_isBigon_6 : decode cX3_isBigon 6 = .ok (.iconst 1, 1) := by decide +kernel
theorem dX3_isBigon_7 : decode cX3_isBigon 7 = .ok (.if_icmp .ne 55, 3) := by decide +kernel
theorem dX3_isBigon_10 : decode cX3_isBigon 10 = .ok (.aload_n 0, 1) := by decide +kernel
theorem dX3_isBigon_11 : decode cX3_isBigon 11 = .ok (.iload_n 1, 1) := by decide +kernel
theorem dX3_isBigon_12 : decode cX3_isBigon 12 = .ok (.iload_n 2, 1) := by decide +kernel
theorem dX3_isBigon_13 : decode cX3_isBigon 13 = .ok (.invokestatic 7, 3) := by decide +kernel
theorem dX3_isBigon_16 : decode cX3_isBigon 16 = .ok (.invokevirtual 13, 3) := by decide +kernel
theorem dX3_isBigon_19 : decode cX3_isBigon 19 = .ok (.aload_n 0, 1) := by decide +kernel
theorem dX3_isBigon_20 : decode cX3_isBigon 20 = .ok (.iload_n 3, 1) := by decide +kernel
theorem dX3_isBigon_21 : decode cX3_isBigon 21 = .ok (.iload 4, 2) := by decide +kernel
theorem dX3_isBigon_23 : decode cX3_isBigon 23 = .ok (.iconst 1, 1) := by decide +kernel
theorem dX3_isBigon_24 : decode cX3_isBigon 24 = .ok (.iadd, 1) := by decide +kernel
theorem dX3_isBigon_25 : decode cX3_isBigon 25 = .ok (.invokestatic 7, 3) := by decide +kernel
theorem dX3_isBigon_28 : decode cX3_isBigon 28 = .ok (.invokevirtual 13, 3) := by decide +kernel
theorem dX3_isBigon_31 : decode cX3_isBigon 31 = .ok (.if_icmp .ne 31, 3) := by decide +kernel
theorem dX3_isBigon_34 : decode cX3_isBigon 34 = .ok (.aload_n 0, 1) := by decide +kernel
theorem dX3_isBigon_35 : decode cX3_isBigon 35 = .ok (.iload_n 1, 1) := by decide +kernel
theorem dX3_isBigon_36 : decode cX3_isBigon 36 = .ok (.iload_n 2, 1) := by decide +kernel
theorem dX3_isBigon_37 : decode cX3_isBigon 37 = .ok (.iconst 1, 1) := by decide +kernel
theorem dX3_isBigon_38 : decode cX3_isBigon 38 = .ok (.iadd, 1) := by decide +kernel
theorem dX3_isBigon_39 : decode cX3_isBigon 39 = .ok (.invokestatic 7, 3) := by decide +kernel
theorem dX3_isBigon_42 : decode cX3_isBigon 42 = .ok (.invokevirtual 13, 3) := by decide +kernel
theorem dX3_isBigon_45 : decode cX3_isBigon 45 = .ok (.aload_n 0, 1) := by decide +kernel
theorem dX3_isBigon_46 : decode cX3_isBigon 46 = .ok (.iload_n 3, 1) := by decide +kernel
theorem dX3_isBigon_47 : decode cX3_isBigon 47 = .ok (.iload 4, 2) := by decide +kernel
theorem dX3_isBigon_49 : decode cX3_isBigon 49 = .ok (.invokestatic 7, 3) := by decide +kernel
theorem dX3_isBigon_52 : decode cX3_isBigon 52 = .ok (.invokevirtual 13, 3) := by decide +kernel
theorem dX3_isBigon_55 : decode cX3_isBigon 55 = .ok (.if_icmp .ne 7, 3) := by decide +kernel
theorem dX3_isBigon_58 : decode cX3_isBigon 58 = .ok (.iconst 1, 1) := by decide +kernel
theorem dX3_isBigon_59 : decode cX3_isBigon 59 = .ok (.goto 4, 3) := by decide +kernel
theorem dX3_isBigon_62 : decode cX3_isBigon 62 = .ok (.iconst 0, 1) := by decide +kernel
theorem dX3_isBigon_63 : decode cX3_isBigon 63 = .ok (.ireturn, 1) := by decide +kernel
set_option maxRecDepth 20000 in
theorem ggX3_dissolveKink_X3_endOf : GoodIn wsX3_dissolveKink wsX3_endOf := goodIn_r _ [4] (by decide +kernel) (by decide +kernel)
set_option maxRecDepth 20000 in
theorem gX3_dissolveKink_X3_endOf : GoodIn wsX3_dissolveKink (va_wsS RX3 7 yX3_endOf wsX3_endOf) := goodIn_app (goodIn_of _ (by decide +kernel)) ggX3_dissolveKink_X3_endOf
set_option maxRecDepth 20000 in
theorem ggX3_dissolveKink_X2_join : GoodIn wsX3_dissolveKink wsX2_join := goodIn_r _ [9, 10, 11, 12, 13, 14, 15, 16, 17, 18, 19, 20, 8, 21, 22, 23, 24, 25, 26, 27, 28, 29, 30, 31, 36, 37, 38] (by decide +kernel) (by decide +kernel)
set_option maxRecDepth 20000 in
theorem gX3_dissolveKink_X2_join : GoodIn wsX3_dissolveKink (wsV RX3 23 RX2 yX2_join wsX2_join) := goodIn_app (goodIn_of _ (by decide +kernel)) ggX3_dissolveKink_X2_join
set_option maxRecDepth 20000 in
theorem ggX3_dissolveKink_X2_drop : GoodIn wsX3_dissolveKink wsX2_drop := goodIn_r _ [35, 27, 23, 24, 25, 8, 26, 18, 19, 20, 21, 22, 28, 29, 30, 31, 36, 37, 38] (by decide +kernel) (by decide +kernel)
set_option maxRecDepth 20000 in
theorem gX3_dissolveKink_X2_drop : GoodIn wsX3_dissolveKink (wsV RX3 27 RX2 yX2_drop wsX2_drop) := goodIn_app (goodIn_of _ (by decide +kernel)) ggX3_dissolveKink_X2_drop
theorem dX3_dissolveKink_0 : decode cX3_dissolveKink 0 = .ok (.aload_n 0, 1) := by decide +kernel
theorem dX3_dissolveKink_1 : decode cX3_dissolveKink 1 = .ok (.iload_n 1, 1) := by decide +kernel
theorem dX3_dissolveKink_2 : decode cX3_dissolveKink 2 = .ok (.iload_n 2, 1) := by decide +kernel
theorem dX3_dissolveKink_3 : decode cX3_dissolveKink 3 = .ok (.iconst 2, 1) := by decide +kernel
theorem dX3_dissolveKink_4 : decode cX3_dissolveKink 4 = .ok (.iadd, 1) := by decide +kernel
theorem dX3_dissolveKink_5 : decode cX3_dissolveKink 5 = .ok (.invokestatic 7, 3) := by decide +kernel
theorem dX3_dissolveKink_8 : decode cX3_dissolveKink 8 = .ok (.iload_n 1, 1) := by decide +kernel
theorem dX3_dissolveKink_9 : decode cX3_dissolveKink 9 = .ok (.iload_n 2, 1) := by decide +kernel
theorem dX3_dissolveKink_10 : decode cX3_dissolveKink 10 = .ok (.iconst 3, 1) := by decide +kernel
theorem dX3_dissolveKink_11 : decode cX3_dissolveKink 11 = .ok (.iadd, 1) := by decide +kernel
theorem dX3_dissolveKink_12 : decode cX3_dissolveKink 12 = .ok (.invokestatic 7, 3) := by decide +kernel
theorem dX3_dissolveKink_15 : decode cX3_dissolveKink 15 = .ok (.invokevirtual 23, 3) := by decide +kernel
theorem dX3_dissolveKink_18 : decode cX3_dissolveKink 18 = .ok (.aload_n 0, 1) := by decide +kernel
theorem dX3_dissolveKink_19 : decode cX3_dissolveKink 19 = .ok (.iload_n 1, 1) := by decide +kernel
theorem dX3_dissolveKink_20 : decode cX3_dissolveKink 20 = .ok (.invokevirtual 27, 3) := by decide +kernel
theorem dX3_dissolveKink_23 : decode cX3_dissolveKink 23 = .ok (.return_, 1) := by decide +kernel
set_option maxRecDepth 20000 in
theorem ggX3_dissolveBigon_X3_endOf : GoodIn wsX3_dissolveBigon wsX3_endOf := goodIn_r _ [11] (by decide +kernel) (by decide +kernel)
set_option maxRecDepth 20000 in
theorem gX3_dissolveBigon_X3_endOf : GoodIn wsX3_dissolveBigon (va_wsS RX3 7 yX3_endOf wsX3_endOf) := goodIn_app (goodIn_of _ (by decide +kernel)) ggX3_dissolveBigon_X3_endOf
set_option maxRecDepth 20000 in
theorem ggX3_dissolveBigon_X2_join : GoodIn wsX3_dissolveBigon wsX2_join := goodIn_r _ [16, 17, 18, 2, 3, 4, 19, 6, 7, 20, 21, 22, 15, 23, 24, 25, 26, 27, 28, 29, 30, 31, 32, 33, 38, 39, 40] (by decide +kernel) (by decide +kernel)
set_option maxRecDepth 20000 in
theorem gX3_dissolveBigon_X2_join : GoodIn wsX3_dissolveBigon (wsV RX3 23 RX2 yX2_join wsX2_join) := goodIn_app (goodIn_of _ (by decide +kernel)) ggX3_dissolveBigon_X2_join
set_option maxRecDepth 20000 in
theorem ggX3_dissolveBigon_X2_drop : GoodIn wsX3_dissolveBigon wsX2_drop := goodIn_r _ [37, 29, 25, 26, 27, 15, 28, 20, 21, 22, 23, 24, 30, 31, 32, 33, 38, 39, 40] (by decide +kernel) (by decide +kernel)
set_option maxRecDepth 20000 in
theorem gX3_dissolveBigon_X2_drop : GoodIn wsX3_dissolveBigon (wsV RX3 27 RX2 yX2_drop wsX2_drop) := goodIn_app (goodIn_of _ (by decide +kernel)) ggX3_dissolveBigon_X2_drop
theorem dX3_dissolveBigon_0 : decode cX3_dissolveBigon 0 = .ok (.iload_n 3, 1) := by decide +kernel
theorem dX3_dissolveBigon_1 : decode cX3_dissolveBigon 1 = .ok (.iconst 2, 1) := by decide +kernel
theorem dX3_dissolveBigon_2 : decode cX3_dissolveBigon 2 = .ok (.ishr, 1) := by decide +kernel
theorem dX3_dissolveBigon_3 : decode cX3_dissolveBigon 3 = .ok (.istore 4, 2) := by decide +kernel
theorem dX3_dissolveBigon_5 : decode cX3_dissolveBigon 5 = .ok (.iload_n 3, 1) := by decide +kernel
theorem dX3_dissolveBigon_6 : decode cX3_dissolveBigon 6 = .ok (.iconst 3, 1) := by decide +kernel
theorem dX3_dissolveBigon_7 : decode cX3_dissolveBigon 7 = .ok (.iand, 1) := by decide +kernel
theorem dX3_dissolveBigon_8 : decode cX3_dissolveBigon 8 = .ok (.istore 5, 2) := by decide +kernel
theorem dX3_dissolveBigon_10 : decode cX3_dissolveBigon 10 = .ok (.aload_n 0, 1) := by decide +kernel
theorem dX3_dissolveBigon_11 : decode cX3_dissolveBigon 11 = .ok (.iload_n 1, 1) := by decide +kernel
theorem dX3_dissolveBigon_12 : decode cX3_dissolveBigon 12 = .ok (.iload 4, 2) := by decide +kernel
theorem dX3_dissolveBigon_14 : decode cX3_dissolveBigon 14 = .ok (.iconst 2, 1) := by decide +kernel
theorem dX3_dissolveBigon_15 : decode cX3_dissolveBigon 15 = .ok (.iadd, 1) := by decide +kernel
theorem dX3_dissolveBigon_16 : decode cX3_dissolveBigon 16 = .ok (.invokestatic 7, 3) := by decide +kernel
theorem dX3_dissolveBigon_19 : decode cX3_dissolveBigon 19 = .ok (.iload_n 2, 1) := by decide +kernel
theorem dX3_dissolveBigon_20 : decode cX3_dissolveBigon 20 = .ok (.iload 5, 2) := by decide +kernel
theorem dX3_dissolveBigon_22 : decode cX3_dissolveBigon 22 = .ok (.iconst 3, 1) := by decide +kernel
theorem dX3_dissolveBigon_23 : decode cX3_dissolveBigon 23 = .ok (.iadd, 1) := by decide +kernel
theorem dX3_dissolveBigon_24 : decode cX3_dissolveBigon 24 = .ok (.invokestatic 7, 3) := by decide +kernel
theorem dX3_dissolveBigon_27 : decode cX3_dissolveBigon 27 = .ok (.invokevirtual 23, 3) := by decide +kernel
theorem dX3_dissolveBigon_30 : decode cX3_dissolveBigon 30 = .ok (.aload_n 0, 1) := by decide +kernel
theorem dX3_dissolveBigon_31 : decode cX3_dissolveBigon 31 = .ok (.iload_n 1, 1) := by decide +kernel
theorem dX3_dissolveBigon_32 : decode cX3_dissolveBigon 32 = .ok (.iload 4, 2) := by decide +kernel
theorem dX3_dissolveBigon_34 : decode cX3_dissolveBigon 34 = .ok (.iconst 3, 1) := by decide +kernel
theorem dX3_dissolveBigon_35 : decode cX3_dissolveBigon 35 = .ok (.iadd, 1) := by decide +kernel
theorem dX3_dissolveBigon_36 : decode cX3_dissolveBigon 36 = .ok (.invokestatic 7, 3) := by decide +kernel
theorem dX3_dissolveBigon_39 : decode cX3_dissolveBigon 39 = .ok (.iload_n 2, 1) := by decide +kernel
theorem dX3_dissolveBigon_40 : decode cX3_dissolveBigon 40 = .ok (.iload 5, 2) := by decide +kernel
theorem dX3_dissolveBigon_42 : decode cX3_dissolveBigon 42 = .ok (.iconst 2, 1) := by decide +kernel
theorem dX3_dissolveBigon_43 : decode cX3_dissolveBigon 43 = .ok (.iadd, 1) := by decide +kernel
theorem dX3_dissolveBigon_44 : decode cX3_dissolveBigon 44 = .ok (.invokestatic 7, 3) := by decide +kernel
theorem dX3_dissolveBigon_47 : decode cX3_dissolveBigon 47 = .ok (.invokevirtual 23, 3) := by decide +kernel
theorem dX3_dissolveBigon_50 : decode cX3_dissolveBigon 50 = .ok (.aload_n 0, 1) := by decide +kernel
theorem dX3_dissolveBigon_51 : decode cX3_dissolveBigon 51 = .ok (.iload_n 1, 1) := by decide +kernel
theorem dX3_dissolveBigon_52 : decode cX3_dissolveBigon 52 = .ok (.iload_n 2, 1) := by decide +kernel
theorem dX3_dissolveBigon_53 : decode cX3_dissolveBigon 53 = .ok (.invokestatic 31, 3) := by decide +kernel
theorem dX3_dissolveBigon_56 : decode cX3_dissolveBigon 56 = .ok (.invokevirtual 27, 3) := by decide +kernel
theorem dX3_dissolveBigon_59 : decode cX3_dissolveBigon 59 = .ok (.aload_n 0, 1) := by decide +kernel
theorem dX3_dissolveBigon_60 : decode cX3_dissolveBigon 60 = .ok (.iload_n 1, 1) := by decide +kernel
theorem dX3_dissolveBigon_61 : decode cX3_dissolveBigon 61 = .ok (.iload_n 2, 1) := by decide +kernel
theorem dX3_dissolveBigon_62 : decode cX3_dissolveBigon 62 = .ok (.invokestatic 36, 3) := by decide +kernel
theorem dX3_dissolveBigon_65 : decode cX3_dissolveBigon 65 = .ok (.invokevirtual 27, 3) := by decide +kernel
theorem dX3_dissolveBigon_68 : decode cX3_dissolveBigon 68 = .ok (.return_, 1) := by decide +kernel
theorem dX4_init_0 : decode cX4_init 0 = .ok (.aload_n 0, 1) := by decide +kernel
theorem dX4_init_1 : decode cX4_init 1 = .ok (.invokespecial 3, 3) := by decide +kernel
theorem dX4_init_4 : decode cX4_init 4 = .ok (.return_, 1) := by decide +kernel
set_option maxRecDepth 20000 in
theorem ggX4_read_X2_clear : GoodIn wsX4_read wsX2_clear := goodIn_r _ [8, 9, 10, 11, 81, 82, 83] (by decide +kernel) (by decide +kernel)
set_option maxRecDepth 20000 in
theorem gX4_read_X2_clear : GoodIn wsX4_read (wsV RX4 9 RX2 yX2_clear wsX2_clear) := goodIn_app (goodIn_of _ (by decide +kernel)) ggX4_read_X2_clear
set_option maxRecDepth 20000 in
theorem ggX4_read_X8_startsToken : GoodIn wsX4_read wsX8_startsToken := goodIn_r _ [16, 17, 18, 19, 15, 20, 21, 22, 23, 24, 25, 26, 79, 80] (by decide +kernel) (by decide +kernel)
set_option maxRecDepth 20000 in
theorem gX4_read_X8_startsToken : GoodIn wsX4_read (wsV RX4 29 RX8 yX8_startsToken wsX8_startsToken) := goodIn_app (goodIn_of _ (by decide +kernel)) ggX4_read_X8_startsToken
set_option maxRecDepth 20000 in
theorem ggX4_read_X4_takeToken : GoodIn wsX4_read wsX4_takeToken := goodIn_r _ [31, 32, 22, 23, 15, 24, 25, 26, 33, 34, 35, 30, 36, 1, 37, 2, 38, 39, 40, 41, 42, 43, 44, 45, 46, 47, 48, 49, 50, 21, 17, 18, 19, 20, 51, 52, 53, 54, 55, 56, 57, 7, 58, 59, 60, 61, 62, 9, 63, 64, 65, 66, 11, 67, 68, 69, 70, 71, 79, 80, 77, 78, 81, 82, 83] (by decide +kernel) (by decide +kernel)
set_option maxRecDepth 20000 in
theorem gX4_read_X4_takeToken : GoodIn wsX4_read (wsV RX4 33 RX4 yX4_takeToken wsX4_takeToken) := goodIn_app (goodIn_of _ (by decide +kernel)) ggX4_read_X4_takeToken
set_option maxRecDepth 20000 in
theorem ggX4_read_X4_isWhole : GoodIn wsX4_read wsX4_isWhole := goodIn_r _ [75, 1, 37, 42, 67, 60, 61, 7, 62, 9, 76, 64, 65, 66, 11, 55, 56, 57, 58, 59, 63, 77, 78, 81, 82, 83] (by decide +kernel) (by decide +kernel)
set_option maxRecDepth 20000 in
theorem gX4_read_X4_isWhole : GoodIn wsX4_read (wsV RX4 37 RX4 yX4_isWhole wsX4_isWhole) := goodIn_app (goodIn_of _ (by decide +kernel)) ggX4_read_X4_isWhole
theorem dX4_read_0 : decode cX4_read 0 = .ok (.aload_n 2, 1) := by decide +kernel
theorem dX4_read_1 : decode cX4_read 1 = .ok (.invokevirtual 9, 3) := by decide +kernel
theorem dX4_read_4 : decode cX4_read 4 = .ok (.aload_n 0, 1) := by decide +kernel
theorem dX4_read_5 : decode cX4_read 5 = .ok (.iconst 0, 1) := by decide +kernel
theorem dX4_read_6 : decode cX4_read 6 = .ok (.putfield 14, 3) := by decide +kernel
theorem dX4_read_9 : decode cX4_read 9 = .ok (.aload_n 0, 1) := by decide +kernel
theorem dX4_read_10 : decode cX4_read 10 = .ok (.iconst 0, 1) := by decide +kernel
theorem dX4_read_11 : decode cX4_read 11 = .ok (.putfield 20, 3) := by decide +kernel
theorem dX4_read_14 : decode cX4_read 14 = .ok (.aload_n 1, 1) := by decide +kernel
theorem dX4_read_15 : decode cX4_read 15 = .ok (.getfield 24, 3) := by decide +kernel
theorem dX4_read_18 : decode cX4_read 18 = .ok (.istore_n 3, 1) := by decide +kernel
theorem dX4_read_19 : decode cX4_read 19 = .ok (.iconst 0, 1) := by decide +kernel
theorem dX4_read_20 : decode cX4_read 20 = .ok (.istore 4, 2) := by decide +kernel
theorem dX4_read_22 : decode cX4_read 22 = .ok (.iload 4, 2) := by decide +kernel
theorem dX4_read_24 : decode cX4_read 24 = .ok (.iload_n 3, 1) := by decide +kernel
theorem dX4_read_25 : decode cX4_read 25 = .ok (.if_icmp .ge 32, 3) := by decide +kernel
theorem dX4_read_28 : decode cX4_read 28 = .ok (.aload_n 1, 1) := by decide +kernel
theorem dX4_read_29 : decode cX4_read 29 = .ok (.iload 4, 2) := by decide +kernel
theorem dX4_read_31 : decode cX4_read 31 = .ok (.invokevirtual 29, 3) := by decide +kernel
theorem dX4_read_34 : decode cX4_read 34 = .ok (.ifCond .eq 17, 3) := by decide +kernel
theorem dX4_read_37 : decode cX4_read 37 = .ok (.aload_n 0, 1) := by decide +kernel
theorem dX4_read_38 : decode cX4_read 38 = .ok (.aload_n 1, 1) := by decide +kernel
theorem dX4_read_39 : decode cX4_read 39 = .ok (.iload 4, 2) := by decide +kernel
theorem dX4_read_41 : decode cX4_read 41 = .ok (.aload_n 2, 1) := by decide +kernel
theorem dX4_read_42 : decode cX4_read 42 = .ok (.invokevirtual 33, 3) := by decide +kernel
theorem dX4_read_45 : decode cX4_read 45 = .ok (.ifCond .ne 6, 3) := by decide +kernel
theorem dX4_read_48 : decode cX4_read 48 = .ok (.iload 4, 2) := by decide +kernel
theorem dX4_read_50 : decode cX4_read 50 = .ok (.ireturn, 1) := by decide +kernel
theorem dX4_read_51 : decode cX4_read 51 = .ok (.iinc 4 1, 3) := by decide +kernel
theorem dX4_read_54 : decode cX4_read 54 = .ok (.goto (-32), 3) := by decide +kernel
theorem dX4_read_57 : decode cX4_read 57 = .ok (.aload_n 0, 1) := by decide +kernel
theorem dX4_read_58 : decode cX4_read 58 = .ok (.aload_n 2, 1) := by decide +kernel
theorem dX4_read_59 : decode cX4_read 59 = .ok (.invokevirtual 37, 3) := by decide +kernel
theorem dX4_read_62 : decode cX4_read 62 = .ok (.ifCond .eq 7, 3) := by decide +kernel
theorem dX4_read_65 : decode cX4_read 65 = .ok (.iconst (-1), 1) := by decide +kernel
theorem dX4_read_66 : decode cX4_read 66 = .ok (.goto 7, 3) := by decide +kernel
theorem dX4_read_69 : decode cX4_read 69 = .ok (.aload_n 1, 1) := by decide +kernel
theorem dX4_read_70 : decode cX4_read 70 = .ok (.getfield 24, 3) := by decide +kernel
theorem dX4_read_73 : decode cX4_read 73 = .ok (.ireturn, 1) := by decide +kernel
set_option maxRecDepth 20000 in
theorem ggX4_takeToken_X8_character : GoodIn wsX4_takeToken wsX8_character := goodIn_r _ [5, 6, 7, 58, 59] (by decide +kernel) (by decide +kernel)
set_option maxRecDepth 20000 in
theorem gX4_takeToken_X8_character : GoodIn wsX4_takeToken (wsV RX4 41 RX8 yX8_character wsX8_character) := goodIn_app (goodIn_of _ (by decide +kernel)) ggX4_takeToken_X8_character
set_option maxRecDepth 20000 in
theorem ggX4_takeToken_X4_takeCrossing : GoodIn wsX4_takeToken wsX4_takeCrossing := goodIn_r _ [12, 13, 14, 15, 60, 61, 62, 63, 64] (by decide +kernel) (by decide +kernel)
set_option maxRecDepth 20000 in
theorem gX4_takeToken_X4_takeCrossing : GoodIn wsX4_takeToken (wsV RX4 45 RX4 yX4_takeCrossing wsX4_takeCrossing) := goodIn_app (goodIn_of _ (by decide +kernel)) ggX4_takeToken_X4_takeCrossing
set_option maxRecDepth 20000 in
theorem ggX4_takeToken_X4_takeCircle : GoodIn wsX4_takeToken wsX4_takeCircle := goodIn_r _ [19, 13, 20, 60, 61, 62, 63, 64] (by decide +kernel) (by decide +kernel)
set_option maxRecDepth 20000 in
theorem gX4_takeToken_X4_takeCircle : GoodIn wsX4_takeToken (wsV RX4 48 RX4 yX4_takeCircle wsX4_takeCircle) := goodIn_app (goodIn_of _ (by decide +kernel)) ggX4_takeToken_X4_takeCircle
set_option maxRecDepth 20000 in
theorem ggX4_takeToken_X4_takeSemicolon : GoodIn wsX4_takeToken wsX4_takeSemicolon := goodIn_r _ [24, 13, 15, 60, 61] (by decide +kernel) (by decide +kernel)
set_option maxRecDepth 20000 in
theorem gX4_takeToken_X4_takeSemicolon : GoodIn wsX4_takeToken (wsV RX4 51 RX4 yX4_takeSemicolon wsX4_takeSemicolon) := goodIn_app (goodIn_of _ (by decide +kernel)) ggX4_takeToken_X4_takeSemicolon
set_option maxRecDepth 20000 in
theorem ggX4_takeToken_X8_arcFrom : GoodIn wsX4_takeToken wsX8_arcFrom := goodIn_r _ [28, 29, 2, 3, 4, 5, 6, 7, 30, 31, 32, 33, 58, 59] (by decide +kernel) (by decide +kernel)
set_option maxRecDepth 20000 in
theorem gX4_takeToken_X8_arcFrom : GoodIn wsX4_takeToken (wsV RX4 55 RX8 yX8_arcFrom wsX8_arcFrom) := goodIn_app (goodIn_of _ (by decide +kernel)) ggX4_takeToken_X8_arcFrom
set_option maxRecDepth 20000 in
theorem ggX4_takeToken_X4_takeArc : GoodIn wsX4_takeToken wsX4_takeArc := goodIn_r _ [37, 15, 38, 39, 40, 41, 42, 43, 44, 45, 46, 47, 48, 49, 50, 51, 52, 53, 54, 55, 56, 57, 60, 61, 62, 63, 64] (by decide +kernel) (by decide +kernel)
set_option maxRecDepth 20000 in
theorem gX4_takeToken_X4_takeArc : GoodIn wsX4_takeToken (wsV RX4 58 RX4 yX4_takeArc wsX4_takeArc) := goodIn_app (goodIn_of _ (by decide +kernel)) ggX4_takeToken_X4_takeArc
theorem dX4_takeToken_0 : decode cX4_takeToken 0 = .ok (.aload_n 1, 1) := by decide +kernel
theorem dX4_takeToken_1 : decode cX4_takeToken 1 = .ok (.iload_n 2, 1) := by decide +kernel
theorem dX4_takeToken_2 : decode cX4_takeToken 2 = .ok (.invokevirtual 41, 3) := by decide +kernel
theorem dX4_takeToken_5 : decode cX4_takeToken 5 = .ok (.lookupswitch 52 #[(59, 47), (111, 41), (120, 35)], 35) := by decide +kernel
theorem dX4_takeToken_40 : decode cX4_takeToken 40 = .ok (.aload_n 0, 1) := by decide +kernel
theorem dX4_takeToken_41 : decode cX4_takeToken 41 = .ok (.aload_n 3, 1) := by decide +kernel
theorem dX4_takeToken_42 : decode cX4_takeToken 42 = .ok (.invokevirtual 45, 3) := by decide +kernel
theorem dX4_takeToken_45 : decode cX4_takeToken 45 = .ok (.ireturn, 1) := by decide +kernel
theorem dX4_takeToken_46 : decode cX4_takeToken 46 = .ok (.aload_n 0, 1) := by decide +kernel
theorem dX4_takeToken_47 : decode cX4_takeToken 47 = .ok (.aload_n 3, 1) := by decide +kernel
theorem dX4_takeToken_48 : decode cX4_takeToken 48 = .ok (.invokevirtual 48, 3) := by decide +kernel
theorem dX4_takeToken_51 : decode cX4_takeToken 51 = .ok (.ireturn, 1) := by decide +kernel
theorem dX4_takeToken_52 : decode cX4_takeToken 52 = .ok (.aload_n 0, 1) := by decide +kernel
theorem dX4_takeToken_53 : decode cX4_takeToken 53 = .ok (.invokevirtual 51, 3) := by decide +kernel
theorem dX4_takeToken_56 : decode cX4_takeToken 56 = .ok (.ireturn, 1) := by decide +kernel
theorem dX4_takeToken_57 : decode cX4_takeToken 57 = .ok (.aload_n 0, 1) := by decide +kernel
theorem dX4_takeToken_58 : decode cX4_takeToken 58 = .ok (.aload_n 1, 1) := by decide +kernel
theorem dX4_takeToken_59 : decode cX4_takeToken 59 = .ok (.iload_n 2, 1) := by decide +kernel
theorem dX4_takeToken_60 : decode cX4_takeToken 60 = .ok (.invokevirtual 55, 3) := by decide +kernel
theorem dX4_takeToken_63 : decode cX4_takeToken 63 = .ok (.aload_n 3, 1) := by decide +kernel
theorem dX4_takeToken_64 : decode cX4_takeToken 64 = .ok (.invokevirtual 58, 3) := by decide +kernel
theorem dX4_takeToken_67 : decode cX4_takeToken 67 = .ok (.ireturn, 1) := by decide +kernel
theorem dX4_takeCrossing_0 : decode cX4_takeCrossing 0 = .ok (.aload_n 0, 1) := by decide +kernel
theorem dX4_takeCrossing_1 : decode cX4_takeCrossing 1 = .ok (.getfield 14, 3) := by decide +kernel
theorem dX4_takeCrossing_4 : decode cX4_takeCrossing 4 = .ok (.ifCond .ne 12, 3) := by decide +kernel
theorem dX4_takeCrossing_7 : decode cX4_takeCrossing 7 = .ok (.aload_n 1, 1) := by decide +kernel
theorem dX4_takeCrossing_8 : decode cX4_takeCrossing 8 = .ok (.getfield 62, 3) := by decide +kernel
theorem dX4_takeCrossing_11 : decode cX4_takeCrossing 11 = .ok (.bipush 8, 2) := by decide +kernel
theorem dX4_takeCrossing_13 : decode cX4_takeCrossing 13 = .ok (.if_icmp .lt 5, 3) := by decide +kernel
theorem dX4_takeCrossing_16 : decode cX4_takeCrossing 16 = .ok (.iconst 0, 1) := by decide +kernel
theorem dX4_takeCrossing_17 : decode cX4_takeCrossing 17 = .ok (.ireturn, 1) := by decide +kernel
theorem dX4_takeCrossing_18 : decode cX4_takeCrossing 18 = .ok (.aload_n 0, 1) := by decide +kernel
theorem dX4_takeCrossing_19 : decode cX4_takeCrossing 19 = .ok (.iconst 1, 1) := by decide +kernel
theorem dX4_takeCrossing_20 : decode cX4_takeCrossing 20 = .ok (.putfield 14, 3) := by decide +kernel
theorem dX4_takeCrossing_23 : decode cX4_takeCrossing 23 = .ok (.aload_n 0, 1) := by decide +kernel
theorem dX4_takeCrossing_24 : decode cX4_takeCrossing 24 = .ok (.iconst 4, 1) := by decide +kernel
theorem dX4_takeCrossing_25 : decode cX4_takeCrossing 25 = .ok (.putfield 20, 3) := by decide +kernel
theorem dX4_takeCrossing_28 : decode cX4_takeCrossing 28 = .ok (.aload_n 1, 1) := by decide +kernel
theorem dX4_takeCrossing_29 : decode cX4_takeCrossing 29 = .ok (.dup, 1) := by decide +kernel
theorem dX4_takeCrossing_30 : decode cX4_takeCrossing 30 = .ok (.getfield 62, 3) := by decide +kernel
theorem dX4_takeCrossing_33 : decode cX4_takeCrossing 33 = .ok (.iconst 1, 1) := by decide +kernel
theorem dX4_takeCrossing_34 : decode cX4_takeCrossing 34 = .ok (.iadd, 1) := by decide +kernel
theorem dX4_takeCrossing_35 : decode cX4_takeCrossing 35 = .ok (.putfield 62, 3) := by decide +kernel
theorem dX4_takeCrossing_38 : decode cX4_takeCrossing 38 = .ok (.iconst 1, 1) := by decide +kernel
theorem dX4_takeCrossing_39 : decode cX4_takeCrossing 39 = .ok (.ireturn, 1) := by decide +kernel
theorem dX4_takeCircle_0 : decode cX4_takeCircle 0 = .ok (.aload_n 0, 1) := by decide +kernel
theorem dX4_takeCircle_1 : decode cX4_takeCircle 1 = .ok (.getfield 14, 3) := by decide +kernel
theorem dX4_takeCircle_4 : decode cX4_takeCircle 4 = .ok (.ifCond .ne 11, 3) := by decide +kernel
theorem dX4_takeCircle_7 : decode cX4_takeCircle 7 = .ok (.aload_n 1, 1) := by decide +kernel
theorem dX4_takeCircle_8 : decode cX4_takeCircle 8 = .ok (.getfield 65, 3) := by decide +kernel
theorem dX4_takeCircle_11 : decode cX4_takeCircle 11 = .ok (.iconst 4, 1) := by decide +kernel
theorem dX4_takeCircle_12 : decode cX4_takeCircle 12 = .ok (.if_icmp .lt 5, 3) := by decide +kernel
theorem dX4_takeCircle_15 : decode cX4_takeCircle 15 = .ok (.iconst 0, 1) := by decide +kernel
theorem dX4_takeCircle_16 : decode cX4_takeCircle 16 = .ok (.ireturn, 1) := by decide +kernel
theorem dX4_takeCircle_17 : decode cX4_takeCircle 17 = .ok (.aload_n 0, 1) := by decide +kernel
theorem dX4_takeCircle_18 : decode cX4_takeCircle 18 = .ok (.iconst 1, 1) := by decide +kernel
theorem dX4_takeCircle_19 : decode cX4_takeCircle 19 = .ok (.putfield 14, 3) := by decide +kernel
theorem dX4_takeCircle_22 : decode cX4_takeCircle 22 = .ok (.aload_n 1, 1) := by decide +kernel
theorem dX4_takeCircle_23 : decode cX4_takeCircle 23 = .ok (.dup, 1) := by decide +kernel
theorem dX4_takeCircle_24 : decode cX4_takeCircle 24 = .ok (.getfield 65, 3) := by decide +kernel
theorem dX4_takeCircle_27 : decode cX4_takeCircle 27 = .ok (.iconst 1, 1) := by decide +kernel
theorem dX4_takeCircle_28 : decode cX4_takeCircle 28 = .ok (.iadd, 1) := by decide +kernel
theorem dX4_takeCircle_29 : decode cX4_takeCircle 29 = .ok (.putfield 65, 3) := by decide +kernel
theorem dX4_takeCircle_32 : decode cX4_takeCircle 32 = .ok (.iconst 1, 1) := by decide +kernel
theorem dX4_takeCircle_33 : decode cX4_takeCircle 33 = .ok (.ireturn, 1) := by decide +kernel
theorem dX4_takeSemicolon_0 : decode cX4_takeSemicolon 0 = .ok (.aload_n 0, 1) := by decide +kernel
theorem dX4_takeSemicolon_1 : decode cX4_takeSemicolon 1 = .ok (.getfield 14, 3) := by decide +kernel
theorem dX4_takeSemicolon_4 : decode cX4_takeSemicolon 4 = .ok (.ifCond .eq 10, 3) := by decide +kernel
theorem dX4_takeSemicolon_7 : decode cX4_takeSemicolon 7 = .ok (.aload_n 0, 1) := by decide +kernel
theorem dX4_takeSemicolon_8 : decode cX4_takeSemicolon 8 = .ok (.getfield 20, 3) := by decide +kernel
theorem dX4_takeSemicolon_11 : decode cX4_takeSemicolon 11 = .ok (.ifCond .le 5, 3) := by decide +kernel
theorem dX4_takeSemicolon_14 : decode cX4_takeSemicolon 14 = .ok (.iconst 0, 1) := by decide +kernel
theorem dX4_takeSemicolon_15 : decode cX4_takeSemicolon 15 = .ok (.ireturn, 1) := by decide +kernel
theorem dX4_takeSemicolon_16 : decode cX4_takeSemicolon 16 = .ok (.aload_n 0, 1) := by decide +kernel
theorem dX4_takeSemicolon_17 : decode cX4_takeSemicolon 17 = .ok (.iconst 0, 1) := by decide +kernel
theorem dX4_takeSemicolon_18 : decode cX4_takeSemicolon 18 = .ok (.putfield 14, 3) := by decide +kernel
theorem dX4_takeSemicolon_21 : decode cX4_takeSemicolon 21 = .ok (.iconst 1, 1) := by decide +kernel
theorem dX4_takeSemicolon_22 : decode cX4_takeSemicolon 22 = .ok (.ireturn, 1) := by decide +kernel
set_option maxRecDepth 20000 in
theorem ggX4_takeArc_X2_occurrences : GoodIn wsX4_takeArc wsX2_occurrences := goodIn_r _ [6, 7, 8, 9, 5, 10, 11, 12, 13, 14, 15, 16, 24, 25, 26] (by decide +kernel) (by decide +kernel)
set_option maxRecDepth 20000 in
theorem gX4_takeArc_X2_occurrences : GoodIn wsX4_takeArc (wsV RX4 68 RX2 yX2_occurrences wsX2_occurrences) := goodIn_app (goodIn_of _ (by decide +kernel)) ggX4_takeArc_X2_occurrences
set_option maxRecDepth 20000 in
theorem ggX4_takeArc_X2_endCount : GoodIn wsX4_takeArc wsX2_endCount := goodIn_r _ [10, 11, 24, 25, 26] (by decide +kernel) (by decide +kernel)
set_option maxRecDepth 20000 in
theorem gX4_takeArc_X2_endCount : GoodIn wsX4_takeArc (wsV RX4 71 RX2 yX2_endCount wsX2_endCount) := goodIn_app (goodIn_of _ (by decide +kernel)) ggX4_takeArc_X2_endCount
set_option maxRecDepth 20000 in
theorem ggX4_takeArc_X2_setArc : GoodIn wsX4_takeArc wsX2_setArc := goodIn_r _ [21, 16, 24, 25, 26] (by decide +kernel) (by decide +kernel)
set_option maxRecDepth 20000 in
theorem gX4_takeArc_X2_setArc : GoodIn wsX4_takeArc (wsV RX4 75 RX2 yX2_setArc wsX2_setArc) := goodIn_app (goodIn_of _ (by decide +kernel)) ggX4_takeArc_X2_setArc
theorem dX4_takeArc_0 : decode cX4_takeArc 0 = .ok (.iload_n 1, 1) := by decide +kernel
theorem dX4_takeArc_1 : decode cX4_takeArc 1 = .ok (.ifCond .eq 19, 3) := by decide +kernel
theorem dX4_takeArc_4 : decode cX4_takeArc 4 = .ok (.aload_n 0, 1) := by decide +kernel
theorem dX4_takeArc_5 : decode cX4_takeArc 5 = .ok (.getfield 20, 3) := by decide +kernel
theorem dX4_takeArc_8 : decode cX4_takeArc 8 = .ok (.ifCond .eq 12, 3) := by decide +kernel
theorem dX4_takeArc_11 : decode cX4_takeArc 11 = .ok (.aload_n 2, 1) := by decide +kernel
theorem dX4_takeArc_12 : decode cX4_takeArc 12 = .ok (.iload_n 1, 1) := by decide +kernel
theorem dX4_takeArc_13 : decode cX4_takeArc 13 = .ok (.invokevirtual 68, 3) := by decide +kernel
theorem dX4_takeArc_16 : decode cX4_takeArc 16 = .ok (.iconst 2, 1) := by decide +kernel
theorem dX4_takeArc_17 : decode cX4_takeArc 17 = .ok (.if_icmp .lt 5, 3) := by decide +kernel
theorem dX4_takeArc_20 : decode cX4_takeArc 20 = .ok (.iconst 0, 1) := by decide +kernel
theorem dX4_takeArc_21 : decode cX4_takeArc 21 = .ok (.ireturn, 1) := by decide +kernel
theorem dX4_takeArc_22 : decode cX4_takeArc 22 = .ok (.aload_n 2, 1) := by decide +kernel
theorem dX4_takeArc_23 : decode cX4_takeArc 23 = .ok (.aload_n 2, 1) := by decide +kernel
theorem dX4_takeArc_24 : decode cX4_takeArc 24 = .ok (.invokevirtual 71, 3) := by decide +kernel
theorem dX4_takeArc_27 : decode cX4_takeArc 27 = .ok (.aload_n 0, 1) := by decide +kernel
theorem dX4_takeArc_28 : decode cX4_takeArc 28 = .ok (.getfield 20, 3) := by decide +kernel
theorem dX4_takeArc_31 : decode cX4_takeArc 31 = .ok (.isub, 1) := by decide +kernel
theorem dX4_takeArc_32 : decode cX4_takeArc 32 = .ok (.iload_n 1, 1) := by decide +kernel
theorem dX4_takeArc_33 : decode cX4_takeArc 33 = .ok (.invokevirtual 75, 3) := by decide +kernel
theorem dX4_takeArc_36 : decode cX4_takeArc 36 = .ok (.aload_n 0, 1) := by decide +kernel
theorem dX4_takeArc_37 : decode cX4_takeArc 37 = .ok (.dup, 1) := by decide +kernel
theorem dX4_takeArc_38 : decode cX4_takeArc 38 = .ok (.getfield 20, 3) := by decide +kernel
theorem dX4_takeArc_41 : decode cX4_takeArc 41 = .ok (.iconst 1, 1) := by decide +kernel
theorem dX4_takeArc_42 : decode cX4_takeArc 42 = .ok (.isub, 1) := by decide +kernel
theorem dX4_takeArc_43 : decode cX4_takeArc 43 = .ok (.putfield 20, 3) := by decide +kernel
theorem dX4_takeArc_46 : decode cX4_takeArc 46 = .ok (.iconst 1, 1) := by decide +kernel
theorem dX4_takeArc_47 : decode cX4_takeArc 47 = .ok (.ireturn, 1) := by decide +kernel
set_option maxRecDepth 20000 in
theorem ggX4_isWhole_X2_endCount : GoodIn wsX4_isWhole wsX2_endCount := goodIn_r _ [8, 9, 23, 24, 25] (by decide +kernel) (by decide +kernel)
set_option maxRecDepth 20000 in
theorem gX4_isWhole_X2_endCount : GoodIn wsX4_isWhole (wsV RX4 71 RX2 yX2_endCount wsX2_endCount) := goodIn_app (goodIn_of _ (by decide +kernel)) ggX4_isWhole_X2_endCount
set_option maxRecDepth 20000 in
theorem ggX4_isWhole_X2_arc : GoodIn wsX4_isWhole wsX2_arc := goodIn_r _ [13, 14, 23, 24, 25] (by decide +kernel) (by decide +kernel)
set_option maxRecDepth 20000 in
theorem gX4_isWhole_X2_arc : GoodIn wsX4_isWhole (wsV RX4 79 RX2 yX2_arc wsX2_arc) := goodIn_app (goodIn_of _ (by decide +kernel)) ggX4_isWhole_X2_arc
set_option maxRecDepth 20000 in
theorem ggX4_isWhole_X2_occurrences : GoodIn wsX4_isWhole wsX2_occurrences := goodIn_r _ [18, 19, 5, 6, 7, 8, 9, 20, 11, 12, 13, 14, 23, 24, 25] (by decide +kernel) (by decide +kernel)
set_option maxRecDepth 20000 in
theorem gX4_isWhole_X2_occurrences : GoodIn wsX4_isWhole (wsV RX4 68 RX2 yX2_occurrences wsX2_occurrences) := goodIn_app (goodIn_of _ (by decide +kernel)) ggX4_isWhole_X2_occurrences
theorem dX4_isWhole_0 : decode cX4_isWhole 0 = .ok (.aload_n 0, 1) := by decide +kernel
theorem dX4_isWhole_1 : decode cX4_isWhole 1 = .ok (.getfield 14, 3) := by decide +kernel
theorem dX4_isWhole_4 : decode cX4_isWhole 4 = .ok (.ifCond .ne 15, 3) := by decide +kernel
theorem dX4_isWhole_7 : decode cX4_isWhole 7 = .ok (.aload_n 1, 1) := by decide +kernel
theorem dX4_isWhole_8 : decode cX4_isWhole 8 = .ok (.getfield 62, 3) := by decide +kernel
theorem dX4_isWhole_11 : decode cX4_isWhole 11 = .ok (.aload_n 1, 1) := by decide +kernel
theorem dX4_isWhole_12 : decode cX4_isWhole 12 = .ok (.getfield 65, 3) := by decide +kernel
theorem dX4_isWhole_15 : decode cX4_isWhole 15 = .ok (.iadd, 1) := by decide +kernel
theorem dX4_isWhole_16 : decode cX4_isWhole 16 = .ok (.ifCond .ne 5, 3) := by decide +kernel
theorem dX4_isWhole_19 : decode cX4_isWhole 19 = .ok (.iconst 0, 1) := by decide +kernel
theorem dX4_isWhole_20 : decode cX4_isWhole 20 = .ok (.ireturn, 1) := by decide +kernel
theorem dX4_isWhole_21 : decode cX4_isWhole 21 = .ok (.aload_n 1, 1) := by decide +kernel
theorem dX4_isWhole_22 : decode cX4_isWhole 22 = .ok (.invokevirtual 71, 3) := by decide +kernel
theorem dX4_isWhole_25 : decode cX4_isWhole 25 = .ok (.istore_n 2, 1) := by decide +kernel
theorem dX4_isWhole_26 : decode cX4_isWhole 26 = .ok (.iconst 0, 1) := by decide +kernel
theorem dX4_isWhole_27 : decode cX4_isWhole 27 = .ok (.istore_n 3, 1) := by decide +kernel
theorem dX4_isWhole_28 : decode cX4_isWhole 28 = .ok (.iload_n 3, 1) := by decide +kernel
theorem dX4_isWhole_29 : decode cX4_isWhole 29 = .ok (.iload_n 2, 1) := by decide +kernel
theorem dX4_isWhole_30 : decode cX4_isWhole 30 = .ok (.if_icmp .ge 24, 3) := by decide +kernel
theorem dX4_isWhole_33 : decode cX4_isWhole 33 = .ok (.aload_n 1, 1) := by decide +kernel
theorem dX4_isWhole_34 : decode cX4_isWhole 34 = .ok (.aload_n 1, 1) := by decide +kernel
theorem dX4_isWhole_35 : decode cX4_isWhole 35 = .ok (.iload_n 3, 1) := by decide +kernel
theorem dX4_isWhole_36 : decode cX4_isWhole 36 = .ok (.invokevirtual 79, 3) := by decide +kernel
theorem dX4_isWhole_39 : decode cX4_isWhole 39 = .ok (.invokevirtual 68, 3) := by decide +kernel
theorem dX4_isWhole_42 : decode cX4_isWhole 42 = .ok (.iconst 2, 1) := by decide +kernel
theorem dX4_isWhole_43 : decode cX4_isWhole 43 = .ok (.if_icmp .eq 5, 3) := by decide +kernel
theorem dX4_isWhole_46 : decode cX4_isWhole 46 = .ok (.iconst 0, 1) := by decide +kernel
theorem dX4_isWhole_47 : decode cX4_isWhole 47 = .ok (.ireturn, 1) := by decide +kernel
theorem dX4_isWhole_48 : decode cX4_isWhole 48 = .ok (.iinc 3 1, 3) := by decide +kernel
theorem dX4_isWhole_51 : decode cX4_isWhole 51 = .ok (.goto (-23), 3) := by decide +kernel
theorem dX4_isWhole_54 : decode cX4_isWhole 54 = .ok (.iconst 1, 1) := by decide +kernel
theorem dX4_isWhole_55 : decode cX4_isWhole 55 = .ok (.ireturn, 1) := by decide +kernel
set_option maxRecDepth 20000 in
theorem ggX5_crossingParts_X9_contains : GoodIn wsX5_crossingParts wsX9_contains := goodIn_r _ [4] (by decide +kernel) (by decide +kernel)
set_option maxRecDepth 20000 in
theorem gX5_crossingParts_X9_contains_n15 : GoodIn wsX5_crossingParts (wsX9_contains) := ggX5_crossingParts_X9_contains
set_option maxRecDepth 20000 in
theorem ggX5_crossingParts_X5_partOf : GoodIn wsX5_crossingParts wsX5_partOf := goodIn_r _ [8, 1, 9, 3, 10, 11, 12, 13, 14, 15, 16, 2, 4, 17, 18, 19, 20, 21, 22, 23, 24, 25, 26, 27, 28, 29] (by decide +kernel) (by decide +kernel)
set_option maxRecDepth 20000 in
theorem gX5_crossingParts_X5_partOf : GoodIn wsX5_crossingParts (va_wsS RX5 19 yX5_partOf wsX5_partOf) := goodIn_app (goodIn_of _ (by decide +kernel)) ggX5_crossingParts_X5_partOf
theorem dX5_crossingParts_0 : decode cX5_crossingParts 0 = .ok (.iconst 0, 1) := by decide +kernel
theorem dX5_crossingParts_1 : decode cX5_crossingParts 1 = .ok (.istore_n 1, 1) := by decide +kernel
theorem dX5_crossingParts_2 : decode cX5_crossingParts 2 = .ok (.iconst 0, 1) := by decide +kernel
theorem dX5_crossingParts_3 : decode cX5_crossingParts 3 = .ok (.istore_n 2, 1) := by decide +kernel
theorem dX5_crossingParts_4 : decode cX5_crossingParts 4 = .ok (.aload_n 0, 1) := by decide +kernel
theorem dX5_crossingParts_5 : decode cX5_crossingParts 5 = .ok (.getfield 9, 3) := by decide +kernel
theorem dX5_crossingParts_8 : decode cX5_crossingParts 8 = .ok (.istore_n 3, 1) := by decide +kernel
theorem dX5_crossingParts_9 : decode cX5_crossingParts 9 = .ok (.iconst 0, 1) := by decide +kernel
theorem dX5_crossingParts_10 : decode cX5_crossingParts 10 = .ok (.istore 4, 2) := by decide +kernel
theorem dX5_crossingParts_12 : decode cX5_crossingParts 12 = .ok (.iload 4, 2) := by decide +kernel
theorem dX5_crossingParts_14 : decode cX5_crossingParts 14 = .ok (.iload_n 3, 1) := by decide +kernel
theorem dX5_crossingParts_15 : decode cX5_crossingParts 15 = .ok (.if_icmp .ge 30, 3) := by decide +kernel
theorem dX5_crossingParts_18 : decode cX5_crossingParts 18 = .ok (.iload_n 1, 1) := by decide +kernel
theorem dX5_crossingParts_19 : decode cX5_crossingParts 19 = .ok (.iload 4, 2) := by decide +kernel
theorem dX5_crossingParts_21 : decode cX5_crossingParts 21 = .ok (.invokestatic 15, 3) := by decide +kernel
theorem dX5_crossingParts_24 : decode cX5_crossingParts 24 = .ok (.ifCond .ne 15, 3) := by decide +kernel
theorem dX5_crossingParts_27 : decode cX5_crossingParts 27 = .ok (.iload_n 1, 1) := by decide +kernel
theorem dX5_crossingParts_28 : decode cX5_crossingParts 28 = .ok (.aload_n 0, 1) := by decide +kernel
theorem dX5_crossingParts_29 : decode cX5_crossingParts 29 = .ok (.iload 4, 2) := by decide +kernel
theorem dX5_crossingParts_31 : decode cX5_crossingParts 31 = .ok (.invokestatic 19, 3) := by decide +kernel
theorem dX5_crossingParts_34 : decode cX5_crossingParts 34 = .ok (.ior, 1) := by decide +kernel
theorem dX5_crossingParts_35 : decode cX5_crossingParts 35 = .ok (.istore_n 1, 1) := by decide +kernel
theorem dX5_crossingParts_36 : decode cX5_crossingParts 36 = .ok (.iinc 2 1, 3) := by decide +kernel
theorem dX5_crossingParts_39 : decode cX5_crossingParts 39 = .ok (.iinc 4 1, 3) := by decide +kernel
theorem dX5_crossingParts_42 : decode cX5_crossingParts 42 = .ok (.goto (-30), 3) := by decide +kernel
theorem dX5_crossingParts_45 : decode cX5_crossingParts 45 = .ok (.iload_n 2, 1) := by decide +kernel
theorem dX5_crossingParts_46 : decode cX5_crossingParts 46 = .ok (.ireturn, 1) := by decide +kernel
set_option maxRecDepth 20000 in
theorem ggX5_partOf_X9_bit : GoodIn wsX5_partOf wsX9_bit := goodIn_r _ [4] (by decide +kernel) (by decide +kernel)
set_option maxRecDepth 20000 in
theorem gX5_partOf_X9_bit_n25 : GoodIn wsX5_partOf (wsX9_bit) := ggX5_partOf_X9_bit
set_option maxRecDepth 20000 in
theorem ggX5_partOf_X2_endCount : GoodIn wsX5_partOf wsX2_endCount := goodIn_r _ [9, 10, 23, 24, 25] (by decide +kernel) (by decide +kernel)
set_option maxRecDepth 20000 in
theorem gX5_partOf_X2_endCount : GoodIn wsX5_partOf (wsV RX5 29 RX2 yX2_endCount wsX2_endCount) := goodIn_app (goodIn_of _ (by decide +kernel)) ggX5_partOf_X2_endCount
set_option maxRecDepth 20000 in
theorem ggX5_partOf_X9_contains : GoodIn wsX5_partOf wsX9_contains := goodIn_r _ [12] (by decide +kernel) (by decide +kernel)
set_option maxRecDepth 20000 in
theorem gX5_partOf_X9_contains_n15 : GoodIn wsX5_partOf (wsX9_contains) := ggX5_partOf_X9_contains
set_option maxRecDepth 20000 in
theorem ggX5_partOf_X2_otherEnd : GoodIn wsX5_partOf wsX2_otherEnd := goodIn_r _ [16, 17, 18, 19, 8, 20, 21, 22, 6, 7, 9, 10, 23, 24, 25] (by decide +kernel) (by decide +kernel)
set_option maxRecDepth 20000 in
theorem gX5_partOf_X2_otherEnd : GoodIn wsX5_partOf (wsV RX5 33 RX2 yX2_otherEnd wsX2_otherEnd) := goodIn_app (goodIn_of _ (by decide +kernel)) ggX5_partOf_X2_otherEnd
theorem dX5_partOf_0 : decode cX5_partOf 0 = .ok (.iload_n 1, 1) := by decide +kernel
theorem dX5_partOf_1 : decode cX5_partOf 1 = .ok (.invokestatic 25, 3) := by decide +kernel
theorem dX5_partOf_4 : decode cX5_partOf 4 = .ok (.istore_n 2, 1) := by decide +kernel
theorem dX5_partOf_5 : decode cX5_partOf 5 = .ok (.aload_n 0, 1) := by decide +kernel
theorem dX5_partOf_6 : decode cX5_partOf 6 = .ok (.getfield 9, 3) := by decide +kernel
theorem dX5_partOf_9 : decode cX5_partOf 9 = .ok (.istore_n 3, 1) := by decide +kernel
theorem dX5_partOf_10 : decode cX5_partOf 10 = .ok (.aload_n 0, 1) := by decide +kernel
theorem dX5_partOf_11 : decode cX5_partOf 11 = .ok (.invokevirtual 29, 3) := by decide +kernel
theorem dX5_partOf_14 : decode cX5_partOf 14 = .ok (.istore 4, 2) := by decide +kernel
theorem dX5_partOf_16 : decode cX5_partOf 16 = .ok (.iconst 1, 1) := by decide +kernel
theorem dX5_partOf_17 : decode cX5_partOf 17 = .ok (.istore 5, 2) := by decide +kernel
theorem dX5_partOf_19 : decode cX5_partOf 19 = .ok (.iload 5, 2) := by decide +kernel
theorem dX5_partOf_21 : decode cX5_partOf 21 = .ok (.iload_n 3, 1) := by decide +kernel
theorem dX5_partOf_22 : decode cX5_partOf 22 = .ok (.if_icmp .ge 50, 3) := by decide +kernel
theorem dX5_partOf_25 : decode cX5_partOf 25 = .ok (.iconst 0, 1) := by decide +kernel
theorem dX5_partOf_26 : decode cX5_partOf 26 = .ok (.istore 6, 2) := by decide +kernel
theorem dX5_partOf_28 : decode cX5_partOf 28 = .ok (.iload 6, 2) := by decide +kernel
theorem dX5_partOf_30 : decode cX5_partOf 30 = .ok (.iload 4, 2) := by decide +kernel
theorem dX5_partOf_32 : decode cX5_partOf 32 = .ok (.if_icmp .ge 34, 3) := by decide +kernel
theorem dX5_partOf_35 : decode cX5_partOf 35 = .ok (.iload_n 2, 1) := by decide +kernel
theorem dX5_partOf_36 : decode cX5_partOf 36 = .ok (.iload 6, 2) := by decide +kernel
theorem dX5_partOf_38 : decode cX5_partOf 38 = .ok (.iconst 2, 1) := by decide +kernel
theorem dX5_partOf_39 : decode cX5_partOf 39 = .ok (.ishr, 1) := by decide +kernel
theorem dX5_partOf_40 : decode cX5_partOf 40 = .ok (.invokestatic 15, 3) := by decide +kernel
theorem dX5_partOf_43 : decode cX5_partOf 43 = .ok (.ifCond .eq 17, 3) := by decide +kernel
theorem dX5_partOf_46 : decode cX5_partOf 46 = .ok (.iload_n 2, 1) := by decide +kernel
theorem dX5_partOf_47 : decode cX5_partOf 47 = .ok (.aload_n 0, 1) := by decide +kernel
theorem dX5_partOf_48 : decode cX5_partOf 48 = .ok (.iload 6, 2) := by decide +kernel
theorem dX5_partOf_50 : decode cX5_partOf 50 = .ok (.invokevirtual 33, 3) := by decide +kernel
theorem dX5_partOf_53 : decode cX5_partOf 53 = .ok (.iconst 2, 1) := by decide +kernel
theorem dX5_partOf_54 : decode cX5_partOf 54 = .ok (.ishr, 1) := by decide +kernel
theorem dX5_partOf_55 : decode cX5_partOf 55 = .ok (.invokestatic 25, 3) := by decide +kernel
theorem dX5_partOf_58 : decode cX5_partOf 58 = .ok (.ior, 1) := by decide +kernel
theorem dX5_partOf_59 : decode cX5_partOf 59 = .ok (.istore_n 2, 1) := by decide +kernel
theorem dX5_partOf_60 : decode cX5_partOf 60 = .ok (.iinc 6 1, 3) := by decide +kernel
theorem dX5_partOf_63 : decode cX5_partOf 63 = .ok (.goto (-35), 3) := by decide +kernel
theorem dX5_partOf_66 : decode cX5_partOf 66 = .ok (.iinc 5 1, 3) := by decide +kernel
theorem dX5_partOf_69 : decode cX5_partOf 69 = .ok (.goto (-50), 3) := by decide +kernel
theorem dX5_partOf_72 : decode cX5_partOf 72 = .ok (.iload_n 2, 1) := by decide +kernel
theorem dX5_partOf_73 : decode cX5_partOf 73 = .ok (.ireturn, 1) := by decide +kernel
set_option maxRecDepth 20000 in
theorem ggX5_endCycles_X2_endCount : GoodIn wsX5_endCycles wsX2_endCount := goodIn_r _ [5, 6, 26, 27, 28] (by decide +kernel) (by decide +kernel)
set_option maxRecDepth 20000 in
theorem gX5_endCycles_X2_endCount : GoodIn wsX5_endCycles (wsV RX5 29 RX2 yX2_endCount wsX2_endCount) := goodIn_app (goodIn_of _ (by decide +kernel)) ggX5_endCycles_X2_endCount
set_option maxRecDepth 20000 in
theorem ggX5_endCycles_X9_contains : GoodIn wsX5_endCycles wsX9_contains := goodIn_r _ [9] (by decide +kernel) (by decide +kernel)
set_option maxRecDepth 20000 in
theorem gX5_endCycles_X9_contains_n15 : GoodIn wsX5_endCycles (wsX9_contains) := ggX5_endCycles_X9_contains
set_option maxRecDepth 20000 in
theorem ggX5_endCycles_X5_cycleOf : GoodIn wsX5_endCycles wsX5_cycleOf := goodIn_r _ [13, 7, 8, 9, 14, 15, 16, 17, 18, 4, 19, 20, 21, 22, 23, 24, 25, 2, 3, 5, 6, 26, 27, 28] (by decide +kernel) (by decide +kernel)
set_option maxRecDepth 20000 in
theorem gX5_endCycles_X5_cycleOf : GoodIn wsX5_endCycles (va_wsS RX5 36 yX5_cycleOf wsX5_cycleOf) := goodIn_app (goodIn_of _ (by decide +kernel)) ggX5_endCycles_X5_cycleOf
theorem dX5_endCycles_0 : decode cX5_endCycles 0 = .ok (.iconst 0, 1) := by decide +kernel
theorem dX5_endCycles_1 : decode cX5_endCycles 1 = .ok (.istore_n 1, 1) := by decide +kernel
theorem dX5_endCycles_2 : decode cX5_endCycles 2 = .ok (.iconst 0, 1) := by decide +kernel
theorem dX5_endCycles_3 : decode cX5_endCycles 3 = .ok (.istore_n 2, 1) := by decide +kernel
theorem dX5_endCycles_4 : decode cX5_endCycles 4 = .ok (.aload_n 0, 1) := by decide +kernel
theorem dX5_endCycles_5 : decode cX5_endCycles 5 = .ok (.invokevirtual 29, 3) := by decide +kernel
theorem dX5_endCycles_8 : decode cX5_endCycles 8 = .ok (.istore_n 3, 1) := by decide +kernel
theorem dX5_endCycles_9 : decode cX5_endCycles 9 = .ok (.iconst 0, 1) := by decide +kernel
theorem dX5_endCycles_10 : decode cX5_endCycles 10 = .ok (.istore 4, 2) := by decide +kernel
theorem dX5_endCycles_12 : decode cX5_endCycles 12 = .ok (.iload 4, 2) := by decide +kernel
theorem dX5_endCycles_14 : decode cX5_endCycles 14 = .ok (.iload_n 3, 1) := by decide +kernel
theorem dX5_endCycles_15 : decode cX5_endCycles 15 = .ok (.if_icmp .ge 30, 3) := by decide +kernel
theorem dX5_endCycles_18 : decode cX5_endCycles 18 = .ok (.iload_n 1, 1) := by decide +kernel
theorem dX5_endCycles_19 : decode cX5_endCycles 19 = .ok (.iload 4, 2) := by decide +kernel
theorem dX5_endCycles_21 : decode cX5_endCycles 21 = .ok (.invokestatic 15, 3) := by decide +kernel
theorem dX5_endCycles_24 : decode cX5_endCycles 24 = .ok (.ifCond .ne 15, 3) := by decide +kernel
theorem dX5_endCycles_27 : decode cX5_endCycles 27 = .ok (.iload_n 1, 1) := by decide +kernel
theorem dX5_endCycles_28 : decode cX5_endCycles 28 = .ok (.aload_n 0, 1) := by decide +kernel
theorem dX5_endCycles_29 : decode cX5_endCycles 29 = .ok (.iload 4, 2) := by decide +kernel
theorem dX5_endCycles_31 : decode cX5_endCycles 31 = .ok (.invokestatic 36, 3) := by decide +kernel
theorem dX5_endCycles_34 : decode cX5_endCycles 34 = .ok (.ior, 1) := by decide +kernel
theorem dX5_endCycles_35 : decode cX5_endCycles 35 = .ok (.istore_n 1, 1) := by decide +kernel
theorem dX5_endCycles_36 : decode cX5_endCycles 36 = .ok (.iinc 2 1, 3) := by decide +kernel
theorem dX5_endCycles_39 : decode cX5_endCycles 39 = .ok (.iinc 4 1, 3) := by decide +kernel
theorem dX5_endCycles_42 : decode cX5_endCycles 42 = .ok (.goto (-30), 3) := by decide +kernel
theorem dX5_endCycles_45 : decode cX5_endCycles 45 = .ok (.iload_n 2, 1) := by decide +kernel
theorem dX5_endCycles_46 : decode cX5_endCycles 46 = .ok (.ireturn, 1) := by decide +kernel
set_option maxRecDepth 20000 in
theorem ggX5_cycleOf_X9_contains : GoodIn wsX5_cycleOf wsX9_contains := goodIn_r _ [3] (by decide +kernel) (by decide +kernel)
set_option maxRecDepth 20000 in
theorem gX5_cycleOf_X9_contains_n15 : GoodIn wsX5_cycleOf (wsX9_contains) := ggX5_cycleOf_X9_contains
set_option maxRecDepth 20000 in
theorem ggX5_cycleOf_X9_bit : GoodIn wsX5_cycleOf wsX9_bit := goodIn_r _ [5] (by decide +kernel) (by decide +kernel)
set_option maxRecDepth 20000 in
theorem gX5_cycleOf_X9_bit_n25 : GoodIn wsX5_cycleOf (wsX9_bit) := ggX5_cycleOf_X9_bit
set_option maxRecDepth 20000 in
theorem ggX5_cycleOf_X2_otherEnd : GoodIn wsX5_cycleOf wsX2_otherEnd := goodIn_r _ [10, 11, 12, 13, 9, 14, 15, 16, 17, 18, 19, 20, 21, 22, 23] (by decide +kernel) (by decide +kernel)
set_option maxRecDepth 20000 in
theorem gX5_cycleOf_X2_otherEnd : GoodIn wsX5_cycleOf (wsV RX5 33 RX2 yX2_otherEnd wsX2_otherEnd) := goodIn_app (goodIn_of _ (by decide +kernel)) ggX5_cycleOf_X2_otherEnd
theorem dX5_cycleOf_0 : decode cX5_cycleOf 0 = .ok (.iconst 0, 1) := by decide +kernel
theorem dX5_cycleOf_1 : decode cX5_cycleOf 1 = .ok (.istore_n 2, 1) := by decide +kernel
theorem dX5_cycleOf_2 : decode cX5_cycleOf 2 = .ok (.iload_n 1, 1) := by decide +kernel
theorem dX5_cycleOf_3 : decode cX5_cycleOf 3 = .ok (.istore_n 3, 1) := by decide +kernel
theorem dX5_cycleOf_4 : decode cX5_cycleOf 4 = .ok (.iconst 0, 1) := by decide +kernel
theorem dX5_cycleOf_5 : decode cX5_cycleOf 5 = .ok (.istore 4, 2) := by decide +kernel
theorem dX5_cycleOf_7 : decode cX5_cycleOf 7 = .ok (.iload 4, 2) := by decide +kernel
theorem dX5_cycleOf_9 : decode cX5_cycleOf 9 = .ok (.bipush 32, 2) := by decide +kernel
theorem dX5_cycleOf_11 : decode cX5_cycleOf 11 = .ok (.if_icmp .ge 44, 3) := by decide +kernel
theorem dX5_cycleOf_14 : decode cX5_cycleOf 14 = .ok (.iload_n 2, 1) := by decide +kernel
theorem dX5_cycleOf_15 : decode cX5_cycleOf 15 = .ok (.iload_n 3, 1) := by decide +kernel
theorem dX5_cycleOf_16 : decode cX5_cycleOf 16 = .ok (.invokestatic 15, 3) := by decide +kernel
theorem dX5_cycleOf_19 : decode cX5_cycleOf 19 = .ok (.ifCond .ne 36, 3) := by decide +kernel
theorem dX5_cycleOf_22 : decode cX5_cycleOf 22 = .ok (.iload_n 2, 1) := by decide +kernel
theorem dX5_cycleOf_23 : decode cX5_cycleOf 23 = .ok (.iload_n 3, 1) := by decide +kernel
theorem dX5_cycleOf_24 : decode cX5_cycleOf 24 = .ok (.invokestatic 25, 3) := by decide +kernel
theorem dX5_cycleOf_27 : decode cX5_cycleOf 27 = .ok (.ior, 1) := by decide +kernel
theorem dX5_cycleOf_28 : decode cX5_cycleOf 28 = .ok (.istore_n 2, 1) := by decide +kernel
theorem dX5_cycleOf_29 : decode cX5_cycleOf 29 = .ok (.aload_n 0, 1) := by decide +kernel
theorem dX5_cycleOf_30 : decode cX5_cycleOf 30 = .ok (.iload_n 3, 1) := by decide +kernel
theorem dX5_cycleOf_31 : decode cX5_cycleOf 31 = .ok (.invokevirtual 33, 3) := by decide +kernel
theorem dX5_cycleOf_34 : decode cX5_cycleOf 34 = .ok (.istore 5, 2) := by decide +kernel
theorem dX5_cycleOf_36 : decode cX5_cycleOf 36 = .ok (.iload 5, 2) := by decide +kernel
theorem dX5_cycleOf_38 : decode cX5_cycleOf 38 = .ok (.bipush (-4), 2) := by decide +kernel
theorem dX5_cycleOf_40 : decode cX5_cycleOf 40 = .ok (.iand, 1) := by decide +kernel
theorem dX5_cycleOf_41 : decode cX5_cycleOf 41 = .ok (.iload 5, 2) := by decide +kernel
theorem dX5_cycleOf_43 : decode cX5_cycleOf 43 = .ok (.iconst 1, 1) := by decide +kernel
theorem dX5_cycleOf_44 : decode cX5_cycleOf 44 = .ok (.iadd, 1) := by decide +kernel
theorem dX5_cycleOf_45 : decode cX5_cycleOf 45 = .ok (.iconst 3, 1) := by decide +kernel
theorem dX5_cycleOf_46 : decode cX5_cycleOf 46 = .ok (.iand, 1) := by decide +kernel
theorem dX5_cycleOf_47 : decode cX5_cycleOf 47 = .ok (.ior, 1) := by decide +kernel
theorem dX5_cycleOf_48 : decode cX5_cycleOf 48 = .ok (.istore_n 3, 1) := by decide +kernel
theorem dX5_cycleOf_49 : decode cX5_cycleOf 49 = .ok (.iinc 4 1, 3) := by decide +kernel
theorem dX5_cycleOf_52 : decode cX5_cycleOf 52 = .ok (.goto (-45), 3) := by decide +kernel
theorem dX5_cycleOf_55 : decode cX5_cycleOf 55 = .ok (.iload_n 2, 1) := by decide +kernel
theorem dX5_cycleOf_56 : decode cX5_cycleOf 56 = .ok (.ireturn, 1) := by decide +kernel
set_option maxRecDepth 20000 in
theorem ggX5_alternates_X2_endCount : GoodIn wsX5_alternates wsX2_endCount := goodIn_r _ [5, 6, 17, 18, 19] (by decide +kernel) (by decide +kernel)
set_option maxRecDepth 20000 in
theorem gX5_alternates_X2_endCount : GoodIn wsX5_alternates (wsV RX5 29 RX2 yX2_endCount wsX2_endCount) := goodIn_app (goodIn_of _ (by decide +kernel)) ggX5_alternates_X2_endCount
set_option maxRecDepth 20000 in
theorem ggX5_alternates_X2_otherEnd : GoodIn wsX5_alternates wsX2_otherEnd := goodIn_r _ [10, 11, 12, 13, 4, 14, 15, 16, 2, 3, 5, 6, 17, 18, 19] (by decide +kernel) (by decide +kernel)
set_option maxRecDepth 20000 in
theorem gX5_alternates_X2_otherEnd : GoodIn wsX5_alternates (wsV RX5 33 RX2 yX2_otherEnd wsX2_otherEnd) := goodIn_app (goodIn_of _ (by decide +kernel)) ggX5_alternates_X2_otherEnd
theorem dX5_alternates_0 : decode cX5_alternates 0 = .ok (.aload_n 0, 1) := by decide +kernel
theorem dX5_alternates_1 : decode cX5_alternates 1 = .ok (.invokevirtual 29, 3) := by decide +kernel
theorem dX5_alternates_4 : decode cX5_alternates 4 = .ok (.istore_n 1, 1) := by decide +kernel
theorem dX5_alternates_5 : decode cX5_alternates 5 = .ok (.iconst 0, 1) := by decide +kernel
theorem dX5_alternates_6 : decode cX5_alternates 6 = .ok (.istore_n 2, 1) := by decide +kernel
theorem dX5_alternates_7 : decode cX5_alternates 7 = .ok (.iload_n 2, 1) := by decide +kernel
theorem dX5_alternates_8 : decode cX5_alternates 8 = .ok (.iload_n 1, 1) := by decide +kernel
theorem dX5_alternates_9 : decode cX5_alternates 9 = .ok (.if_icmp .ge 24, 3) := by decide +kernel
theorem dX5_alternates_12 : decode cX5_alternates 12 = .ok (.iload_n 2, 1) := by decide +kernel
theorem dX5_alternates_13 : decode cX5_alternates 13 = .ok (.iconst 1, 1) := by decide +kernel
theorem dX5_alternates_14 : decode cX5_alternates 14 = .ok (.iand, 1) := by decide +kernel
theorem dX5_alternates_15 : decode cX5_alternates 15 = .ok (.aload_n 0, 1) := by decide +kernel
theorem dX5_alternates_16 : decode cX5_alternates 16 = .ok (.iload_n 2, 1) := by decide +kernel
theorem dX5_alternates_17 : decode cX5_alternates 17 = .ok (.invokevirtual 33, 3) := by decide +kernel
theorem dX5_alternates_20 : decode cX5_alternates 20 = .ok (.iconst 1, 1) := by decide +kernel
theorem dX5_alternates_21 : decode cX5_alternates 21 = .ok (.iand, 1) := by decide +kernel
theorem dX5_alternates_22 : decode cX5_alternates 22 = .ok (.if_icmp .ne 5, 3) := by decide +kernel
theorem dX5_alternates_25 : decode cX5_alternates 25 = .ok (.iconst 0, 1) := by decide +kernel
theorem dX5_alternates_26 : decode cX5_alternates 26 = .ok (.ireturn, 1) := by decide +kernel
theorem dX5_alternates_27 : decode cX5_alternates 27 = .ok (.iinc 2 1, 3) := by decide +kernel
theorem dX5_alternates_30 : decode cX5_alternates 30 = .ok (.goto (-23), 3) := by decide +kernel
theorem dX5_alternates_33 : decode cX5_alternates 33 = .ok (.iconst 1, 1) := by decide +kernel
theorem dX5_alternates_34 : decode cX5_alternates 34 = .ok (.ireturn, 1) := by decide +kernel
theorem dX6_init_0 : decode cX6_init 0 = .ok (.aload_n 0, 1) := by decide +kernel
theorem dX6_init_1 : decode cX6_init 1 = .ok (.invokespecial 3, 3) := by decide +kernel
theorem dX6_init_4 : decode cX6_init 4 = .ok (.aload_n 0, 1) := by decide +kernel
theorem dX6_init_5 : decode cX6_init 5 = .ok (.sipush 340, 3) := by decide +kernel
theorem dX6_init_8 : decode cX6_init 8 = .ok (.newarray .int, 2) := by decide +kernel
theorem dX6_init_10 : decode cX6_init 10 = .ok (.putfield 11, 3) := by decide +kernel
theorem dX6_init_13 : decode cX6_init 13 = .ok (.aload_n 0, 1) := by decide +kernel
theorem dX6_init_14 : decode cX6_init 14 = .ok (.bipush 10, 2) := by decide +kernel
theorem dX6_init_16 : decode cX6_init 16 = .ok (.newarray .boolean, 2) := by decide +kernel
theorem dX6_init_18 : decode cX6_init 18 = .ok (.putfield 15, 3) := by decide +kernel
theorem dX6_init_21 : decode cX6_init 21 = .ok (.return_, 1) := by decide +kernel
theorem dX6_holds_0 : decode cX6_holds 0 = .ok (.iload_n 1, 1) := by decide +kernel
theorem dX6_holds_1 : decode cX6_holds 1 = .ok (.ifCond .lt 22, 3) := by decide +kernel
theorem dX6_holds_4 : decode cX6_holds 4 = .ok (.iload_n 1, 1) := by decide +kernel
theorem dX6_holds_5 : decode cX6_holds 5 = .ok (.bipush 10, 2) := by decide +kernel
theorem dX6_holds_7 : decode cX6_holds 7 = .ok (.if_icmp .ge 16, 3) := by decide +kernel
theorem dX6_holds_10 : decode cX6_holds 10 = .ok (.aload_n 0, 1) := by decide +kernel
theorem dX6_holds_11 : decode cX6_holds 11 = .ok (.getfield 15, 3) := by decide +kernel
theorem dX6_holds_14 : decode cX6_holds 14 = .ok (.iload_n 1, 1) := by decide +kernel
theorem dX6_holds_15 : decode cX6_holds 15 = .ok (.baload, 1) := by decide +kernel
theorem dX6_holds_16 : decode cX6_holds 16 = .ok (.ifCond .eq 7, 3) := by decide +kernel
theorem dX6_holds_19 : decode cX6_holds 19 = .ok (.iconst 1, 1) := by decide +kernel
theorem dX6_holds_20 : decode cX6_holds 20 = .ok (.goto 4, 3) := by decide +kernel
theorem dX6_holds_23 : decode cX6_holds 23 = .ok (.iconst 0, 1) := by decide +kernel
theorem dX6_holds_24 : decode cX6_holds 24 = .ok (.ireturn, 1) := by decide +kernel
set_option maxRecDepth 20000 in
theorem ggX6_keep_X2_arc : GoodIn wsX6_keep wsX2_arc := goodIn_r _ [9, 10, 13, 14, 15] (by decide +kernel) (by decide +kernel)
set_option maxRecDepth 20000 in
theorem gX6_keep_X2_arc : GoodIn wsX6_keep (wsV RX6 19 RX2 yX2_arc wsX2_arc) := goodIn_app (goodIn_of _ (by decide +kernel)) ggX6_keep_X2_arc
theorem dX6_keep_0 : decode cX6_keep 0 = .ok (.iload_n 1, 1) := by decide +kernel
theorem dX6_keep_1 : decode cX6_keep 1 = .ok (.ifCond .lt 9, 3) := by decide +kernel
theorem dX6_keep_4 : decode cX6_keep 4 = .ok (.iload_n 1, 1) := by decide +kernel
theorem dX6_keep_5 : decode cX6_keep 5 = .ok (.bipush 10, 2) := by decide +kernel
theorem dX6_keep_7 : decode cX6_keep 7 = .ok (.if_icmp .lt 4, 3) := by decide +kernel
theorem dX6_keep_10 : decode cX6_keep 10 = .ok (.return_, 1) := by decide +kernel
theorem dX6_keep_11 : decode cX6_keep 11 = .ok (.iload_n 1, 1) := by decide +kernel
theorem dX6_keep_12 : decode cX6_keep 12 = .ok (.bipush 34, 2) := by decide +kernel
theorem dX6_keep_14 : decode cX6_keep 14 = .ok (.imul, 1) := by decide +kernel
theorem dX6_keep_15 : decode cX6_keep 15 = .ok (.istore_n 3, 1) := by decide +kernel
theorem dX6_keep_16 : decode cX6_keep 16 = .ok (.iconst 0, 1) := by decide +kernel
theorem dX6_keep_17 : decode cX6_keep 17 = .ok (.istore 4, 2) := by decide +kernel
theorem dX6_keep_19 : decode cX6_keep 19 = .ok (.iload 4, 2) := by decide +kernel
theorem dX6_keep_21 : decode cX6_keep 21 = .ok (.bipush 32, 2) := by decide +kernel
theorem dX6_keep_23 : decode cX6_keep 23 = .ok (.if_icmp .ge 24, 3) := by decide +kernel
theorem dX6_keep_26 : decode cX6_keep 26 = .ok (.aload_n 0, 1) := by decide +kernel
theorem dX6_keep_27 : decode cX6_keep 27 = .ok (.getfield 11, 3) := by decide +kernel
theorem dX6_keep_30 : decode cX6_keep 30 = .ok (.iload_n 3, 1) := by decide +kernel
theorem dX6_keep_31 : decode cX6_keep 31 = .ok (.iload 4, 2) := by decide +kernel
theorem dX6_keep_33 : decode cX6_keep 33 = .ok (.iadd, 1) := by decide +kernel
theorem dX6_keep_34 : decode cX6_keep 34 = .ok (.aload_n 2, 1) := by decide +kernel
theorem dX6_keep_35 : decode cX6_keep 35 = .ok (.iload 4, 2) := by decide +kernel
theorem dX6_keep_37 : decode cX6_keep 37 = .ok (.invokevirtual 19, 3) := by decide +kernel
theorem dX6_keep_40 : decode cX6_keep 40 = .ok (.iastore, 1) := by decide +kernel
theorem dX6_keep_41 : decode cX6_keep 41 = .ok (.iinc 4 1, 3) := by decide +kernel
theorem dX6_keep_44 : decode cX6_keep 44 = .ok (.goto (-25), 3) := by decide +kernel
theorem dX6_keep_47 : decode cX6_keep 47 = .ok (.aload_n 0, 1) := by decide +kernel
theorem dX6_keep_48 : decode cX6_keep 48 = .ok (.getfield 11, 3) := by decide +kernel
theorem dX6_keep_51 : decode cX6_keep 51 = .ok (.iload_n 3, 1) := by decide +kernel
theorem dX6_keep_52 : decode cX6_keep 52 = .ok (.bipush 32, 2) := by decide +kernel
theorem dX6_keep_54 : decode cX6_keep 54 = .ok (.iadd, 1) := by decide +kernel
theorem dX6_keep_55 : decode cX6_keep 55 = .ok (.aload_n 2, 1) := by decide +kernel
theorem dX6_keep_56 : decode cX6_keep 56 = .ok (.getfield 25, 3) := by decide +kernel
theorem dX6_keep_59 : decode cX6_keep 59 = .ok (.iastore, 1) := by decide +kernel
theorem dX6_keep_60 : decode cX6_keep 60 = .ok (.aload_n 0, 1) := by decide +kernel
theorem dX6_keep_61 : decode cX6_keep 61 = .ok (.getfield 11, 3) := by decide +kernel
theorem dX6_keep_64 : decode cX6_keep 64 = .ok (.iload_n 3, 1) := by decide +kernel
theorem dX6_keep_65 : decode cX6_keep 65 = .ok (.bipush 32, 2) := by decide +kernel
theorem dX6_keep_67 : decode cX6_keep 67 = .ok (.iadd, 1) := by decide +kernel
theorem dX6_keep_68 : decode cX6_keep 68 = .ok (.iconst 1, 1) := by decide +kernel
theorem dX6_keep_69 : decode cX6_keep 69 = .ok (.iadd, 1) := by decide +kernel
theorem dX6_keep_70 : decode cX6_keep 70 = .ok (.aload_n 2, 1) := by decide +kernel
theorem dX6_keep_71 : decode cX6_keep 71 = .ok (.getfield 29, 3) := by decide +kernel
theorem dX6_keep_74 : decode cX6_keep 74 = .ok (.iastore, 1) := by decide +kernel
theorem dX6_keep_75 : decode cX6_keep 75 = .ok (.aload_n 0, 1) := by decide +kernel
theorem dX6_keep_76 : decode cX6_keep 76 = .ok (.getfield 15, 3) := by decide +kernel
theorem dX6_keep_79 : decode cX6_keep 79 = .ok (.iload_n 1, 1) := by decide +kernel
theorem dX6_keep_80 : decode cX6_keep 80 = .ok (.iconst 1, 1) := by decide +kernel
theorem dX6_keep_81 : decode cX6_keep 81 = .ok (.bastore, 1) := by decide +kernel
theorem dX6_keep_82 : decode cX6_keep 82 = .ok (.return_, 1) := by decide +kernel
set_option maxRecDepth 20000 in
theorem ggX6_fetch_X6_holds : GoodIn wsX6_fetch wsX6_holds := goodIn_r _ [8, 9, 16, 17] (by decide +kernel) (by decide +kernel)
set_option maxRecDepth 20000 in
theorem gX6_fetch_X6_holds : GoodIn wsX6_fetch (wsV RX6 32 RX6 yX6_holds wsX6_holds) := goodIn_app (goodIn_of _ (by decide +kernel)) ggX6_fetch_X6_holds
set_option maxRecDepth 20000 in
theorem ggX6_fetch_X2_setArc : GoodIn wsX6_fetch wsX2_setArc := goodIn_r _ [14, 15, 18, 19, 20] (by decide +kernel) (by decide +kernel)
set_option maxRecDepth 20000 in
theorem gX6_fetch_X2_setArc : GoodIn wsX6_fetch (wsV RX6 36 RX2 yX2_setArc wsX2_setArc) := goodIn_app (goodIn_of _ (by decide +kernel)) ggX6_fetch_X2_setArc
theorem dX6_fetch_0 : decode cX6_fetch 0 = .ok (.aload_n 0, 1) := by decide +kernel
theorem dX6_fetch_1 : decode cX6_fetch 1 = .ok (.iload_n 1, 1) := by decide +kernel
theorem dX6_fetch_2 : decode cX6_fetch 2 = .ok (.invokevirtual 32, 3) := by decide +kernel
theorem dX6_fetch_5 : decode cX6_fetch 5 = .ok (.ifCond .ne 4, 3) := by decide +kernel
theorem dX6_fetch_8 : decode cX6_fetch 8 = .ok (.return_, 1) := by decide +kernel
theorem dX6_fetch_9 : decode cX6_fetch 9 = .ok (.iload_n 1, 1) := by decide +kernel
theorem dX6_fetch_10 : decode cX6_fetch 10 = .ok (.bipush 34, 2) := by decide +kernel
theorem dX6_fetch_12 : decode cX6_fetch 12 = .ok (.imul, 1) := by decide +kernel
theorem dX6_fetch_13 : decode cX6_fetch 13 = .ok (.istore_n 3, 1) := by decide +kernel
theorem dX6_fetch_14 : decode cX6_fetch 14 = .ok (.iconst 0, 1) := by decide +kernel
theorem dX6_fetch_15 : decode cX6_fetch 15 = .ok (.istore 4, 2) := by decide +kernel
theorem dX6_fetch_17 : decode cX6_fetch 17 = .ok (.iload 4, 2) := by decide +kernel
theorem dX6_fetch_19 : decode cX6_fetch 19 = .ok (.bipush 32, 2) := by decide +kernel
theorem dX6_fetch_21 : decode cX6_fetch 21 = .ok (.if_icmp .ge 24, 3) := by decide +kernel
theorem dX6_fetch_24 : decode cX6_fetch 24 = .ok (.aload_n 2, 1) := by decide +kernel
theorem dX6_fetch_25 : decode cX6_fetch 25 = .ok (.iload 4, 2) := by decide +kernel
theorem dX6_fetch_27 : decode cX6_fetch 27 = .ok (.aload_n 0, 1) := by decide +kernel
theorem dX6_fetch_28 : decode cX6_fetch 28 = .ok (.getfield 11, 3) := by decide +kernel
theorem dX6_fetch_31 : decode cX6_fetch 31 = .ok (.iload_n 3, 1) := by decide +kernel
theorem dX6_fetch_32 : decode cX6_fetch 32 = .ok (.iload 4, 2) := by decide +kernel
theorem dX6_fetch_34 : decode cX6_fetch 34 = .ok (.iadd, 1) := by decide +kernel
theorem dX6_fetch_35 : decode cX6_fetch 35 = .ok (.iaload, 1) := by decide +kernel
theorem dX6_fetch_36 : decode cX6_fetch 36 = .ok (.invokevirtual 36, 3) := by decide +kernel
theorem dX6_fetch_39 : decode cX6_fetch 39 = .ok (.iinc 4 1, 3) := by decide +kernel
theorem dX6_fetch_42 : decode cX6_fetch 42 = .ok (.goto (-25), 3) := by decide +kernel
theorem dX6_fetch_45 : decode cX6_fetch 45 = .ok (.aload_n 2, 1) := by decide +kernel
theorem dX6_fetch_46 : decode cX6_fetch 46 = .ok (.aload_n 0, 1) := by decide +kernel
theorem dX6_fetch_47 : decode cX6_fetch 47 = .ok (.getfield 11, 3) := by decide +kernel
theorem dX6_fetch_50 : decode cX6_fetch 50 = .ok (.iload_n 3, 1) := by decide +kernel
theorem dX6_fetch_51 : decode cX6_fetch 51 = .ok (.bipush 32, 2) := by decide +kernel
theorem dX6_fetch_53 : decode cX6_fetch 53 = .ok (.iadd, 1) := by decide +kernel
theorem dX6_fetch_54 : decode cX6_fetch 54 = .ok (.iaload, 1) := by decide +kernel
theorem dX6_fetch_55 : decode cX6_fetch 55 = .ok (.putfield 25, 3) := by decide +kernel
theorem dX6_fetch_58 : decode cX6_fetch 58 = .ok (.aload_n 2, 1) := by decide +kernel
theorem dX6_fetch_59 : decode cX6_fetch 59 = .ok (.aload_n 0, 1) := by decide +kernel
theorem dX6_fetch_60 : decode cX6_fetch 60 = .ok (.getfield 11, 3) := by decide +kernel
theorem dX6_fetch_63 : decode cX6_fetch 63 = .ok (.iload_n 3, 1) := by decide +kernel
theorem dX6_fetch_64 : decode cX6_fetch 64 = .ok (.bipush 32, 2) := by decide +kernel
theorem dX6_fetch_66 : decode cX6_fetch 66 = .ok (.iadd, 1) := by decide +kernel
theorem dX6_fetch_67 : decode cX6_fetch 67 = .ok (.iconst 1, 1) := by decide +kernel
theorem dX6_fetch_68 : decode cX6_fetch 68 = .ok (.iadd, 1) := by decide +kernel
theorem dX6_fetch_69 : decode cX6_fetch 69 = .ok (.iaload, 1) := by decide +kernel
theorem dX6_fetch_70 : decode cX6_fetch 70 = .ok (.putfield 29, 3) := by decide +kernel
theorem dX6_fetch_73 : decode cX6_fetch 73 = .ok (.return_, 1) := by decide +kernel
set_option maxRecDepth 20000 in
theorem ggX7_count_X2_endCount : GoodIn wsX7_count wsX2_endCount := goodIn_r _ [5, 6, 26, 27, 28] (by decide +kernel) (by decide +kernel)
set_option maxRecDepth 20000 in
theorem gX7_count_X2_endCount : GoodIn wsX7_count (wsV RX7 9 RX2 yX2_endCount wsX2_endCount) := goodIn_app (goodIn_of _ (by decide +kernel)) ggX7_count_X2_endCount
set_option maxRecDepth 20000 in
theorem ggX7_count_X9_contains : GoodIn wsX7_count wsX9_contains := goodIn_r _ [9] (by decide +kernel) (by decide +kernel)
set_option maxRecDepth 20000 in
theorem gX7_count_X9_contains_n15 : GoodIn wsX7_count (wsX9_contains) := ggX7_count_X9_contains
set_option maxRecDepth 20000 in
theorem ggX7_count_X7_enterFrom : GoodIn wsX7_count wsX7_enterFrom := goodIn_r _ [13, 7, 8, 9, 14, 15, 16, 17, 18, 4, 19, 20, 21, 22, 23, 24, 25, 2, 3, 5, 6, 26, 27, 28] (by decide +kernel) (by decide +kernel)
set_option maxRecDepth 20000 in
theorem gX7_count_X7_enterFrom : GoodIn wsX7_count (va_wsS RX7 19 yX7_enterFrom wsX7_enterFrom) := goodIn_app (goodIn_of _ (by decide +kernel)) ggX7_count_X7_enterFrom
theorem dX7_count_0 : decode cX7_count 0 = .ok (.iconst 0, 1) := by decide +kernel
theorem dX7_count_1 : decode cX7_count 1 = .ok (.istore_n 1, 1) := by decide +kernel
theorem dX7_count_2 : decode cX7_count 2 = .ok (.iconst 0, 1) := by decide +kernel
theorem dX7_count_3 : decode cX7_count 3 = .ok (.istore_n 2, 1) := by decide +kernel
theorem dX7_count_4 : decode cX7_count 4 = .ok (.aload_n 0, 1) := by decide +kernel
theorem dX7_count_5 : decode cX7_count 5 = .ok (.invokevirtual 9, 3) := by decide +kernel
theorem dX7_count_8 : decode cX7_count 8 = .ok (.istore_n 3, 1) := by decide +kernel
theorem dX7_count_9 : decode cX7_count 9 = .ok (.iconst 0, 1) := by decide +kernel
theorem dX7_count_10 : decode cX7_count 10 = .ok (.istore 4, 2) := by decide +kernel
theorem dX7_count_12 : decode cX7_count 12 = .ok (.iload 4, 2) := by decide +kernel
theorem dX7_count_14 : decode cX7_count 14 = .ok (.iload_n 3, 1) := by decide +kernel
theorem dX7_count_15 : decode cX7_count 15 = .ok (.if_icmp .ge 40, 3) := by decide +kernel
theorem dX7_count_18 : decode cX7_count 18 = .ok (.iload_n 1, 1) := by decide +kernel
theorem dX7_count_19 : decode cX7_count 19 = .ok (.iload 4, 2) := by decide +kernel
theorem dX7_count_21 : decode cX7_count 21 = .ok (.invokestatic 15, 3) := by decide +kernel
theorem dX7_count_24 : decode cX7_count 24 = .ok (.ifCond .ne 25, 3) := by decide +kernel
theorem dX7_count_27 : decode cX7_count 27 = .ok (.iload_n 1, 1) := by decide +kernel
theorem dX7_count_28 : decode cX7_count 28 = .ok (.iload 4, 2) := by decide +kernel
theorem dX7_count_30 : decode cX7_count 30 = .ok (.iconst 2, 1) := by decide +kernel
theorem dX7_count_31 : decode cX7_count 31 = .ok (.ixor, 1) := by decide +kernel
theorem dX7_count_32 : decode cX7_count 32 = .ok (.invokestatic 15, 3) := by decide +kernel
theorem dX7_count_35 : decode cX7_count 35 = .ok (.ifCond .ne 14, 3) := by decide +kernel
theorem dX7_count_38 : decode cX7_count 38 = .ok (.aload_n 0, 1) := by decide +kernel
theorem dX7_count_39 : decode cX7_count 39 = .ok (.iload 4, 2) := by decide +kernel
theorem dX7_count_41 : decode cX7_count 41 = .ok (.iload_n 1, 1) := by decide +kernel
theorem dX7_count_42 : decode cX7_count 42 = .ok (.invokestatic 19, 3) := by decide +kernel
theorem dX7_count_45 : decode cX7_count 45 = .ok (.istore_n 1, 1) := by decide +kernel
theorem dX7_count_46 : decode cX7_count 46 = .ok (.iinc 2 1, 3) := by decide +kernel
theorem dX7_count_49 : decode cX7_count 49 = .ok (.iinc 4 1, 3) := by decide +kernel
theorem dX7_count_52 : decode cX7_count 52 = .ok (.goto (-40), 3) := by decide +kernel
theorem dX7_count_55 : decode cX7_count 55 = .ok (.iload_n 2, 1) := by decide +kernel
theorem dX7_count_56 : decode cX7_count 56 = .ok (.ireturn, 1) := by decide +kernel
set_option maxRecDepth 20000 in
theorem ggX7_enteredEnds_X2_firstEnd : GoodIn wsX7_enteredEnds wsX2_firstEnd := goodIn_r _ [5, 6, 7, 8, 4, 9, 10, 11, 12, 13, 14, 15, 29, 30, 31] (by decide +kernel) (by decide +kernel)
set_option maxRecDepth 20000 in
theorem gX7_enteredEnds_X2_firstEnd : GoodIn wsX7_enteredEnds (wsV RX7 25 RX2 yX2_firstEnd wsX2_firstEnd) := goodIn_app (goodIn_of _ (by decide +kernel)) ggX7_enteredEnds_X2_firstEnd
set_option maxRecDepth 20000 in
theorem ggX7_enteredEnds_X2_otherEnd : GoodIn wsX7_enteredEnds wsX2_otherEnd := goodIn_r _ [19, 11, 12, 13, 4, 14, 15, 6, 7, 8, 9, 10, 29, 30, 31] (by decide +kernel) (by decide +kernel)
set_option maxRecDepth 20000 in
theorem gX7_enteredEnds_X2_otherEnd : GoodIn wsX7_enteredEnds (wsV RX7 29 RX2 yX2_otherEnd wsX2_otherEnd) := goodIn_app (goodIn_of _ (by decide +kernel)) ggX7_enteredEnds_X2_otherEnd
set_option maxRecDepth 20000 in
theorem ggX7_enteredEnds_X9_contains : GoodIn wsX7_enteredEnds wsX9_contains := goodIn_r _ [22] (by decide +kernel) (by decide +kernel)
set_option maxRecDepth 20000 in
theorem gX7_enteredEnds_X9_contains_n15 : GoodIn wsX7_enteredEnds (wsX9_contains) := ggX7_enteredEnds_X9_contains
set_option maxRecDepth 20000 in
theorem ggX7_enteredEnds_X7_enterFrom : GoodIn wsX7_enteredEnds wsX7_enterFrom := goodIn_r _ [26, 20, 21, 22, 27, 28, 16, 17, 18, 4, 19, 11, 12, 13, 14, 15, 6, 7, 8, 9, 10, 29, 30, 31] (by decide +kernel) (by decide +kernel)
set_option maxRecDepth 20000 in
theorem gX7_enteredEnds_X7_enterFrom : GoodIn wsX7_enteredEnds (va_wsS RX7 19 yX7_enterFrom wsX7_enterFrom) := goodIn_app (goodIn_of _ (by decide +kernel)) ggX7_enteredEnds_X7_enterFrom
theorem dX7_enteredEnds_0 : decode cX7_enteredEnds 0 = .ok (.iconst 0, 1) := by decide +kernel
theorem dX7_enteredEnds_1 : decode cX7_enteredEnds 1 = .ok (.istore_n 1, 1) := by decide +kernel
theorem dX7_enteredEnds_2 : decode cX7_enteredEnds 2 = .ok (.iconst 1, 1) := by decide +kernel
theorem dX7_enteredEnds_3 : decode cX7_enteredEnds 3 = .ok (.istore_n 2, 1) := by decide +kernel
theorem dX7_enteredEnds_4 : decode cX7_enteredEnds 4 = .ok (.iload_n 2, 1) := by decide +kernel
theorem dX7_enteredEnds_5 : decode cX7_enteredEnds 5 = .ok (.bipush 16, 2) := by decide +kernel
theorem dX7_enteredEnds_7 : decode cX7_enteredEnds 7 = .ok (.if_icmp .gt 54, 3) := by decide +kernel
theorem dX7_enteredEnds_10 : decode cX7_enteredEnds 10 = .ok (.aload_n 0, 1) := by decide +kernel
theorem dX7_enteredEnds_11 : decode cX7_enteredEnds 11 = .ok (.iload_n 2, 1) := by decide +kernel
theorem dX7_enteredEnds_12 : decode cX7_enteredEnds 12 = .ok (.invokevirtual 25, 3) := by decide +kernel
theorem dX7_enteredEnds_15 : decode cX7_enteredEnds 15 = .ok (.istore_n 3, 1) := by decide +kernel
theorem dX7_enteredEnds_16 : decode cX7_enteredEnds 16 = .ok (.iload_n 3, 1) := by decide +kernel
theorem dX7_enteredEnds_17 : decode cX7_enteredEnds 17 = .ok (.ifCond .ge 6, 3) := by decide +kernel
theorem dX7_enteredEnds_20 : decode cX7_enteredEnds 20 = .ok (.goto 35, 3) := by decide +kernel
theorem dX7_enteredEnds_23 : decode cX7_enteredEnds 23 = .ok (.aload_n 0, 1) := by decide +kernel
theorem dX7_enteredEnds_24 : decode cX7_enteredEnds 24 = .ok (.iload_n 3, 1) := by decide +kernel
theorem dX7_enteredEnds_25 : decode cX7_enteredEnds 25 = .ok (.invokevirtual 29, 3) := by decide +kernel
theorem dX7_enteredEnds_28 : decode cX7_enteredEnds 28 = .ok (.istore 4, 2) := by decide +kernel
theorem dX7_enteredEnds_30 : decode cX7_enteredEnds 30 = .ok (.iload_n 1, 1) := by decide +kernel
theorem dX7_enteredEnds_31 : decode cX7_enteredEnds 31 = .ok (.iload_n 3, 1) := by decide +kernel
theorem dX7_enteredEnds_32 : decode cX7_enteredEnds 32 = .ok (.invokestatic 15, 3) := by decide +kernel
theorem dX7_enteredEnds_35 : decode cX7_enteredEnds 35 = .ok (.ifCond .ne 20, 3) := by decide +kernel
theorem dX7_enteredEnds_38 : decode cX7_enteredEnds 38 = .ok (.iload_n 1, 1) := by decide +kernel
theorem dX7_enteredEnds_39 : decode cX7_enteredEnds 39 = .ok (.iload 4, 2) := by decide +kernel
theorem dX7_enteredEnds_41 : decode cX7_enteredEnds 41 = .ok (.invokestatic 15, 3) := by decide +kernel
theorem dX7_enteredEnds_44 : decode cX7_enteredEnds 44 = .ok (.ifCond .ne 11, 3) := by decide +kernel
theorem dX7_enteredEnds_47 : decode cX7_enteredEnds 47 = .ok (.aload_n 0, 1) := by decide +kernel
theorem dX7_enteredEnds_48 : decode cX7_enteredEnds 48 = .ok (.iload 4, 2) := by decide +kernel
theorem dX7_enteredEnds_50 : decode cX7_enteredEnds 50 = .ok (.iload_n 1, 1) := by decide +kernel
theorem dX7_enteredEnds_51 : decode cX7_enteredEnds 51 = .ok (.invokestatic 19, 3) := by decide +kernel
theorem dX7_enteredEnds_54 : decode cX7_enteredEnds 54 = .ok (.istore_n 1, 1) := by decide +kernel
theorem dX7_enteredEnds_55 : decode cX7_enteredEnds 55 = .ok (.iinc 2 1, 3) := by decide +kernel
theorem dX7_enteredEnds_58 : decode cX7_enteredEnds 58 = .ok (.goto (-54), 3) := by decide +kernel
theorem dX7_enteredEnds_61 : decode cX7_enteredEnds 61 = .ok (.iload_n 1, 1) := by decide +kernel
theorem dX7_enteredEnds_62 : decode cX7_enteredEnds 62 = .ok (.ireturn, 1) := by decide +kernel
set_option maxRecDepth 20000 in
theorem ggX7_enterFrom_X9_contains : GoodIn wsX7_enterFrom wsX9_contains := goodIn_r _ [3] (by decide +kernel) (by decide +kernel)
set_option maxRecDepth 20000 in
theorem gX7_enterFrom_X9_contains_n15 : GoodIn wsX7_enterFrom (wsX9_contains) := ggX7_enterFrom_X9_contains
set_option maxRecDepth 20000 in
theorem ggX7_enterFrom_X9_bit : GoodIn wsX7_enterFrom wsX9_bit := goodIn_r _ [5] (by decide +kernel) (by decide +kernel)
set_option maxRecDepth 20000 in
theorem gX7_enterFrom_X9_bit_n32 : GoodIn wsX7_enterFrom (wsX9_bit) := ggX7_enterFrom_X9_bit
set_option maxRecDepth 20000 in
theorem ggX7_enterFrom_X2_otherEnd : GoodIn wsX7_enterFrom wsX2_otherEnd := goodIn_r _ [10, 11, 12, 13, 9, 14, 15, 16, 17, 18, 19, 20, 21, 22, 23] (by decide +kernel) (by decide +kernel)
set_option maxRecDepth 20000 in
theorem gX7_enterFrom_X2_otherEnd : GoodIn wsX7_enterFrom (wsV RX7 29 RX2 yX2_otherEnd wsX2_otherEnd) := goodIn_app (goodIn_of _ (by decide +kernel)) ggX7_enterFrom_X2_otherEnd
theorem dX7_enterFrom_0 : decode cX7_enterFrom 0 = .ok (.iload_n 2, 1) := by decide +kernel
theorem dX7_enterFrom_1 : decode cX7_enterFrom 1 = .ok (.istore_n 3, 1) := by decide +kernel
theorem dX7_enterFrom_2 : decode cX7_enterFrom 2 = .ok (.iload_n 1, 1) := by decide +kernel
theorem dX7_enterFrom_3 : decode cX7_enterFrom 3 = .ok (.istore 4, 2) := by decide +kernel
theorem dX7_enterFrom_5 : decode cX7_enterFrom 5 = .ok (.iconst 0, 1) := by decide +kernel
theorem dX7_enterFrom_6 : decode cX7_enterFrom 6 = .ok (.istore 5, 2) := by decide +kernel
theorem dX7_enterFrom_8 : decode cX7_enterFrom 8 = .ok (.iload 5, 2) := by decide +kernel
theorem dX7_enterFrom_10 : decode cX7_enterFrom 10 = .ok (.bipush 16, 2) := by decide +kernel
theorem dX7_enterFrom_12 : decode cX7_enterFrom 12 = .ok (.if_icmp .ge 36, 3) := by decide +kernel
theorem dX7_enterFrom_15 : decode cX7_enterFrom 15 = .ok (.iload_n 3, 1) := by decide +kernel
theorem dX7_enterFrom_16 : decode cX7_enterFrom 16 = .ok (.iload 4, 2) := by decide +kernel
theorem dX7_enterFrom_18 : decode cX7_enterFrom 18 = .ok (.invokestatic 15, 3) := by decide +kernel
theorem dX7_enterFrom_21 : decode cX7_enterFrom 21 = .ok (.ifCond .ne 27, 3) := by decide +kernel
theorem dX7_enterFrom_24 : decode cX7_enterFrom 24 = .ok (.iload_n 3, 1) := by decide +kernel
theorem dX7_enterFrom_25 : decode cX7_enterFrom 25 = .ok (.iload 4, 2) := by decide +kernel
theorem dX7_enterFrom_27 : decode cX7_enterFrom 27 = .ok (.invokestatic 32, 3) := by decide +kernel
theorem dX7_enterFrom_30 : decode cX7_enterFrom 30 = .ok (.ior, 1) := by decide +kernel
theorem dX7_enterFrom_31 : decode cX7_enterFrom 31 = .ok (.istore_n 3, 1) := by decide +kernel
theorem dX7_enterFrom_32 : decode cX7_enterFrom 32 = .ok (.aload_n 0, 1) := by decide +kernel
theorem dX7_enterFrom_33 : decode cX7_enterFrom 33 = .ok (.iload 4, 2) := by decide +kernel
theorem dX7_enterFrom_35 : decode cX7_enterFrom 35 = .ok (.iconst 2, 1) := by decide +kernel
theorem dX7_enterFrom_36 : decode cX7_enterFrom 36 = .ok (.ixor, 1) := by decide +kernel
theorem dX7_enterFrom_37 : decode cX7_enterFrom 37 = .ok (.invokevirtual 29, 3) := by decide +kernel
theorem dX7_enterFrom_40 : decode cX7_enterFrom 40 = .ok (.istore 4, 2) := by decide +kernel
theorem dX7_enterFrom_42 : decode cX7_enterFrom 42 = .ok (.iinc 5 1, 3) := by decide +kernel
theorem dX7_enterFrom_45 : decode cX7_enterFrom 45 = .ok (.goto (-37), 3) := by decide +kernel
theorem dX7_enterFrom_48 : decode cX7_enterFrom 48 = .ok (.iload_n 3, 1) := by decide +kernel
theorem dX7_enterFrom_49 : decode cX7_enterFrom 49 = .ok (.ireturn, 1) := by decide +kernel
set_option maxRecDepth 20000 in
theorem ggX7_sign_X9_contains : GoodIn wsX7_sign wsX9_contains := goodIn_r _ [3] (by decide +kernel) (by decide +kernel)
set_option maxRecDepth 20000 in
theorem gX7_sign_X9_contains_n15 : GoodIn wsX7_sign (wsX9_contains) := ggX7_sign_X9_contains
theorem dX7_sign_0 : decode cX7_sign 0 = .ok (.iload_n 1, 1) := by decide +kernel
theorem dX7_sign_1 : decode cX7_sign 1 = .ok (.iconst 4, 1) := by decide +kernel
theorem dX7_sign_2 : decode cX7_sign 2 = .ok (.iload_n 0, 1) := by decide +kernel
theorem dX7_sign_3 : decode cX7_sign 3 = .ok (.imul, 1) := by decide +kernel
theorem dX7_sign_4 : decode cX7_sign 4 = .ok (.invokestatic 15, 3) := by decide +kernel
theorem dX7_sign_7 : decode cX7_sign 7 = .ok (.istore_n 2, 1) := by decide +kernel
theorem dX7_sign_8 : decode cX7_sign 8 = .ok (.iload_n 1, 1) := by decide +kernel
theorem dX7_sign_9 : decode cX7_sign 9 = .ok (.iconst 4, 1) := by decide +kernel
theorem dX7_sign_10 : decode cX7_sign 10 = .ok (.iload_n 0, 1) := by decide +kernel
theorem dX7_sign_11 : decode cX7_sign 11 = .ok (.imul, 1) := by decide +kernel
theorem dX7_sign_12 : decode cX7_sign 12 = .ok (.iconst 3, 1) := by decide +kernel
theorem dX7_sign_13 : decode cX7_sign 13 = .ok (.iadd, 1) := by decide +kernel
theorem dX7_sign_14 : decode cX7_sign 14 = .ok (.invokestatic 15, 3) := by decide +kernel
theorem dX7_sign_17 : decode cX7_sign 17 = .ok (.istore_n 3, 1) := by decide +kernel
theorem dX7_sign_18 : decode cX7_sign 18 = .ok (.iload_n 2, 1) := by decide +kernel
theorem dX7_sign_19 : decode cX7_sign 19 = .ok (.iload_n 3, 1) := by decide +kernel
theorem dX7_sign_20 : decode cX7_sign 20 = .ok (.if_icmp .ne 7, 3) := by decide +kernel
theorem dX7_sign_23 : decode cX7_sign 23 = .ok (.iconst 1, 1) := by decide +kernel
theorem dX7_sign_24 : decode cX7_sign 24 = .ok (.goto 4, 3) := by decide +kernel
theorem dX7_sign_27 : decode cX7_sign 27 = .ok (.iconst (-1), 1) := by decide +kernel
theorem dX7_sign_28 : decode cX7_sign 28 = .ok (.ireturn, 1) := by decide +kernel
set_option maxRecDepth 20000 in
theorem ggX7_signSum_X7_enteredEnds : GoodIn wsX7_signSum wsX7_enteredEnds := goodIn_r _ [5, 6, 7, 8, 9, 10, 11, 12, 13, 14, 15, 16, 17, 18, 19, 20, 21, 22, 23, 24, 25, 26, 27, 28, 29, 4, 30, 31, 32, 36, 37, 38] (by decide +kernel) (by decide +kernel)
set_option maxRecDepth 20000 in
theorem gX7_signSum_X7_enteredEnds : GoodIn wsX7_signSum (va_wsS RX7 35 yX7_enteredEnds wsX7_enteredEnds) := goodIn_app (goodIn_of _ (by decide +kernel)) ggX7_signSum_X7_enteredEnds
set_option maxRecDepth 20000 in
theorem ggX7_signSum_X7_sign : GoodIn wsX7_signSum wsX7_sign := goodIn_r _ [35, 25, 26, 27] (by decide +kernel) (by decide +kernel)
set_option maxRecDepth 20000 in
theorem gX7_signSum_X7_sign : GoodIn wsX7_signSum (va_wsS RX7 43 yX7_sign wsX7_sign) := goodIn_app (goodIn_of _ (by decide +kernel)) ggX7_signSum_X7_sign
theorem dX7_signSum_0 : decode cX7_signSum 0 = .ok (.aload_n 0, 1) := by decide +kernel
theorem dX7_signSum_1 : decode cX7_signSum 1 = .ok (.invokestatic 35, 3) := by decide +kernel
theorem dX7_signSum_4 : decode cX7_signSum 4 = .ok (.istore_n 1, 1) := by decide +kernel
theorem dX7_signSum_5 : decode cX7_signSum 5 = .ok (.iconst 0, 1) := by decide +kernel
theorem dX7_signSum_6 : decode cX7_signSum 6 = .ok (.istore_n 2, 1) := by decide +kernel
theorem dX7_signSum_7 : decode cX7_signSum 7 = .ok (.aload_n 0, 1) := by decide +kernel
theorem dX7_signSum_8 : decode cX7_signSum 8 = .ok (.getfield 39, 3) := by decide +kernel
theorem dX7_signSum_11 : decode cX7_signSum 11 = .ok (.istore_n 3, 1) := by decide +kernel
theorem dX7_signSum_12 : decode cX7_signSum 12 = .ok (.iconst 0, 1) := by decide +kernel
theorem dX7_signSum_13 : decode cX7_signSum 13 = .ok (.istore 4, 2) := by decide +kernel
theorem dX7_signSum_15 : decode cX7_signSum 15 = .ok (.iload 4, 2) := by decide +kernel
theorem dX7_signSum_17 : decode cX7_signSum 17 = .ok (.iload_n 3, 1) := by decide +kernel
theorem dX7_signSum_18 : decode cX7_signSum 18 = .ok (.if_icmp .ge 18, 3) := by decide +kernel
theorem dX7_signSum_21 : decode cX7_signSum 21 = .ok (.iload_n 2, 1) := by decide +kernel
theorem dX7_signSum_22 : decode cX7_signSum 22 = .ok (.iload 4, 2) := by decide +kernel
theorem dX7_signSum_24 : decode cX7_signSum 24 = .ok (.iload_n 1, 1) := by decide +kernel
theorem dX7_signSum_25 : decode cX7_signSum 25 = .ok (.invokestatic 43, 3) := by decide +kernel
theorem dX7_signSum_28 : decode cX7_signSum 28 = .ok (.iadd, 1) := by decide +kernel
theorem dX7_signSum_29 : decode cX7_signSum 29 = .ok (.istore_n 2, 1) := by decide +kernel
theorem dX7_signSum_30 : decode cX7_signSum 30 = .ok (.iinc 4 1, 3) := by decide +kernel
theorem dX7_signSum_33 : decode cX7_signSum 33 = .ok (.goto (-18), 3) := by decide +kernel
theorem dX7_signSum_36 : decode cX7_signSum 36 = .ok (.iload_n 2, 1) := by decide +kernel
theorem dX7_signSum_37 : decode cX7_signSum 37 = .ok (.ireturn, 1) := by decide +kernel
theorem dX8_init_0 : decode cX8_init 0 = .ok (.aload_n 0, 1) := by decide +kernel
theorem dX8_init_1 : decode cX8_init 1 = .ok (.invokespecial 3, 3) := by decide +kernel
theorem dX8_init_4 : decode cX8_init 4 = .ok (.aload_n 0, 1) := by decide +kernel
theorem dX8_init_5 : decode cX8_init 5 = .ok (.sipush 160, 3) := by decide +kernel
theorem dX8_init_8 : decode cX8_init 8 = .ok (.newarray .int, 2) := by decide +kernel
theorem dX8_init_10 : decode cX8_init 10 = .ok (.putfield 9, 3) := by decide +kernel
theorem dX8_init_13 : decode cX8_init 13 = .ok (.return_, 1) := by decide +kernel
theorem dX8_add_0 : decode cX8_add 0 = .ok (.aload_n 0, 1) := by decide +kernel
theorem dX8_add_1 : decode cX8_add 1 = .ok (.getfield 15, 3) := by decide +kernel
theorem dX8_add_4 : decode cX8_add 4 = .ok (.ifCond .lt 33, 3) := by decide +kernel
theorem dX8_add_7 : decode cX8_add 7 = .ok (.aload_n 0, 1) := by decide +kernel
theorem dX8_add_8 : decode cX8_add 8 = .ok (.getfield 15, 3) := by decide +kernel
theorem dX8_add_11 : decode cX8_add 11 = .ok (.sipush 160, 3) := by decide +kernel
theorem dX8_add_14 : decode cX8_add 14 = .ok (.if_icmp .ge 23, 3) := by decide +kernel
theorem dX8_add_17 : decode cX8_add 17 = .ok (.aload_n 0, 1) := by decide +kernel
theorem dX8_add_18 : decode cX8_add 18 = .ok (.getfield 9, 3) := by decide +kernel
theorem dX8_add_21 : decode cX8_add 21 = .ok (.aload_n 0, 1) := by decide +kernel
theorem dX8_add_22 : decode cX8_add 22 = .ok (.getfield 15, 3) := by decide +kernel
theorem dX8_add_25 : decode cX8_add 25 = .ok (.iload_n 1, 1) := by decide +kernel
theorem dX8_add_26 : decode cX8_add 26 = .ok (.iastore, 1) := by decide +kernel
theorem dX8_add_27 : decode cX8_add 27 = .ok (.aload_n 0, 1) := by decide +kernel
theorem dX8_add_28 : decode cX8_add 28 = .ok (.dup, 1) := by decide +kernel
theorem dX8_add_29 : decode cX8_add 29 = .ok (.getfield 15, 3) := by decide +kernel
theorem dX8_add_32 : decode cX8_add 32 = .ok (.iconst 1, 1) := by decide +kernel
theorem dX8_add_33 : decode cX8_add 33 = .ok (.iadd, 1) := by decide +kernel
theorem dX8_add_34 : decode cX8_add 34 = .ok (.putfield 15, 3) := by decide +kernel
theorem dX8_add_37 : decode cX8_add 37 = .ok (.return_, 1) := by decide +kernel
theorem dX8_character_0 : decode cX8_character 0 = .ok (.iload_n 1, 1) := by decide +kernel
theorem dX8_character_1 : decode cX8_character 1 = .ok (.ifCond .lt 27, 3) := by decide +kernel
theorem dX8_character_4 : decode cX8_character 4 = .ok (.iload_n 1, 1) := by decide +kernel
theorem dX8_character_5 : decode cX8_character 5 = .ok (.aload_n 0, 1) := by decide +kernel
theorem dX8_character_6 : decode cX8_character 6 = .ok (.getfield 15, 3) := by decide +kernel
theorem dX8_character_9 : decode cX8_character 9 = .ok (.if_icmp .ge 19, 3) := by decide +kernel
theorem dX8_character_12 : decode cX8_character 12 = .ok (.iload_n 1, 1) := by decide +kernel
theorem dX8_character_13 : decode cX8_character 13 = .ok (.sipush 160, 3) := by decide +kernel
theorem dX8_character_16 : decode cX8_character 16 = .ok (.if_icmp .ge 12, 3) := by decide +kernel
theorem dX8_character_19 : decode cX8_character 19 = .ok (.aload_n 0, 1) := by decide +kernel
theorem dX8_character_20 : decode cX8_character 20 = .ok (.getfield 9, 3) := by decide +kernel
theorem dX8_character_23 : decode cX8_character 23 = .ok (.iload_n 1, 1) := by decide +kernel
theorem dX8_character_24 : decode cX8_character 24 = .ok (.iaload, 1) := by decide +kernel
theorem dX8_character_25 : decode cX8_character 25 = .ok (.goto 4, 3) := by decide +kernel
theorem dX8_character_28 : decode cX8_character 28 = .ok (.iconst (-1), 1) := by decide +kernel
theorem dX8_character_29 : decode cX8_character 29 = .ok (.ireturn, 1) := by decide +kernel
set_option maxRecDepth 20000 in
theorem ggX8_isDigit_X8_character : GoodIn wsX8_isDigit wsX8_character := goodIn_r _ [5, 6, 7, 8, 9] (by decide +kernel) (by decide +kernel)
set_option maxRecDepth 20000 in
theorem gX8_isDigit_X8_character : GoodIn wsX8_isDigit (wsV RX8 19 RX8 yX8_character wsX8_character) := goodIn_app (goodIn_of _ (by decide +kernel)) ggX8_isDigit_X8_character
theorem dX8_isDigit_0 : decode cX8_isDigit 0 = .ok (.aload_n 0, 1) := by decide +kernel
theorem dX8_isDigit_1 : decode cX8_isDigit 1 = .ok (.iload_n 1, 1) := by decide +kernel
theorem dX8_isDigit_2 : decode cX8_isDigit 2 = .ok (.invokevirtual 19, 3) := by decide +kernel
theorem dX8_isDigit_5 : decode cX8_isDigit 5 = .ok (.istore_n 2, 1) := by decide +kernel
theorem dX8_isDigit_6 : decode cX8_isDigit 6 = .ok (.iload_n 2, 1) := by decide +kernel
theorem dX8_isDigit_7 : decode cX8_isDigit 7 = .ok (.bipush 48, 2) := by decide +kernel
theorem dX8_isDigit_9 : decode cX8_isDigit 9 = .ok (.if_icmp .lt 13, 3) := by decide +kernel
theorem dX8_isDigit_12 : decode cX8_isDigit 12 = .ok (.iload_n 2, 1) := by decide +kernel
theorem dX8_isDigit_13 : decode cX8_isDigit 13 = .ok (.bipush 57, 2) := by decide +kernel
theorem dX8_isDigit_15 : decode cX8_isDigit 15 = .ok (.if_icmp .gt 7, 3) := by decide +kernel
theorem dX8_isDigit_18 : decode cX8_isDigit 18 = .ok (.iconst 1, 1) := by decide +kernel
theorem dX8_isDigit_19 : decode cX8_isDigit 19 = .ok (.goto 4, 3) := by decide +kernel
theorem dX8_isDigit_22 : decode cX8_isDigit 22 = .ok (.iconst 0, 1) := by decide +kernel
theorem dX8_isDigit_23 : decode cX8_isDigit 23 = .ok (.ireturn, 1) := by decide +kernel
set_option maxRecDepth 20000 in
theorem ggX8_startsToken_X8_isDigit : GoodIn wsX8_startsToken wsX8_isDigit := goodIn_r _ [5, 6, 7, 8, 4, 9, 10, 11, 12, 13] (by decide +kernel) (by decide +kernel)
set_option maxRecDepth 20000 in
theorem gX8_startsToken_X8_isDigit : GoodIn wsX8_startsToken (wsV RX8 23 RX8 yX8_isDigit wsX8_isDigit) := goodIn_app (goodIn_of _ (by decide +kernel)) ggX8_startsToken_X8_isDigit
set_option maxRecDepth 20000 in
theorem ggX8_startsToken_X8_character : GoodIn wsX8_startsToken wsX8_character := goodIn_r _ [9, 10, 11, 12, 13] (by decide +kernel) (by decide +kernel)
set_option maxRecDepth 20000 in
theorem gX8_startsToken_X8_character : GoodIn wsX8_startsToken (wsV RX8 19 RX8 yX8_character wsX8_character) := goodIn_app (goodIn_of _ (by decide +kernel)) ggX8_startsToken_X8_character
theorem dX8_startsToken_0 : decode cX8_startsToken 0 = .ok (.aload_n 0, 1) := by decide +kernel
theorem dX8_startsToken_1 : decode cX8_startsToken 1 = .ok (.iload_n 1, 1) := by decide +kernel
theorem dX8_startsToken_2 : decode cX8_startsToken 2 = .ok (.invokevirtual 23, 3) := by decide +kernel
theorem dX8_startsToken_5 : decode cX8_startsToken 5 = .ok (.ifCond .eq 19, 3) := by decide +kernel
theorem dX8_startsToken_8 : decode cX8_startsToken 8 = .ok (.aload_n 0, 1) := by decide +kernel
theorem dX8_startsToken_9 : decode cX8_startsToken 9 = .ok (.iload_n 1, 1) := by decide +kernel
theorem dX8_startsToken_10 : decode cX8_startsToken 10 = .ok (.iconst 1, 1) := by decide +kernel
theorem dX8_startsToken_11 : decode cX8_startsToken 11 = .ok (.isub, 1) := by decide +kernel
theorem dX8_startsToken_12 : decode cX8_startsToken 12 = .ok (.invokevirtual 23, 3) := by decide +kernel
theorem dX8_startsToken_15 : decode cX8_startsToken 15 = .ok (.ifCond .ne 7, 3) := by decide +kernel
theorem dX8_startsToken_18 : decode cX8_startsToken 18 = .ok (.iconst 1, 1) := by decide +kernel
theorem dX8_startsToken_19 : decode cX8_startsToken 19 = .ok (.goto 4, 3) := by decide +kernel
theorem dX8_startsToken_22 : decode cX8_startsToken 22 = .ok (.iconst 0, 1) := by decide +kernel
theorem dX8_startsToken_23 : decode cX8_startsToken 23 = .ok (.ireturn, 1) := by decide +kernel
theorem dX8_startsToken_24 : decode cX8_startsToken 24 = .ok (.aload_n 0, 1) := by decide +kernel
theorem dX8_startsToken_25 : decode cX8_startsToken 25 = .ok (.iload_n 1, 1) := by decide +kernel
theorem dX8_startsToken_26 : decode cX8_startsToken 26 = .ok (.invokevirtual 19, 3) := by decide +kernel
theorem dX8_startsToken_29 : decode cX8_startsToken 29 = .ok (.bipush 32, 2) := by decide +kernel
theorem dX8_startsToken_31 : decode cX8_startsToken 31 = .ok (.if_icmp .eq 7, 3) := by decide +kernel
theorem dX8_startsToken_34 : decode cX8_startsToken 34 = .ok (.iconst 1, 1) := by decide +kernel
theorem dX8_startsToken_35 : decode cX8_startsToken 35 = .ok (.goto 4, 3) := by decide +kernel
theorem dX8_startsToken_38 : decode cX8_startsToken 38 = .ok (.iconst 0, 1) := by decide +kernel
theorem dX8_startsToken_39 : decode cX8_startsToken 39 = .ok (.ireturn, 1) := by decide +kernel
set_option maxRecDepth 20000 in
theorem ggX8_arcFrom_X8_character : GoodIn wsX8_arcFrom wsX8_character := goodIn_r _ [5, 6, 7, 12, 13] (by decide +kernel) (by decide +kernel)
set_option maxRecDepth 20000 in
theorem gX8_arcFrom_X8_character : GoodIn wsX8_arcFrom (wsV RX8 19 RX8 yX8_character wsX8_character) := goodIn_app (goodIn_of _ (by decide +kernel)) ggX8_arcFrom_X8_character
set_option maxRecDepth 20000 in
theorem ggX8_arcFrom_X8_isDigit : GoodIn wsX8_arcFrom wsX8_isDigit := goodIn_r _ [11, 1, 2, 3, 4, 5, 6, 7, 12, 13] (by decide +kernel) (by decide +kernel)
set_option maxRecDepth 20000 in
theorem gX8_arcFrom_X8_isDigit : GoodIn wsX8_arcFrom (wsV RX8 23 RX8 yX8_isDigit wsX8_isDigit) := goodIn_app (goodIn_of _ (by decide +kernel)) ggX8_arcFrom_X8_isDigit
theorem dX8_arcFrom_0 : decode cX8_arcFrom 0 = .ok (.aload_n 0, 1) := by decide +kernel
theorem dX8_arcFrom_1 : decode cX8_arcFrom 1 = .ok (.iload_n 1, 1) := by decide +kernel
theorem dX8_arcFrom_2 : decode cX8_arcFrom 2 = .ok (.invokevirtual 19, 3) := by decide +kernel
theorem dX8_arcFrom_5 : decode cX8_arcFrom 5 = .ok (.bipush 48, 2) := by decide +kernel
theorem dX8_arcFrom_7 : decode cX8_arcFrom 7 = .ok (.isub, 1) := by decide +kernel
theorem dX8_arcFrom_8 : decode cX8_arcFrom 8 = .ok (.istore_n 2, 1) := by decide +kernel
theorem dX8_arcFrom_9 : decode cX8_arcFrom 9 = .ok (.aload_n 0, 1) := by decide +kernel
theorem dX8_arcFrom_10 : decode cX8_arcFrom 10 = .ok (.iload_n 1, 1) := by decide +kernel
theorem dX8_arcFrom_11 : decode cX8_arcFrom 11 = .ok (.invokevirtual 23, 3) := by decide +kernel
theorem dX8_arcFrom_14 : decode cX8_arcFrom 14 = .ok (.ifCond .eq 7, 3) := by decide +kernel
theorem dX8_arcFrom_17 : decode cX8_arcFrom 17 = .ok (.iload_n 2, 1) := by decide +kernel
theorem dX8_arcFrom_18 : decode cX8_arcFrom 18 = .ok (.ifCond .ne 5, 3) := by decide +kernel
theorem dX8_arcFrom_21 : decode cX8_arcFrom 21 = .ok (.iconst 0, 1) := by decide +kernel
theorem dX8_arcFrom_22 : decode cX8_arcFrom 22 = .ok (.ireturn, 1) := by decide +kernel
theorem dX8_arcFrom_23 : decode cX8_arcFrom 23 = .ok (.aload_n 0, 1) := by decide +kernel
theorem dX8_arcFrom_24 : decode cX8_arcFrom 24 = .ok (.iload_n 1, 1) := by decide +kernel
theorem dX8_arcFrom_25 : decode cX8_arcFrom 25 = .ok (.iconst 1, 1) := by decide +kernel
theorem dX8_arcFrom_26 : decode cX8_arcFrom 26 = .ok (.iadd, 1) := by decide +kernel
theorem dX8_arcFrom_27 : decode cX8_arcFrom 27 = .ok (.invokevirtual 23, 3) := by decide +kernel
theorem dX8_arcFrom_30 : decode cX8_arcFrom 30 = .ok (.ifCond .ne 5, 3) := by decide +kernel
theorem dX8_arcFrom_33 : decode cX8_arcFrom 33 = .ok (.iload_n 2, 1) := by decide +kernel
theorem dX8_arcFrom_34 : decode cX8_arcFrom 34 = .ok (.ireturn, 1) := by decide +kernel
theorem dX8_arcFrom_35 : decode cX8_arcFrom 35 = .ok (.bipush 10, 2) := by decide +kernel
theorem dX8_arcFrom_37 : decode cX8_arcFrom 37 = .ok (.iload_n 2, 1) := by decide +kernel
theorem dX8_arcFrom_38 : decode cX8_arcFrom 38 = .ok (.imul, 1) := by decide +kernel
theorem dX8_arcFrom_39 : decode cX8_arcFrom 39 = .ok (.aload_n 0, 1) := by decide +kernel
theorem dX8_arcFrom_40 : decode cX8_arcFrom 40 = .ok (.iload_n 1, 1) := by decide +kernel
theorem dX8_arcFrom_41 : decode cX8_arcFrom 41 = .ok (.iconst 1, 1) := by decide +kernel
theorem dX8_arcFrom_42 : decode cX8_arcFrom 42 = .ok (.iadd, 1) := by decide +kernel
theorem dX8_arcFrom_43 : decode cX8_arcFrom 43 = .ok (.invokevirtual 19, 3) := by decide +kernel
theorem dX8_arcFrom_46 : decode cX8_arcFrom 46 = .ok (.iadd, 1) := by decide +kernel
theorem dX8_arcFrom_47 : decode cX8_arcFrom 47 = .ok (.bipush 48, 2) := by decide +kernel
theorem dX8_arcFrom_49 : decode cX8_arcFrom 49 = .ok (.isub, 1) := by decide +kernel
theorem dX8_arcFrom_50 : decode cX8_arcFrom 50 = .ok (.istore_n 3, 1) := by decide +kernel
theorem dX8_arcFrom_51 : decode cX8_arcFrom 51 = .ok (.aload_n 0, 1) := by decide +kernel
theorem dX8_arcFrom_52 : decode cX8_arcFrom 52 = .ok (.iload_n 1, 1) := by decide +kernel
theorem dX8_arcFrom_53 : decode cX8_arcFrom 53 = .ok (.iconst 2, 1) := by decide +kernel
theorem dX8_arcFrom_54 : decode cX8_arcFrom 54 = .ok (.iadd, 1) := by decide +kernel
theorem dX8_arcFrom_55 : decode cX8_arcFrom 55 = .ok (.invokevirtual 23, 3) := by decide +kernel
theorem dX8_arcFrom_58 : decode cX8_arcFrom 58 = .ok (.ifCond .ne 9, 3) := by decide +kernel
theorem dX8_arcFrom_61 : decode cX8_arcFrom 61 = .ok (.iload_n 3, 1) := by decide +kernel
theorem dX8_arcFrom_62 : decode cX8_arcFrom 62 = .ok (.bipush 16, 2) := by decide +kernel
theorem dX8_arcFrom_64 : decode cX8_arcFrom 64 = .ok (.if_icmp .le 7, 3) := by decide +kernel
theorem dX8_arcFrom_67 : decode cX8_arcFrom 67 = .ok (.iconst 0, 1) := by decide +kernel
theorem dX8_arcFrom_68 : decode cX8_arcFrom 68 = .ok (.goto 4, 3) := by decide +kernel
theorem dX8_arcFrom_71 : decode cX8_arcFrom 71 = .ok (.iload_n 3, 1) := by decide +kernel
theorem dX8_arcFrom_72 : decode cX8_arcFrom 72 = .ok (.ireturn, 1) := by decide +kernel
set_option maxRecDepth 20000 in
theorem ggX9_init_X8_init : GoodIn wsX9_init wsX8_init := goodIn_r _ [31, 32, 2, 3, 33, 34, 60, 61] (by decide +kernel) (by decide +kernel)
set_option maxRecDepth 20000 in
theorem gX9_init_X8_init_n11 : GoodIn wsX9_init (wsX8_init) := ggX9_init_X8_init
set_option maxRecDepth 20000 in
theorem ggX9_init_X4_init : GoodIn wsX9_init wsX4_init := goodIn_r _ [36, 37, 2, 3] (by decide +kernel) (by decide +kernel)
set_option maxRecDepth 20000 in
theorem gX9_init_X4_init_n18 : GoodIn wsX9_init (wsX4_init) := ggX9_init_X4_init
set_option maxRecDepth 20000 in
theorem ggX9_init_X2_init : GoodIn wsX9_init wsX2_init := goodIn_r _ [39, 40, 2, 3, 33, 41, 73, 74, 75] (by decide +kernel) (by decide +kernel)
set_option maxRecDepth 20000 in
theorem gX9_init_X2_init_n25 : GoodIn wsX9_init (wsX2_init) := ggX9_init_X2_init
set_option maxRecDepth 20000 in
theorem ggX9_init_X6_init : GoodIn wsX9_init wsX6_init := goodIn_r _ [43, 44, 2, 3, 33, 45, 46, 47, 76, 77] (by decide +kernel) (by decide +kernel)
set_option maxRecDepth 20000 in
theorem gX9_init_X6_init_n35 : GoodIn wsX9_init (wsX6_init) := ggX9_init_X6_init
set_option maxRecDepth 20000 in
theorem ggX9_init_X0_init : GoodIn wsX9_init wsX0_init := goodIn_r _ [49, 50, 2, 3, 33, 51, 52, 53, 54, 78, 79, 80, 81, 82] (by decide +kernel) (by decide +kernel)
set_option maxRecDepth 20000 in
theorem gX9_init_X0_init_n42 : GoodIn wsX9_init (wsX0_init) := ggX9_init_X0_init
set_option maxRecDepth 20000 in
theorem ggX9_init_X1_init : GoodIn wsX9_init wsX1_init := goodIn_r _ [56, 57, 2, 3, 33, 58, 59, 83, 84] (by decide +kernel) (by decide +kernel)
set_option maxRecDepth 20000 in
theorem gX9_init_X1_init_n49 : GoodIn wsX9_init (wsX1_init) := ggX9_init_X1_init
theorem dX9_init_0 : decode cX9_init 0 = .ok (.aload_n 0, 1) := by decide +kernel
theorem dX9_init_1 : decode cX9_init 1 = .ok (.invokespecial 3, 3) := by decide +kernel
theorem dX9_init_4 : decode cX9_init 4 = .ok (.aload_n 0, 1) := by decide +kernel
theorem dX9_init_5 : decode cX9_init 5 = .ok (.new 9, 3) := by decide +kernel
theorem dX9_init_8 : decode cX9_init 8 = .ok (.dup, 1) := by decide +kernel
theorem dX9_init_9 : decode cX9_init 9 = .ok (.invokespecial 11, 3) := by decide +kernel
theorem dX9_init_12 : decode cX9_init 12 = .ok (.putfield 12, 3) := by decide +kernel
theorem dX9_init_15 : decode cX9_init 15 = .ok (.aload_n 0, 1) := by decide +kernel
theorem dX9_init_16 : decode cX9_init 16 = .ok (.new 16, 3) := by decide +kernel
theorem dX9_init_19 : decode cX9_init 19 = .ok (.dup, 1) := by decide +kernel
theorem dX9_init_20 : decode cX9_init 20 = .ok (.invokespecial 18, 3) := by decide +kernel
theorem dX9_init_23 : decode cX9_init 23 = .ok (.putfield 19, 3) := by decide +kernel
theorem dX9_init_26 : decode cX9_init 26 = .ok (.aload_n 0, 1) := by decide +kernel
theorem dX9_init_27 : decode cX9_init 27 = .ok (.new 23, 3) := by decide +kernel
theorem dX9_init_30 : decode cX9_init 30 = .ok (.dup, 1) := by decide +kernel
theorem dX9_init_31 : decode cX9_init 31 = .ok (.invokespecial 25, 3) := by decide +kernel
theorem dX9_init_34 : decode cX9_init 34 = .ok (.putfield 26, 3) := by decide +kernel
theorem dX9_init_37 : decode cX9_init 37 = .ok (.aload_n 0, 1) := by decide +kernel
theorem dX9_init_38 : decode cX9_init 38 = .ok (.new 23, 3) := by decide +kernel
theorem dX9_init_41 : decode cX9_init 41 = .ok (.dup, 1) := by decide +kernel
theorem dX9_init_42 : decode cX9_init 42 = .ok (.invokespecial 25, 3) := by decide +kernel
theorem dX9_init_45 : decode cX9_init 45 = .ok (.putfield 30, 3) := by decide +kernel
theorem dX9_init_48 : decode cX9_init 48 = .ok (.aload_n 0, 1) := by decide +kernel
theorem dX9_init_49 : decode cX9_init 49 = .ok (.new 33, 3) := by decide +kernel
theorem dX9_init_52 : decode cX9_init 52 = .ok (.dup, 1) := by decide +kernel
theorem dX9_init_53 : decode cX9_init 53 = .ok (.invokespecial 35, 3) := by decide +kernel
theorem dX9_init_56 : decode cX9_init 56 = .ok (.putfield 36, 3) := by decide +kernel
theorem dX9_init_59 : decode cX9_init 59 = .ok (.aload_n 0, 1) := by decide +kernel
theorem dX9_init_60 : decode cX9_init 60 = .ok (.new 40, 3) := by decide +kernel
theorem dX9_init_63 : decode cX9_init 63 = .ok (.dup, 1) := by decide +kernel
theorem dX9_init_64 : decode cX9_init 64 = .ok (.invokespecial 42, 3) := by decide +kernel
theorem dX9_init_67 : decode cX9_init 67 = .ok (.putfield 43, 3) := by decide +kernel
theorem dX9_init_70 : decode cX9_init 70 = .ok (.aload_n 0, 1) := by decide +kernel
theorem dX9_init_71 : decode cX9_init 71 = .ok (.new 47, 3) := by decide +kernel
theorem dX9_init_74 : decode cX9_init 74 = .ok (.dup, 1) := by decide +kernel
theorem dX9_init_75 : decode cX9_init 75 = .ok (.invokespecial 49, 3) := by decide +kernel
theorem dX9_init_78 : decode cX9_init 78 = .ok (.putfield 50, 3) := by decide +kernel
theorem dX9_init_81 : decode cX9_init 81 = .ok (.aload_n 0, 1) := by decide +kernel
theorem dX9_init_82 : decode cX9_init 82 = .ok (.getfield 26, 3) := by decide +kernel
theorem dX9_init_85 : decode cX9_init 85 = .ok (.iconst 1, 1) := by decide +kernel
theorem dX9_init_86 : decode cX9_init 86 = .ok (.putfield 54, 3) := by decide +kernel
theorem dX9_init_89 : decode cX9_init 89 = .ok (.return_, 1) := by decide +kernel
set_option maxRecDepth 20000 in
theorem ggX9_append_X8_add : GoodIn wsX9_append wsX8_add := goodIn_r _ [9, 10, 11, 21, 22] (by decide +kernel) (by decide +kernel)
set_option maxRecDepth 20000 in
theorem gX9_append_X8_add : GoodIn wsX9_append (wsV RX9 63 RX8 yX8_add wsX8_add) := goodIn_app (goodIn_of _ (by decide +kernel)) ggX9_append_X8_add
theorem dX9_append_0 : decode cX9_append 0 = .ok (.iload_n 1, 1) := by decide +kernel
theorem dX9_append_1 : decode cX9_append 1 = .ok (.ifCond .lt 10, 3) := by decide +kernel
theorem dX9_append_4 : decode cX9_append 4 = .ok (.iload_n 1, 1) := by decide +kernel
theorem dX9_append_5 : decode cX9_append 5 = .ok (.sipush 255, 3) := by decide +kernel
theorem dX9_append_8 : decode cX9_append 8 = .ok (.if_icmp .le 6, 3) := by decide +kernel
theorem dX9_append_11 : decode cX9_append 11 = .ok (.ldc 58, 2) := by decide +kernel
theorem dX9_append_13 : decode cX9_append 13 = .ok (.ireturn, 1) := by decide +kernel
theorem dX9_append_14 : decode cX9_append 14 = .ok (.aload_n 0, 1) := by decide +kernel
theorem dX9_append_15 : decode cX9_append 15 = .ok (.getfield 12, 3) := by decide +kernel
theorem dX9_append_18 : decode cX9_append 18 = .ok (.getfield 59, 3) := by decide +kernel
theorem dX9_append_21 : decode cX9_append 21 = .ok (.sipush 160, 3) := by decide +kernel
theorem dX9_append_24 : decode cX9_append 24 = .ok (.if_icmp .lt 6, 3) := by decide +kernel
theorem dX9_append_27 : decode cX9_append 27 = .ok (.ldc 62, 2) := by decide +kernel
theorem dX9_append_29 : decode cX9_append 29 = .ok (.ireturn, 1) := by decide +kernel
theorem dX9_append_30 : decode cX9_append 30 = .ok (.aload_n 0, 1) := by decide +kernel
theorem dX9_append_31 : decode cX9_append 31 = .ok (.getfield 12, 3) := by decide +kernel
theorem dX9_append_34 : decode cX9_append 34 = .ok (.iload_n 1, 1) := by decide +kernel
theorem dX9_append_35 : decode cX9_append 35 = .ok (.invokevirtual 63, 3) := by decide +kernel
theorem dX9_append_38 : decode cX9_append 38 = .ok (.aload_n 0, 1) := by decide +kernel
theorem dX9_append_39 : decode cX9_append 39 = .ok (.getfield 12, 3) := by decide +kernel
theorem dX9_append_42 : decode cX9_append 42 = .ok (.getfield 59, 3) := by decide +kernel
theorem dX9_append_45 : decode cX9_append 45 = .ok (.ireturn, 1) := by decide +kernel
theorem dX9_clearText_0 : decode cX9_clearText 0 = .ok (.aload_n 0, 1) := by decide +kernel
theorem dX9_clearText_1 : decode cX9_clearText 1 = .ok (.getfield 12, 3) := by decide +kernel
theorem dX9_clearText_4 : decode cX9_clearText 4 = .ok (.getfield 59, 3) := by decide +kernel
theorem dX9_clearText_7 : decode cX9_clearText 7 = .ok (.istore_n 1, 1) := by decide +kernel
theorem dX9_clearText_8 : decode cX9_clearText 8 = .ok (.aload_n 0, 1) := by decide +kernel
theorem dX9_clearText_9 : decode cX9_clearText 9 = .ok (.getfield 12, 3) := by decide +kernel
theorem dX9_clearText_12 : decode cX9_clearText 12 = .ok (.iconst 0, 1) := by decide +kernel
theorem dX9_clearText_13 : decode cX9_clearText 13 = .ok (.putfield 59, 3) := by decide +kernel
theorem dX9_clearText_16 : decode cX9_clearText 16 = .ok (.iload_n 1, 1) := by decide +kernel
theorem dX9_clearText_17 : decode cX9_clearText 17 = .ok (.ireturn, 1) := by decide +kernel
set_option maxRecDepth 20000 in
theorem ggX9_load_X4_read : GoodIn wsX9_load wsX4_read := goodIn_r _ [11, 12, 13, 14, 15, 16, 17, 18, 19, 20, 21, 22, 23, 24, 25, 26, 27, 28, 29, 30, 31, 32, 33, 34, 35, 36, 37, 38, 39, 40, 10, 41, 42, 43, 44, 45, 46, 47, 48, 49, 50, 51, 52, 53, 54, 55, 56, 57, 58, 59, 60, 61, 62, 63, 64, 65, 66, 67, 68, 69, 70, 71, 72, 73, 74, 75, 76, 77, 78, 79, 80, 81, 82, 83, 84, 85, 86, 134, 135, 129, 130, 131, 132, 133] (by decide +kernel) (by decide +kernel)
set_option maxRecDepth 20000 in
theorem gX9_load_X4_read : GoodIn wsX9_load (wsV RX9 67 RX4 yX4_read wsX4_read) := goodIn_app (goodIn_of _ (by decide +kernel)) ggX9_load_X4_read
set_option maxRecDepth 20000 in
theorem ggX9_load_X9_becomeDraft : GoodIn wsX9_load wsX9_becomeDraft := goodIn_r _ [91, 92, 93, 5, 94, 95, 96, 97, 98, 3, 99, 100, 101, 102, 103, 104, 105, 106, 107, 108, 109, 74, 75, 18, 76, 22, 110, 111, 112, 113, 20, 21, 114, 115, 116, 117, 118, 119, 120, 121, 122, 123, 124, 125, 126, 127, 128, 136, 137, 131, 132, 133, 138, 139, 140, 141, 142] (by decide +kernel) (by decide +kernel)
set_option maxRecDepth 20000 in
theorem gX9_load_X9_becomeDraft : GoodIn wsX9_load (wsV RX9 71 RX9 yX9_becomeDraft wsX9_becomeDraft) := goodIn_app (goodIn_of _ (by decide +kernel)) ggX9_load_X9_becomeDraft
theorem dX9_load_0 : decode cX9_load 0 = .ok (.aload_n 0, 1) := by decide +kernel
theorem dX9_load_1 : decode cX9_load 1 = .ok (.getfield 19, 3) := by decide +kernel
theorem dX9_load_4 : decode cX9_load 4 = .ok (.aload_n 0, 1) := by decide +kernel
theorem dX9_load_5 : decode cX9_load 5 = .ok (.getfield 12, 3) := by decide +kernel
theorem dX9_load_8 : decode cX9_load 8 = .ok (.aload_n 0, 1) := by decide +kernel
theorem dX9_load_9 : decode cX9_load 9 = .ok (.getfield 30, 3) := by decide +kernel
theorem dX9_load_12 : decode cX9_load 12 = .ok (.invokevirtual 67, 3) := by decide +kernel
theorem dX9_load_15 : decode cX9_load 15 = .ok (.istore_n 1, 1) := by decide +kernel
theorem dX9_load_16 : decode cX9_load 16 = .ok (.iload_n 1, 1) := by decide +kernel
theorem dX9_load_17 : decode cX9_load 17 = .ok (.ifCond .lt 8, 3) := by decide +kernel
theorem dX9_load_20 : decode cX9_load 20 = .ok (.bipush (-10), 2) := by decide +kernel
theorem dX9_load_22 : decode cX9_load 22 = .ok (.iload_n 1, 1) := by decide +kernel
theorem dX9_load_23 : decode cX9_load 23 = .ok (.isub, 1) := by decide +kernel
theorem dX9_load_24 : decode cX9_load 24 = .ok (.ireturn, 1) := by decide +kernel
theorem dX9_load_25 : decode cX9_load 25 = .ok (.aload_n 0, 1) := by decide +kernel
theorem dX9_load_26 : decode cX9_load 26 = .ok (.invokevirtual 71, 3) := by decide +kernel
theorem dX9_load_29 : decode cX9_load 29 = .ok (.aload_n 0, 1) := by decide +kernel
theorem dX9_load_30 : decode cX9_load 30 = .ok (.getfield 12, 3) := by decide +kernel
theorem dX9_load_33 : decode cX9_load 33 = .ok (.iconst 0, 1) := by decide +kernel
theorem dX9_load_34 : decode cX9_load 34 = .ok (.putfield 59, 3) := by decide +kernel
theorem dX9_load_37 : decode cX9_load 37 = .ok (.aload_n 0, 1) := by decide +kernel
theorem dX9_load_38 : decode cX9_load 38 = .ok (.getfield 26, 3) := by decide +kernel
theorem dX9_load_41 : decode cX9_load 41 = .ok (.getfield 74, 3) := by decide +kernel
theorem dX9_load_44 : decode cX9_load 44 = .ok (.ireturn, 1) := by decide +kernel
theorem dX9_crossingCount_0 : decode cX9_crossingCount 0 = .ok (.aload_n 0, 1) := by decide +kernel
theorem dX9_crossingCount_1 : decode cX9_crossingCount 1 = .ok (.getfield 26, 3) := by decide +kernel
theorem dX9_crossingCount_4 : decode cX9_crossingCount 4 = .ok (.getfield 74, 3) := by decide +kernel
theorem dX9_crossingCount_7 : decode cX9_crossingCount 7 = .ok (.ireturn, 1) := by decide +kernel
theorem dX9_circleCount_0 : decode cX9_circleCount 0 = .ok (.aload_n 0, 1) := by decide +kernel
theorem dX9_circleCount_1 : decode cX9_circleCount 1 = .ok (.getfield 26, 3) := by decide +kernel
theorem dX9_circleCount_4 : decode cX9_circleCount 4 = .ok (.getfield 54, 3) := by decide +kernel
theorem dX9_circleCount_7 : decode cX9_circleCount 7 = .ok (.ireturn, 1) := by decide +kernel
set_option maxRecDepth 20000 in
theorem ggX9_arcAt_X2_hasCrossing : GoodIn wsX9_arcAt wsX2_hasCrossing := goodIn_r _ [7, 8, 23, 24, 25] (by decide +kernel) (by decide +kernel)
set_option maxRecDepth 20000 in
theorem gX9_arcAt_X2_hasCrossing : GoodIn wsX9_arcAt (wsV RX9 77 RX2 yX2_hasCrossing wsX2_hasCrossing) := goodIn_app (goodIn_of _ (by decide +kernel)) ggX9_arcAt_X2_hasCrossing
set_option maxRecDepth 20000 in
theorem ggX9_arcAt_X2_arc : GoodIn wsX9_arcAt wsX2_arc := goodIn_r _ [12, 13, 23, 24, 25] (by decide +kernel) (by decide +kernel)
set_option maxRecDepth 20000 in
theorem gX9_arcAt_X2_arc : GoodIn wsX9_arcAt (wsV RX9 81 RX2 yX2_arc wsX2_arc) := goodIn_app (goodIn_of _ (by decide +kernel)) ggX9_arcAt_X2_arc
theorem dX9_arcAt_0 : decode cX9_arcAt 0 = .ok (.aload_n 0, 1) := by decide +kernel
theorem dX9_arcAt_1 : decode cX9_arcAt 1 = .ok (.getfield 26, 3) := by decide +kernel
theorem dX9_arcAt_4 : decode cX9_arcAt 4 = .ok (.iload_n 1, 1) := by decide +kernel
theorem dX9_arcAt_5 : decode cX9_arcAt 5 = .ok (.invokevirtual 77, 3) := by decide +kernel
theorem dX9_arcAt_8 : decode cX9_arcAt 8 = .ok (.ifCond .eq 12, 3) := by decide +kernel
theorem dX9_arcAt_11 : decode cX9_arcAt 11 = .ok (.iload_n 2, 1) := by decide +kernel
theorem dX9_arcAt_12 : decode cX9_arcAt 12 = .ok (.ifCond .lt 8, 3) := by decide +kernel
theorem dX9_arcAt_15 : decode cX9_arcAt 15 = .ok (.iload_n 2, 1) := by decide +kernel
theorem dX9_arcAt_16 : decode cX9_arcAt 16 = .ok (.iconst 3, 1) := by decide +kernel
theorem dX9_arcAt_17 : decode cX9_arcAt 17 = .ok (.if_icmp .le 6, 3) := by decide +kernel
theorem dX9_arcAt_20 : decode cX9_arcAt 20 = .ok (.ldc 58, 2) := by decide +kernel
theorem dX9_arcAt_22 : decode cX9_arcAt 22 = .ok (.ireturn, 1) := by decide +kernel
theorem dX9_arcAt_23 : decode cX9_arcAt 23 = .ok (.aload_n 0, 1) := by decide +kernel
theorem dX9_arcAt_24 : decode cX9_arcAt 24 = .ok (.getfield 26, 3) := by decide +kernel
theorem dX9_arcAt_27 : decode cX9_arcAt 27 = .ok (.iconst 4, 1) := by decide +kernel
theorem dX9_arcAt_28 : decode cX9_arcAt 28 = .ok (.iload_n 1, 1) := by decide +kernel
theorem dX9_arcAt_29 : decode cX9_arcAt 29 = .ok (.imul, 1) := by decide +kernel
theorem dX9_arcAt_30 : decode cX9_arcAt 30 = .ok (.iload_n 2, 1) := by decide +kernel
theorem dX9_arcAt_31 : decode cX9_arcAt 31 = .ok (.iadd, 1) := by decide +kernel
theorem dX9_arcAt_32 : decode cX9_arcAt 32 = .ok (.invokevirtual 81, 3) := by decide +kernel
theorem dX9_arcAt_35 : decode cX9_arcAt 35 = .ok (.ireturn, 1) := by decide +kernel
set_option maxRecDepth 20000 in
theorem ggX9_switchCrossing_X2_hasCrossing : GoodIn wsX9_switchCrossing wsX2_hasCrossing := goodIn_r _ [8, 9, 92, 93, 94] (by decide +kernel) (by decide +kernel)
set_option maxRecDepth 20000 in
theorem gX9_switchCrossing_X2_hasCrossing : GoodIn wsX9_switchCrossing (wsV RX9 77 RX2 yX2_hasCrossing wsX2_hasCrossing) := goodIn_app (goodIn_of _ (by decide +kernel)) ggX9_switchCrossing_X2_hasCrossing
set_option maxRecDepth 20000 in
theorem ggX9_switchCrossing_X2_copyFrom : GoodIn wsX9_switchCrossing wsX2_copyFrom := goodIn_r _ [13, 9, 14, 15, 92, 93, 94] (by decide +kernel) (by decide +kernel)
set_option maxRecDepth 20000 in
theorem gX9_switchCrossing_X2_copyFrom : GoodIn wsX9_switchCrossing (wsV RX9 85 RX2 yX2_copyFrom wsX2_copyFrom) := goodIn_app (goodIn_of _ (by decide +kernel)) ggX9_switchCrossing_X2_copyFrom
set_option maxRecDepth 20000 in
theorem ggX9_switchCrossing_X2_exchangeStrands : GoodIn wsX9_switchCrossing wsX2_exchangeStrands := goodIn_r _ [19, 20, 21, 22, 7, 23, 15, 24, 25, 26, 27, 92, 93, 94] (by decide +kernel) (by decide +kernel)
set_option maxRecDepth 20000 in
theorem gX9_switchCrossing_X2_exchangeStrands : GoodIn wsX9_switchCrossing (wsV RX9 89 RX2 yX2_exchangeStrands wsX2_exchangeStrands) := goodIn_app (goodIn_of _ (by decide +kernel)) ggX9_switchCrossing_X2_exchangeStrands
set_option maxRecDepth 20000 in
theorem ggX9_switchCrossing_X9_becomeDraft : GoodIn wsX9_switchCrossing wsX9_becomeDraft := goodIn_r _ [32, 33, 34, 1, 35, 36, 37, 38, 39, 3, 40, 41, 42, 43, 44, 45, 46, 47, 48, 49, 50, 21, 22, 7, 23, 15, 10, 11, 12, 13, 9, 14, 51, 52, 53, 54, 55, 56, 83, 84, 85, 86, 87, 88, 89, 90, 91, 95, 96, 92, 93, 94, 97, 98, 99, 100, 101] (by decide +kernel) (by decide +kernel)
set_option maxRecDepth 20000 in
theorem gX9_switchCrossing_X9_becomeDraft : GoodIn wsX9_switchCrossing (wsV RX9 71 RX9 yX9_becomeDraft wsX9_becomeDraft) := goodIn_app (goodIn_of _ (by decide +kernel)) ggX9_switchCrossing_X9_becomeDraft
set_option maxRecDepth 20000 in
theorem ggX9_switchCrossing_X7_enteredEnds : GoodIn wsX9_switchCrossing wsX7_enteredEnds := goodIn_r _ [60, 61, 62, 63, 7, 64, 65, 66, 67, 68, 9, 20, 21, 22, 23, 15, 69, 70, 71, 72, 73, 31, 74, 75, 76, 59, 77, 78, 79, 92, 93, 94] (by decide +kernel) (by decide +kernel)
set_option maxRecDepth 20000 in
theorem gX9_switchCrossing_X7_enteredEnds : GoodIn wsX9_switchCrossing (va_wsS RX9 92 yX7_enteredEnds wsX7_enteredEnds) := goodIn_app (goodIn_of _ (by decide +kernel)) ggX9_switchCrossing_X7_enteredEnds
set_option maxRecDepth 20000 in
theorem ggX9_switchCrossing_X7_sign : GoodIn wsX9_switchCrossing wsX7_sign := goodIn_r _ [82, 73, 31, 74] (by decide +kernel) (by decide +kernel)
set_option maxRecDepth 20000 in
theorem gX9_switchCrossing_X7_sign : GoodIn wsX9_switchCrossing (va_wsS RX9 98 yX7_sign wsX7_sign) := goodIn_app (goodIn_of _ (by decide +kernel)) ggX9_switchCrossing_X7_sign
theorem dX9_switchCrossing_0 : decode cX9_switchCrossing 0 = .ok (.aload_n 0, 1) := by decide +kernel
theorem dX9_switchCrossing_1 : decode cX9_switchCrossing 1 = .ok (.getfield 26, 3) := by decide +kernel
theorem dX9_switchCrossing_4 : decode cX9_switchCrossing 4 = .ok (.iload_n 1, 1) := by decide +kernel
theorem dX9_switchCrossing_5 : decode cX9_switchCrossing 5 = .ok (.invokevirtual 77, 3) := by decide +kernel
theorem dX9_switchCrossing_8 : decode cX9_switchCrossing 8 = .ok (.ifCond .ne 6, 3) := by decide +kernel
theorem dX9_switchCrossing_11 : decode cX9_switchCrossing 11 = .ok (.ldc 58, 2) := by decide +kernel
theorem dX9_switchCrossing_13 : decode cX9_switchCrossing 13 = .ok (.ireturn, 1) := by decide +kernel
theorem dX9_switchCrossing_14 : decode cX9_switchCrossing 14 = .ok (.aload_n 0, 1) := by decide +kernel
theorem dX9_switchCrossing_15 : decode cX9_switchCrossing 15 = .ok (.getfield 30, 3) := by decide +kernel
theorem dX9_switchCrossing_18 : decode cX9_switchCrossing 18 = .ok (.aload_n 0, 1) := by decide +kernel
theorem dX9_switchCrossing_19 : decode cX9_switchCrossing 19 = .ok (.getfield 26, 3) := by decide +kernel
theorem dX9_switchCrossing_22 : decode cX9_switchCrossing 22 = .ok (.invokevirtual 85, 3) := by decide +kernel
theorem dX9_switchCrossing_25 : decode cX9_switchCrossing 25 = .ok (.aload_n 0, 1) := by decide +kernel
theorem dX9_switchCrossing_26 : decode cX9_switchCrossing 26 = .ok (.getfield 30, 3) := by decide +kernel
theorem dX9_switchCrossing_29 : decode cX9_switchCrossing 29 = .ok (.iload_n 1, 1) := by decide +kernel
theorem dX9_switchCrossing_30 : decode cX9_switchCrossing 30 = .ok (.invokevirtual 89, 3) := by decide +kernel
theorem dX9_switchCrossing_33 : decode cX9_switchCrossing 33 = .ok (.aload_n 0, 1) := by decide +kernel
theorem dX9_switchCrossing_34 : decode cX9_switchCrossing 34 = .ok (.invokevirtual 71, 3) := by decide +kernel
theorem dX9_switchCrossing_37 : decode cX9_switchCrossing 37 = .ok (.iload_n 1, 1) := by decide +kernel
theorem dX9_switchCrossing_38 : decode cX9_switchCrossing 38 = .ok (.aload_n 0, 1) := by decide +kernel
theorem dX9_switchCrossing_39 : decode cX9_switchCrossing 39 = .ok (.getfield 26, 3) := by decide +kernel
theorem dX9_switchCrossing_42 : decode cX9_switchCrossing 42 = .ok (.invokestatic 92, 3) := by decide +kernel
theorem dX9_switchCrossing_45 : decode cX9_switchCrossing 45 = .ok (.invokestatic 98, 3) := by decide +kernel
theorem dX9_switchCrossing_48 : decode cX9_switchCrossing 48 = .ok (.ireturn, 1) := by decide +kernel
set_option maxRecDepth 20000 in
theorem ggX9_mirror_X2_copyFrom : GoodIn wsX9_mirror wsX2_copyFrom := goodIn_r _ [9, 10, 11, 12, 93, 94, 95] (by decide +kernel) (by decide +kernel)
set_option maxRecDepth 20000 in
theorem gX9_mirror_X2_copyFrom : GoodIn wsX9_mirror (wsV RX9 85 RX2 yX2_copyFrom wsX2_copyFrom) := goodIn_app (goodIn_of _ (by decide +kernel)) ggX9_mirror_X2_copyFrom
set_option maxRecDepth 20000 in
theorem ggX9_mirror_X2_exchangeStrands : GoodIn wsX9_mirror wsX2_exchangeStrands := goodIn_r _ [16, 17, 18, 19, 8, 20, 12, 21, 22, 23, 24, 93, 94, 95] (by decide +kernel) (by decide +kernel)
set_option maxRecDepth 20000 in
theorem gX9_mirror_X2_exchangeStrands : GoodIn wsX9_mirror (wsV RX9 89 RX2 yX2_exchangeStrands wsX2_exchangeStrands) := goodIn_app (goodIn_of _ (by decide +kernel)) ggX9_mirror_X2_exchangeStrands
set_option maxRecDepth 20000 in
theorem ggX9_mirror_X9_becomeDraft : GoodIn wsX9_mirror wsX9_becomeDraft := goodIn_r _ [29, 30, 31, 1, 32, 33, 34, 35, 36, 4, 37, 38, 39, 40, 41, 42, 43, 44, 45, 46, 47, 18, 19, 8, 20, 12, 5, 6, 7, 9, 10, 11, 48, 49, 50, 51, 52, 53, 84, 85, 86, 87, 88, 89, 90, 91, 92, 96, 97, 93, 94, 95, 98, 99, 100, 101, 102] (by decide +kernel) (by decide +kernel)
set_option maxRecDepth 20000 in
theorem gX9_mirror_X9_becomeDraft : GoodIn wsX9_mirror (wsV RX9 71 RX9 yX9_becomeDraft wsX9_becomeDraft) := goodIn_app (goodIn_of _ (by decide +kernel)) ggX9_mirror_X9_becomeDraft
set_option maxRecDepth 20000 in
theorem ggX9_mirror_X7_signSum : GoodIn wsX9_mirror wsX7_signSum := goodIn_r _ [57, 58, 59, 60, 56, 61, 62, 63, 64, 8, 65, 66, 67, 68, 69, 10, 17, 18, 19, 20, 12, 70, 71, 72, 73, 74, 28, 75, 76, 77, 78, 79, 80, 81, 82, 83, 93, 94, 95] (by decide +kernel) (by decide +kernel)
set_option maxRecDepth 20000 in
theorem gX9_mirror_X7_signSum : GoodIn wsX9_mirror (va_wsS RX9 103 yX7_signSum wsX7_signSum) := goodIn_app (goodIn_of _ (by decide +kernel)) ggX9_mirror_X7_signSum
