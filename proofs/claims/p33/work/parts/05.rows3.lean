theorem dX9_mirror_0 : decode cX9_mirror 0 = .ok (.aload_n 0, 1) := by decide +kernel
theorem dX9_mirror_1 : decode cX9_mirror 1 = .ok (.getfield 26, 3) := by decide +kernel
theorem dX9_mirror_4 : decode cX9_mirror 4 = .ok (.getfield 74, 3) := by decide +kernel
theorem dX9_mirror_7 : decode cX9_mirror 7 = .ok (.ifCond .ne 6, 3) := by decide +kernel
theorem dX9_mirror_10 : decode cX9_mirror 10 = .ok (.ldc 102, 2) := by decide +kernel
theorem dX9_mirror_12 : decode cX9_mirror 12 = .ok (.ireturn, 1) := by decide +kernel
theorem dX9_mirror_13 : decode cX9_mirror 13 = .ok (.aload_n 0, 1) := by decide +kernel
theorem dX9_mirror_14 : decode cX9_mirror 14 = .ok (.getfield 30, 3) := by decide +kernel
theorem dX9_mirror_17 : decode cX9_mirror 17 = .ok (.aload_n 0, 1) := by decide +kernel
theorem dX9_mirror_18 : decode cX9_mirror 18 = .ok (.getfield 26, 3) := by decide +kernel
theorem dX9_mirror_21 : decode cX9_mirror 21 = .ok (.invokevirtual 85, 3) := by decide +kernel
theorem dX9_mirror_24 : decode cX9_mirror 24 = .ok (.aload_n 0, 1) := by decide +kernel
theorem dX9_mirror_25 : decode cX9_mirror 25 = .ok (.getfield 30, 3) := by decide +kernel
theorem dX9_mirror_28 : decode cX9_mirror 28 = .ok (.getfield 74, 3) := by decide +kernel
theorem dX9_mirror_31 : decode cX9_mirror 31 = .ok (.istore_n 1, 1) := by decide +kernel
theorem dX9_mirror_32 : decode cX9_mirror 32 = .ok (.iconst 0, 1) := by decide +kernel
theorem dX9_mirror_33 : decode cX9_mirror 33 = .ok (.istore_n 2, 1) := by decide +kernel
theorem dX9_mirror_34 : decode cX9_mirror 34 = .ok (.iload_n 2, 1) := by decide +kernel
theorem dX9_mirror_35 : decode cX9_mirror 35 = .ok (.iload_n 1, 1) := by decide +kernel
theorem dX9_mirror_36 : decode cX9_mirror 36 = .ok (.if_icmp .ge 17, 3) := by decide +kernel
theorem dX9_mirror_39 : decode cX9_mirror 39 = .ok (.aload_n 0, 1) := by decide +kernel
theorem dX9_mirror_40 : decode cX9_mirror 40 = .ok (.getfield 30, 3) := by decide +kernel
theorem dX9_mirror_43 : decode cX9_mirror 43 = .ok (.iload_n 2, 1) := by decide +kernel
theorem dX9_mirror_44 : decode cX9_mirror 44 = .ok (.invokevirtual 89, 3) := by decide +kernel
theorem dX9_mirror_47 : decode cX9_mirror 47 = .ok (.iinc 2 1, 3) := by decide +kernel
theorem dX9_mirror_50 : decode cX9_mirror 50 = .ok (.goto (-16), 3) := by decide +kernel
theorem dX9_mirror_53 : decode cX9_mirror 53 = .ok (.aload_n 0, 1) := by decide +kernel
theorem dX9_mirror_54 : decode cX9_mirror 54 = .ok (.invokevirtual 71, 3) := by decide +kernel
theorem dX9_mirror_57 : decode cX9_mirror 57 = .ok (.aload_n 0, 1) := by decide +kernel
theorem dX9_mirror_58 : decode cX9_mirror 58 = .ok (.getfield 26, 3) := by decide +kernel
theorem dX9_mirror_61 : decode cX9_mirror 61 = .ok (.invokestatic 103, 3) := by decide +kernel
theorem dX9_mirror_64 : decode cX9_mirror 64 = .ok (.ireturn, 1) := by decide +kernel
set_option maxRecDepth 20000 in
theorem ggX9_removeKink_X2_hasCrossing : GoodIn wsX9_removeKink wsX2_hasCrossing := goodIn_r _ [9, 10, 97, 98, 99] (by decide +kernel) (by decide +kernel)
set_option maxRecDepth 20000 in
theorem gX9_removeKink_X2_hasCrossing : GoodIn wsX9_removeKink (wsV RX9 77 RX2 yX2_hasCrossing wsX2_hasCrossing) := goodIn_app (goodIn_of _ (by decide +kernel)) ggX9_removeKink_X2_hasCrossing
set_option maxRecDepth 20000 in
theorem ggX9_removeKink_X3_kinkEnd : GoodIn wsX9_removeKink wsX3_kinkEnd := goodIn_r _ [14, 15, 16, 13, 17, 18, 19, 20, 8, 21, 22, 97, 98, 99] (by decide +kernel) (by decide +kernel)
set_option maxRecDepth 20000 in
theorem gX9_removeKink_X3_kinkEnd : GoodIn wsX9_removeKink (va_wsS RX9 106 yX3_kinkEnd wsX3_kinkEnd) := goodIn_app (goodIn_of _ (by decide +kernel)) ggX9_removeKink_X3_kinkEnd
set_option maxRecDepth 20000 in
theorem ggX9_removeKink_X2_copyFrom : GoodIn wsX9_removeKink wsX2_copyFrom := goodIn_r _ [26, 10, 27, 22, 97, 98, 99] (by decide +kernel) (by decide +kernel)
set_option maxRecDepth 20000 in
theorem gX9_removeKink_X2_copyFrom : GoodIn wsX9_removeKink (wsV RX9 85 RX2 yX2_copyFrom wsX2_copyFrom) := goodIn_app (goodIn_of _ (by decide +kernel)) ggX9_removeKink_X2_copyFrom
set_option maxRecDepth 20000 in
theorem ggX9_removeKink_X3_dissolveKink : GoodIn wsX9_removeKink wsX3_dissolveKink := goodIn_r _ [30, 15, 16, 13, 17, 31, 32, 33, 8, 34, 27, 35, 36, 37, 38, 39, 40, 41, 42, 19, 20, 21, 22, 43, 44, 45, 46, 10, 47, 48, 49, 50, 51, 52, 53, 54, 97, 98, 99] (by decide +kernel) (by decide +kernel)
set_option maxRecDepth 20000 in
theorem gX9_removeKink_X3_dissolveKink : GoodIn wsX9_removeKink (va_wsS RX9 112 yX3_dissolveKink wsX3_dissolveKink) := goodIn_app (goodIn_of _ (by decide +kernel)) ggX9_removeKink_X3_dissolveKink
set_option maxRecDepth 20000 in
theorem ggX9_removeKink_X9_finishRemoval : GoodIn wsX9_removeKink wsX9_finishRemoval := goodIn_r _ [59, 4, 60, 61, 1, 62, 63, 64, 65, 58, 66, 67, 68, 69, 70, 40, 37, 41, 71, 72, 73, 74, 75, 76, 77, 78, 79, 80, 81, 19, 20, 8, 21, 22, 23, 24, 25, 26, 10, 27, 82, 83, 84, 85, 86, 87, 88, 89, 90, 91, 92, 93, 94, 95, 96, 97, 98, 99, 100, 101, 102, 103, 104, 105, 106] (by decide +kernel) (by decide +kernel)
set_option maxRecDepth 20000 in
theorem gX9_removeKink_X9_finishRemoval : GoodIn wsX9_removeKink (wsV RX9 116 RX9 yX9_finishRemoval wsX9_finishRemoval) := goodIn_app (goodIn_of _ (by decide +kernel)) ggX9_removeKink_X9_finishRemoval
theorem dX9_removeKink_0 : decode cX9_removeKink 0 = .ok (.aload_n 0, 1) := by decide +kernel
theorem dX9_removeKink_1 : decode cX9_removeKink 1 = .ok (.getfield 26, 3) := by decide +kernel
theorem dX9_removeKink_4 : decode cX9_removeKink 4 = .ok (.iload_n 1, 1) := by decide +kernel
theorem dX9_removeKink_5 : decode cX9_removeKink 5 = .ok (.invokevirtual 77, 3) := by decide +kernel
theorem dX9_removeKink_8 : decode cX9_removeKink 8 = .ok (.ifCond .ne 6, 3) := by decide +kernel
theorem dX9_removeKink_11 : decode cX9_removeKink 11 = .ok (.ldc 58, 2) := by decide +kernel
theorem dX9_removeKink_13 : decode cX9_removeKink 13 = .ok (.ireturn, 1) := by decide +kernel
theorem dX9_removeKink_14 : decode cX9_removeKink 14 = .ok (.aload_n 0, 1) := by decide +kernel
theorem dX9_removeKink_15 : decode cX9_removeKink 15 = .ok (.getfield 26, 3) := by decide +kernel
theorem dX9_removeKink_18 : decode cX9_removeKink 18 = .ok (.iload_n 1, 1) := by decide +kernel
theorem dX9_removeKink_19 : decode cX9_removeKink 19 = .ok (.invokestatic 106, 3) := by decide +kernel
theorem dX9_removeKink_22 : decode cX9_removeKink 22 = .ok (.istore_n 2, 1) := by decide +kernel
theorem dX9_removeKink_23 : decode cX9_removeKink 23 = .ok (.iload_n 2, 1) := by decide +kernel
theorem dX9_removeKink_24 : decode cX9_removeKink 24 = .ok (.ifCond .ge 6, 3) := by decide +kernel
theorem dX9_removeKink_27 : decode cX9_removeKink 27 = .ok (.ldc 102, 2) := by decide +kernel
theorem dX9_removeKink_29 : decode cX9_removeKink 29 = .ok (.ireturn, 1) := by decide +kernel
theorem dX9_removeKink_30 : decode cX9_removeKink 30 = .ok (.aload_n 0, 1) := by decide +kernel
theorem dX9_removeKink_31 : decode cX9_removeKink 31 = .ok (.getfield 30, 3) := by decide +kernel
theorem dX9_removeKink_34 : decode cX9_removeKink 34 = .ok (.aload_n 0, 1) := by decide +kernel
theorem dX9_removeKink_35 : decode cX9_removeKink 35 = .ok (.getfield 26, 3) := by decide +kernel
theorem dX9_removeKink_38 : decode cX9_removeKink 38 = .ok (.invokevirtual 85, 3) := by decide +kernel
theorem dX9_removeKink_41 : decode cX9_removeKink 41 = .ok (.aload_n 0, 1) := by decide +kernel
theorem dX9_removeKink_42 : decode cX9_removeKink 42 = .ok (.getfield 30, 3) := by decide +kernel
theorem dX9_removeKink_45 : decode cX9_removeKink 45 = .ok (.iload_n 1, 1) := by decide +kernel
theorem dX9_removeKink_46 : decode cX9_removeKink 46 = .ok (.iload_n 2, 1) := by decide +kernel
theorem dX9_removeKink_47 : decode cX9_removeKink 47 = .ok (.invokestatic 112, 3) := by decide +kernel
theorem dX9_removeKink_50 : decode cX9_removeKink 50 = .ok (.aload_n 0, 1) := by decide +kernel
theorem dX9_removeKink_51 : decode cX9_removeKink 51 = .ok (.invokevirtual 116, 3) := by decide +kernel
theorem dX9_removeKink_54 : decode cX9_removeKink 54 = .ok (.ireturn, 1) := by decide +kernel
set_option maxRecDepth 20000 in
theorem ggX9_removeBigon_X2_hasCrossing : GoodIn wsX9_removeBigon wsX2_hasCrossing := goodIn_r _ [9, 10, 102, 103, 104] (by decide +kernel) (by decide +kernel)
set_option maxRecDepth 20000 in
theorem gX9_removeBigon_X2_hasCrossing : GoodIn wsX9_removeBigon (wsV RX9 77 RX2 yX2_hasCrossing wsX2_hasCrossing) := goodIn_app (goodIn_of _ (by decide +kernel)) ggX9_removeBigon_X2_hasCrossing
set_option maxRecDepth 20000 in
theorem ggX9_removeBigon_X3_bigonCorner : GoodIn wsX9_removeBigon wsX3_bigonCorner := goodIn_r _ [14, 15, 16, 13, 17, 18, 19, 20, 21, 22, 23, 8, 24, 25, 102, 103, 104] (by decide +kernel) (by decide +kernel)
set_option maxRecDepth 20000 in
theorem gX9_removeBigon_X3_bigonCorner : GoodIn wsX9_removeBigon (va_wsS RX9 120 yX3_bigonCorner wsX3_bigonCorner) := goodIn_app (goodIn_of _ (by decide +kernel)) ggX9_removeBigon_X3_bigonCorner
set_option maxRecDepth 20000 in
theorem ggX9_removeBigon_X2_copyFrom : GoodIn wsX9_removeBigon wsX2_copyFrom := goodIn_r _ [29, 10, 30, 25, 102, 103, 104] (by decide +kernel) (by decide +kernel)
set_option maxRecDepth 20000 in
theorem gX9_removeBigon_X2_copyFrom : GoodIn wsX9_removeBigon (wsV RX9 85 RX2 yX2_copyFrom wsX2_copyFrom) := goodIn_app (goodIn_of _ (by decide +kernel)) ggX9_removeBigon_X2_copyFrom
set_option maxRecDepth 20000 in
theorem ggX9_removeBigon_X3_dissolveBigon : GoodIn wsX9_removeBigon wsX3_dissolveBigon := goodIn_r _ [33, 34, 35, 36, 37, 38, 39, 40, 18, 19, 13, 20, 41, 42, 43, 8, 44, 30, 45, 46, 47, 22, 23, 24, 25, 48, 49, 50, 51, 10, 52, 53, 54, 55, 56, 57, 58, 59, 102, 103, 104] (by decide +kernel) (by decide +kernel)
set_option maxRecDepth 20000 in
theorem gX9_removeBigon_X3_dissolveBigon : GoodIn wsX9_removeBigon (va_wsS RX9 124 yX3_dissolveBigon wsX3_dissolveBigon) := goodIn_app (goodIn_of _ (by decide +kernel)) ggX9_removeBigon_X3_dissolveBigon
set_option maxRecDepth 20000 in
theorem ggX9_removeBigon_X9_finishRemoval : GoodIn wsX9_removeBigon wsX9_finishRemoval := goodIn_r _ [64, 4, 65, 66, 1, 67, 68, 69, 70, 63, 71, 72, 73, 74, 75, 39, 36, 40, 76, 77, 78, 79, 80, 81, 82, 83, 84, 85, 86, 22, 23, 8, 24, 25, 26, 27, 28, 29, 10, 30, 87, 88, 89, 90, 91, 92, 93, 94, 95, 96, 97, 98, 99, 100, 101, 102, 103, 104, 105, 106, 107, 108, 109, 110, 111] (by decide +kernel) (by decide +kernel)
set_option maxRecDepth 20000 in
theorem gX9_removeBigon_X9_finishRemoval : GoodIn wsX9_removeBigon (wsV RX9 116 RX9 yX9_finishRemoval wsX9_finishRemoval) := goodIn_app (goodIn_of _ (by decide +kernel)) ggX9_removeBigon_X9_finishRemoval
theorem dX9_removeBigon_0 : decode cX9_removeBigon 0 = .ok (.aload_n 0, 1) := by decide +kernel
theorem dX9_removeBigon_1 : decode cX9_removeBigon 1 = .ok (.getfield 26, 3) := by decide +kernel
theorem dX9_removeBigon_4 : decode cX9_removeBigon 4 = .ok (.iload_n 1, 1) := by decide +kernel
theorem dX9_removeBigon_5 : decode cX9_removeBigon 5 = .ok (.invokevirtual 77, 3) := by decide +kernel
theorem dX9_removeBigon_8 : decode cX9_removeBigon 8 = .ok (.ifCond .eq 19, 3) := by decide +kernel
theorem dX9_removeBigon_11 : decode cX9_removeBigon 11 = .ok (.aload_n 0, 1) := by decide +kernel
theorem dX9_removeBigon_12 : decode cX9_removeBigon 12 = .ok (.getfield 26, 3) := by decide +kernel
theorem dX9_removeBigon_15 : decode cX9_removeBigon 15 = .ok (.iload_n 2, 1) := by decide +kernel
theorem dX9_removeBigon_16 : decode cX9_removeBigon 16 = .ok (.invokevirtual 77, 3) := by decide +kernel
theorem dX9_removeBigon_19 : decode cX9_removeBigon 19 = .ok (.ifCond .eq 8, 3) := by decide +kernel
theorem dX9_removeBigon_22 : decode cX9_removeBigon 22 = .ok (.iload_n 1, 1) := by decide +kernel
theorem dX9_removeBigon_23 : decode cX9_removeBigon 23 = .ok (.iload_n 2, 1) := by decide +kernel
theorem dX9_removeBigon_24 : decode cX9_removeBigon 24 = .ok (.if_icmp .ne 6, 3) := by decide +kernel
theorem dX9_removeBigon_27 : decode cX9_removeBigon 27 = .ok (.ldc 58, 2) := by decide +kernel
theorem dX9_removeBigon_29 : decode cX9_removeBigon 29 = .ok (.ireturn, 1) := by decide +kernel
theorem dX9_removeBigon_30 : decode cX9_removeBigon 30 = .ok (.aload_n 0, 1) := by decide +kernel
theorem dX9_removeBigon_31 : decode cX9_removeBigon 31 = .ok (.getfield 26, 3) := by decide +kernel
theorem dX9_removeBigon_34 : decode cX9_removeBigon 34 = .ok (.iload_n 1, 1) := by decide +kernel
theorem dX9_removeBigon_35 : decode cX9_removeBigon 35 = .ok (.iload_n 2, 1) := by decide +kernel
theorem dX9_removeBigon_36 : decode cX9_removeBigon 36 = .ok (.invokestatic 120, 3) := by decide +kernel
theorem dX9_removeBigon_39 : decode cX9_removeBigon 39 = .ok (.istore_n 3, 1) := by decide +kernel
theorem dX9_removeBigon_40 : decode cX9_removeBigon 40 = .ok (.iload_n 3, 1) := by decide +kernel
theorem dX9_removeBigon_41 : decode cX9_removeBigon 41 = .ok (.ifCond .ge 6, 3) := by decide +kernel
theorem dX9_removeBigon_44 : decode cX9_removeBigon 44 = .ok (.ldc 102, 2) := by decide +kernel
theorem dX9_removeBigon_46 : decode cX9_removeBigon 46 = .ok (.ireturn, 1) := by decide +kernel
theorem dX9_removeBigon_47 : decode cX9_removeBigon 47 = .ok (.aload_n 0, 1) := by decide +kernel
theorem dX9_removeBigon_48 : decode cX9_removeBigon 48 = .ok (.getfield 30, 3) := by decide +kernel
theorem dX9_removeBigon_51 : decode cX9_removeBigon 51 = .ok (.aload_n 0, 1) := by decide +kernel
theorem dX9_removeBigon_52 : decode cX9_removeBigon 52 = .ok (.getfield 26, 3) := by decide +kernel
theorem dX9_removeBigon_55 : decode cX9_removeBigon 55 = .ok (.invokevirtual 85, 3) := by decide +kernel
theorem dX9_removeBigon_58 : decode cX9_removeBigon 58 = .ok (.aload_n 0, 1) := by decide +kernel
theorem dX9_removeBigon_59 : decode cX9_removeBigon 59 = .ok (.getfield 30, 3) := by decide +kernel
theorem dX9_removeBigon_62 : decode cX9_removeBigon 62 = .ok (.iload_n 1, 1) := by decide +kernel
theorem dX9_removeBigon_63 : decode cX9_removeBigon 63 = .ok (.iload_n 2, 1) := by decide +kernel
theorem dX9_removeBigon_64 : decode cX9_removeBigon 64 = .ok (.iload_n 3, 1) := by decide +kernel
theorem dX9_removeBigon_65 : decode cX9_removeBigon 65 = .ok (.invokestatic 124, 3) := by decide +kernel
theorem dX9_removeBigon_68 : decode cX9_removeBigon 68 = .ok (.aload_n 0, 1) := by decide +kernel
theorem dX9_removeBigon_69 : decode cX9_removeBigon 69 = .ok (.invokevirtual 116, 3) := by decide +kernel
theorem dX9_removeBigon_72 : decode cX9_removeBigon 72 = .ok (.ireturn, 1) := by decide +kernel
set_option maxRecDepth 20000 in
theorem ggX9_isKink_X2_hasCrossing : GoodIn wsX9_isKink wsX2_hasCrossing := goodIn_r _ [7, 8, 30, 31, 32] (by decide +kernel) (by decide +kernel)
set_option maxRecDepth 20000 in
theorem gX9_isKink_X2_hasCrossing : GoodIn wsX9_isKink (wsV RX9 77 RX2 yX2_hasCrossing wsX2_hasCrossing) := goodIn_app (goodIn_of _ (by decide +kernel)) ggX9_isKink_X2_hasCrossing
set_option maxRecDepth 20000 in
theorem ggX9_isKink_X3_kinkEnd : GoodIn wsX9_isKink wsX3_kinkEnd := goodIn_r _ [12, 13, 14, 11, 15, 16, 17, 18, 6, 19, 20, 30, 31, 32] (by decide +kernel) (by decide +kernel)
set_option maxRecDepth 20000 in
theorem gX9_isKink_X3_kinkEnd : GoodIn wsX9_isKink (va_wsS RX9 106 yX3_kinkEnd wsX3_kinkEnd) := goodIn_app (goodIn_of _ (by decide +kernel)) ggX9_isKink_X3_kinkEnd
theorem dX9_isKink_0 : decode cX9_isKink 0 = .ok (.aload_n 0, 1) := by decide +kernel
theorem dX9_isKink_1 : decode cX9_isKink 1 = .ok (.getfield 26, 3) := by decide +kernel
theorem dX9_isKink_4 : decode cX9_isKink 4 = .ok (.iload_n 1, 1) := by decide +kernel
theorem dX9_isKink_5 : decode cX9_isKink 5 = .ok (.invokevirtual 77, 3) := by decide +kernel
theorem dX9_isKink_8 : decode cX9_isKink 8 = .ok (.ifCond .ne 6, 3) := by decide +kernel
theorem dX9_isKink_11 : decode cX9_isKink 11 = .ok (.ldc 58, 2) := by decide +kernel
theorem dX9_isKink_13 : decode cX9_isKink 13 = .ok (.ireturn, 1) := by decide +kernel
theorem dX9_isKink_14 : decode cX9_isKink 14 = .ok (.aload_n 0, 1) := by decide +kernel
theorem dX9_isKink_15 : decode cX9_isKink 15 = .ok (.getfield 26, 3) := by decide +kernel
theorem dX9_isKink_18 : decode cX9_isKink 18 = .ok (.iload_n 1, 1) := by decide +kernel
theorem dX9_isKink_19 : decode cX9_isKink 19 = .ok (.invokestatic 106, 3) := by decide +kernel
theorem dX9_isKink_22 : decode cX9_isKink 22 = .ok (.ifCond .ge 7, 3) := by decide +kernel
theorem dX9_isKink_25 : decode cX9_isKink 25 = .ok (.iconst 0, 1) := by decide +kernel
theorem dX9_isKink_26 : decode cX9_isKink 26 = .ok (.goto 4, 3) := by decide +kernel
theorem dX9_isKink_29 : decode cX9_isKink 29 = .ok (.iconst 1, 1) := by decide +kernel
theorem dX9_isKink_30 : decode cX9_isKink 30 = .ok (.ireturn, 1) := by decide +kernel
set_option maxRecDepth 20000 in
theorem ggX9_bigonPartner_X2_hasCrossing : GoodIn wsX9_bigonPartner wsX2_hasCrossing := goodIn_r _ [9, 10, 35, 36, 37] (by decide +kernel) (by decide +kernel)
set_option maxRecDepth 20000 in
theorem gX9_bigonPartner_X2_hasCrossing : GoodIn wsX9_bigonPartner (wsV RX9 77 RX2 yX2_hasCrossing wsX2_hasCrossing) := goodIn_app (goodIn_of _ (by decide +kernel)) ggX9_bigonPartner_X2_hasCrossing
set_option maxRecDepth 20000 in
theorem ggX9_bigonPartner_X3_bigonCorner : GoodIn wsX9_bigonPartner wsX3_bigonCorner := goodIn_r _ [14, 15, 16, 13, 17, 18, 19, 20, 21, 22, 23, 8, 24, 25, 35, 36, 37] (by decide +kernel) (by decide +kernel)
set_option maxRecDepth 20000 in
theorem gX9_bigonPartner_X3_bigonCorner : GoodIn wsX9_bigonPartner (va_wsS RX9 120 yX3_bigonCorner wsX3_bigonCorner) := goodIn_app (goodIn_of _ (by decide +kernel)) ggX9_bigonPartner_X3_bigonCorner
theorem dX9_bigonPartner_0 : decode cX9_bigonPartner 0 = .ok (.aload_n 0, 1) := by decide +kernel
theorem dX9_bigonPartner_1 : decode cX9_bigonPartner 1 = .ok (.getfield 26, 3) := by decide +kernel
theorem dX9_bigonPartner_4 : decode cX9_bigonPartner 4 = .ok (.iload_n 1, 1) := by decide +kernel
theorem dX9_bigonPartner_5 : decode cX9_bigonPartner 5 = .ok (.invokevirtual 77, 3) := by decide +kernel
theorem dX9_bigonPartner_8 : decode cX9_bigonPartner 8 = .ok (.ifCond .ne 6, 3) := by decide +kernel
theorem dX9_bigonPartner_11 : decode cX9_bigonPartner 11 = .ok (.ldc 58, 2) := by decide +kernel
theorem dX9_bigonPartner_13 : decode cX9_bigonPartner 13 = .ok (.ireturn, 1) := by decide +kernel
theorem dX9_bigonPartner_14 : decode cX9_bigonPartner 14 = .ok (.aload_n 0, 1) := by decide +kernel
theorem dX9_bigonPartner_15 : decode cX9_bigonPartner 15 = .ok (.getfield 26, 3) := by decide +kernel
theorem dX9_bigonPartner_18 : decode cX9_bigonPartner 18 = .ok (.getfield 74, 3) := by decide +kernel
theorem dX9_bigonPartner_21 : decode cX9_bigonPartner 21 = .ok (.istore_n 2, 1) := by decide +kernel
theorem dX9_bigonPartner_22 : decode cX9_bigonPartner 22 = .ok (.iconst 0, 1) := by decide +kernel
theorem dX9_bigonPartner_23 : decode cX9_bigonPartner 23 = .ok (.istore_n 3, 1) := by decide +kernel
theorem dX9_bigonPartner_24 : decode cX9_bigonPartner 24 = .ok (.iload_n 3, 1) := by decide +kernel
theorem dX9_bigonPartner_25 : decode cX9_bigonPartner 25 = .ok (.iload_n 2, 1) := by decide +kernel
theorem dX9_bigonPartner_26 : decode cX9_bigonPartner 26 = .ok (.if_icmp .ge 28, 3) := by decide +kernel
theorem dX9_bigonPartner_29 : decode cX9_bigonPartner 29 = .ok (.iload_n 3, 1) := by decide +kernel
theorem dX9_bigonPartner_30 : decode cX9_bigonPartner 30 = .ok (.iload_n 1, 1) := by decide +kernel
theorem dX9_bigonPartner_31 : decode cX9_bigonPartner 31 = .ok (.if_icmp .eq 17, 3) := by decide +kernel
theorem dX9_bigonPartner_34 : decode cX9_bigonPartner 34 = .ok (.aload_n 0, 1) := by decide +kernel
theorem dX9_bigonPartner_35 : decode cX9_bigonPartner 35 = .ok (.getfield 26, 3) := by decide +kernel
theorem dX9_bigonPartner_38 : decode cX9_bigonPartner 38 = .ok (.iload_n 1, 1) := by decide +kernel
theorem dX9_bigonPartner_39 : decode cX9_bigonPartner 39 = .ok (.iload_n 3, 1) := by decide +kernel
theorem dX9_bigonPartner_40 : decode cX9_bigonPartner 40 = .ok (.invokestatic 120, 3) := by decide +kernel
theorem dX9_bigonPartner_43 : decode cX9_bigonPartner 43 = .ok (.ifCond .lt 5, 3) := by decide +kernel
theorem dX9_bigonPartner_46 : decode cX9_bigonPartner 46 = .ok (.iload_n 3, 1) := by decide +kernel
theorem dX9_bigonPartner_47 : decode cX9_bigonPartner 47 = .ok (.ireturn, 1) := by decide +kernel
theorem dX9_bigonPartner_48 : decode cX9_bigonPartner 48 = .ok (.iinc 3 1, 3) := by decide +kernel
theorem dX9_bigonPartner_51 : decode cX9_bigonPartner 51 = .ok (.goto (-27), 3) := by decide +kernel
theorem dX9_bigonPartner_54 : decode cX9_bigonPartner 54 = .ok (.ldc 128, 2) := by decide +kernel
theorem dX9_bigonPartner_56 : decode cX9_bigonPartner 56 = .ok (.ireturn, 1) := by decide +kernel
set_option maxRecDepth 20000 in
theorem ggX9_componentCount_X7_count : GoodIn wsX9_componentCount wsX7_count := goodIn_r _ [6, 7, 8, 9, 10, 11, 12, 13, 14, 15, 16, 17, 5, 18, 19, 20, 21, 22, 23, 24, 25, 26, 27, 28, 29, 30, 40, 41, 42] (by decide +kernel) (by decide +kernel)
set_option maxRecDepth 20000 in
theorem gX9_componentCount_X7_count : GoodIn wsX9_componentCount (va_wsS RX9 129 yX7_count wsX7_count) := goodIn_app (goodIn_of _ (by decide +kernel)) ggX9_componentCount_X7_count
theorem dX9_componentCount_0 : decode cX9_componentCount 0 = .ok (.aload_n 0, 1) := by decide +kernel
theorem dX9_componentCount_1 : decode cX9_componentCount 1 = .ok (.getfield 26, 3) := by decide +kernel
theorem dX9_componentCount_4 : decode cX9_componentCount 4 = .ok (.invokestatic 129, 3) := by decide +kernel
theorem dX9_componentCount_7 : decode cX9_componentCount 7 = .ok (.aload_n 0, 1) := by decide +kernel
theorem dX9_componentCount_8 : decode cX9_componentCount 8 = .ok (.getfield 26, 3) := by decide +kernel
theorem dX9_componentCount_11 : decode cX9_componentCount 11 = .ok (.getfield 54, 3) := by decide +kernel
theorem dX9_componentCount_14 : decode cX9_componentCount 14 = .ok (.iadd, 1) := by decide +kernel
theorem dX9_componentCount_15 : decode cX9_componentCount 15 = .ok (.ireturn, 1) := by decide +kernel
set_option maxRecDepth 20000 in
theorem ggX9_partCount_X5_crossingParts : GoodIn wsX9_partCount wsX5_crossingParts := goodIn_r _ [6, 7, 8, 9, 10, 11, 12, 5, 13, 14, 15, 16, 17, 18, 19, 20, 21, 22, 23, 24, 25, 26, 27, 28, 29, 30, 31, 41, 42, 43] (by decide +kernel) (by decide +kernel)
set_option maxRecDepth 20000 in
theorem gX9_partCount_X5_crossingParts : GoodIn wsX9_partCount (va_wsS RX9 132 yX5_crossingParts wsX5_crossingParts) := goodIn_app (goodIn_of _ (by decide +kernel)) ggX9_partCount_X5_crossingParts
theorem dX9_partCount_0 : decode cX9_partCount 0 = .ok (.aload_n 0, 1) := by decide +kernel
theorem dX9_partCount_1 : decode cX9_partCount 1 = .ok (.getfield 26, 3) := by decide +kernel
theorem dX9_partCount_4 : decode cX9_partCount 4 = .ok (.invokestatic 132, 3) := by decide +kernel
theorem dX9_partCount_7 : decode cX9_partCount 7 = .ok (.aload_n 0, 1) := by decide +kernel
theorem dX9_partCount_8 : decode cX9_partCount 8 = .ok (.getfield 26, 3) := by decide +kernel
theorem dX9_partCount_11 : decode cX9_partCount 11 = .ok (.getfield 54, 3) := by decide +kernel
theorem dX9_partCount_14 : decode cX9_partCount 14 = .ok (.iadd, 1) := by decide +kernel
theorem dX9_partCount_15 : decode cX9_partCount 15 = .ok (.ireturn, 1) := by decide +kernel
set_option maxRecDepth 20000 in
theorem ggX9_faceCount_X5_endCycles : GoodIn wsX9_faceCount wsX5_endCycles := goodIn_r _ [6, 7, 8, 9, 10, 11, 12, 13, 14, 15, 16, 17, 5, 18, 19, 20, 21, 22, 23, 24, 25, 26, 27, 28, 29, 30, 40, 41, 42] (by decide +kernel) (by decide +kernel)
set_option maxRecDepth 20000 in
theorem gX9_faceCount_X5_endCycles : GoodIn wsX9_faceCount (va_wsS RX9 137 yX5_endCycles wsX5_endCycles) := goodIn_app (goodIn_of _ (by decide +kernel)) ggX9_faceCount_X5_endCycles
theorem dX9_faceCount_0 : decode cX9_faceCount 0 = .ok (.aload_n 0, 1) := by decide +kernel
theorem dX9_faceCount_1 : decode cX9_faceCount 1 = .ok (.getfield 26, 3) := by decide +kernel
theorem dX9_faceCount_4 : decode cX9_faceCount 4 = .ok (.invokestatic 137, 3) := by decide +kernel
theorem dX9_faceCount_7 : decode cX9_faceCount 7 = .ok (.iconst 2, 1) := by decide +kernel
theorem dX9_faceCount_8 : decode cX9_faceCount 8 = .ok (.aload_n 0, 1) := by decide +kernel
theorem dX9_faceCount_9 : decode cX9_faceCount 9 = .ok (.getfield 26, 3) := by decide +kernel
theorem dX9_faceCount_12 : decode cX9_faceCount 12 = .ok (.getfield 54, 3) := by decide +kernel
theorem dX9_faceCount_15 : decode cX9_faceCount 15 = .ok (.imul, 1) := by decide +kernel
theorem dX9_faceCount_16 : decode cX9_faceCount 16 = .ok (.iadd, 1) := by decide +kernel
theorem dX9_faceCount_17 : decode cX9_faceCount 17 = .ok (.ireturn, 1) := by decide +kernel
set_option maxRecDepth 20000 in
theorem ggX9_genus_X9_partCount : GoodIn wsX9_genus wsX9_partCount := goodIn_r _ [7, 1, 8, 9, 10, 11, 12, 13, 14, 6, 15, 16, 17, 18, 19, 20, 21, 22, 23, 24, 25, 26, 27, 28, 29, 30, 31, 32, 33, 34, 35, 36, 47, 48, 49, 50, 51, 52, 53, 54, 55, 56, 57, 58] (by decide +kernel) (by decide +kernel)
set_option maxRecDepth 20000 in
theorem gX9_genus_X9_partCount : GoodIn wsX9_genus (wsV RX9 140 RX9 yX9_partCount wsX9_partCount) := goodIn_app (goodIn_of _ (by decide +kernel)) ggX9_genus_X9_partCount
set_option maxRecDepth 20000 in
theorem ggX9_genus_X9_faceCount : GoodIn wsX9_genus wsX9_faceCount := goodIn_r _ [40, 1, 8, 41, 42, 11, 43, 21, 22, 23, 24, 25, 26, 14, 6, 15, 44, 45, 46, 19, 20, 27, 28, 29, 30, 31, 32, 33, 34, 35, 36, 47, 48, 49, 50, 51, 52, 53, 54, 55, 56, 57, 58] (by decide +kernel) (by decide +kernel)
set_option maxRecDepth 20000 in
theorem gX9_genus_X9_faceCount : GoodIn wsX9_genus (wsV RX9 143 RX9 yX9_faceCount wsX9_faceCount) := goodIn_app (goodIn_of _ (by decide +kernel)) ggX9_genus_X9_faceCount
theorem dX9_genus_0 : decode cX9_genus 0 = .ok (.aload_n 0, 1) := by decide +kernel
theorem dX9_genus_1 : decode cX9_genus 1 = .ok (.getfield 26, 3) := by decide +kernel
theorem dX9_genus_4 : decode cX9_genus 4 = .ok (.getfield 74, 3) := by decide +kernel
theorem dX9_genus_7 : decode cX9_genus 7 = .ok (.iconst 2, 1) := by decide +kernel
theorem dX9_genus_8 : decode cX9_genus 8 = .ok (.aload_n 0, 1) := by decide +kernel
theorem dX9_genus_9 : decode cX9_genus 9 = .ok (.invokevirtual 140, 3) := by decide +kernel
theorem dX9_genus_12 : decode cX9_genus 12 = .ok (.imul, 1) := by decide +kernel
theorem dX9_genus_13 : decode cX9_genus 13 = .ok (.iadd, 1) := by decide +kernel
theorem dX9_genus_14 : decode cX9_genus 14 = .ok (.aload_n 0, 1) := by decide +kernel
theorem dX9_genus_15 : decode cX9_genus 15 = .ok (.invokevirtual 143, 3) := by decide +kernel
theorem dX9_genus_18 : decode cX9_genus 18 = .ok (.isub, 1) := by decide +kernel
theorem dX9_genus_19 : decode cX9_genus 19 = .ok (.iconst 2, 1) := by decide +kernel
theorem dX9_genus_20 : decode cX9_genus 20 = .ok (.idiv, 1) := by decide +kernel
theorem dX9_genus_21 : decode cX9_genus 21 = .ok (.ireturn, 1) := by decide +kernel
set_option maxRecDepth 20000 in
theorem ggX9_isAlternating_X5_alternates : GoodIn wsX9_isAlternating wsX5_alternates := goodIn_r _ [5, 6, 7, 8, 9, 10, 11, 12, 13, 14, 15, 16, 17, 18, 19, 20, 21, 31, 32, 33] (by decide +kernel) (by decide +kernel)
set_option maxRecDepth 20000 in
theorem gX9_isAlternating_X5_alternates : GoodIn wsX9_isAlternating (va_wsS RX9 146 yX5_alternates wsX5_alternates) := goodIn_app (goodIn_of _ (by decide +kernel)) ggX9_isAlternating_X5_alternates
theorem dX9_isAlternating_0 : decode cX9_isAlternating 0 = .ok (.aload_n 0, 1) := by decide +kernel
theorem dX9_isAlternating_1 : decode cX9_isAlternating 1 = .ok (.getfield 26, 3) := by decide +kernel
theorem dX9_isAlternating_4 : decode cX9_isAlternating 4 = .ok (.invokestatic 146, 3) := by decide +kernel
theorem dX9_isAlternating_7 : decode cX9_isAlternating 7 = .ok (.ifCond .eq 7, 3) := by decide +kernel
theorem dX9_isAlternating_10 : decode cX9_isAlternating 10 = .ok (.iconst 1, 1) := by decide +kernel
theorem dX9_isAlternating_11 : decode cX9_isAlternating 11 = .ok (.goto 4, 3) := by decide +kernel
theorem dX9_isAlternating_14 : decode cX9_isAlternating 14 = .ok (.iconst 0, 1) := by decide +kernel
theorem dX9_isAlternating_15 : decode cX9_isAlternating 15 = .ok (.ireturn, 1) := by decide +kernel
set_option maxRecDepth 20000 in
theorem ggX9_crossingSign_X2_hasCrossing : GoodIn wsX9_crossingSign wsX2_hasCrossing := goodIn_r _ [7, 8, 50, 51, 52] (by decide +kernel) (by decide +kernel)
set_option maxRecDepth 20000 in
theorem gX9_crossingSign_X2_hasCrossing : GoodIn wsX9_crossingSign (wsV RX9 77 RX2 yX2_hasCrossing wsX2_hasCrossing) := goodIn_app (goodIn_of _ (by decide +kernel)) ggX9_crossingSign_X2_hasCrossing
set_option maxRecDepth 20000 in
theorem ggX9_crossingSign_X7_enteredEnds : GoodIn wsX9_crossingSign wsX7_enteredEnds := goodIn_r _ [12, 13, 14, 15, 6, 16, 17, 18, 19, 20, 8, 21, 22, 23, 24, 25, 26, 27, 28, 29, 30, 31, 32, 33, 34, 11, 35, 36, 37, 50, 51, 52] (by decide +kernel) (by decide +kernel)
set_option maxRecDepth 20000 in
theorem gX9_crossingSign_X7_enteredEnds : GoodIn wsX9_crossingSign (va_wsS RX9 92 yX7_enteredEnds wsX7_enteredEnds) := goodIn_app (goodIn_of _ (by decide +kernel)) ggX9_crossingSign_X7_enteredEnds
set_option maxRecDepth 20000 in
theorem ggX9_crossingSign_X7_sign : GoodIn wsX9_crossingSign wsX7_sign := goodIn_r _ [40, 30, 31, 32] (by decide +kernel) (by decide +kernel)
set_option maxRecDepth 20000 in
theorem gX9_crossingSign_X7_sign : GoodIn wsX9_crossingSign (va_wsS RX9 98 yX7_sign wsX7_sign) := goodIn_app (goodIn_of _ (by decide +kernel)) ggX9_crossingSign_X7_sign
theorem dX9_crossingSign_0 : decode cX9_crossingSign 0 = .ok (.aload_n 0, 1) := by decide +kernel
theorem dX9_crossingSign_1 : decode cX9_crossingSign 1 = .ok (.getfield 26, 3) := by decide +kernel
theorem dX9_crossingSign_4 : decode cX9_crossingSign 4 = .ok (.iload_n 1, 1) := by decide +kernel
theorem dX9_crossingSign_5 : decode cX9_crossingSign 5 = .ok (.invokevirtual 77, 3) := by decide +kernel
theorem dX9_crossingSign_8 : decode cX9_crossingSign 8 = .ok (.ifCond .ne 6, 3) := by decide +kernel
theorem dX9_crossingSign_11 : decode cX9_crossingSign 11 = .ok (.ldc 58, 2) := by decide +kernel
theorem dX9_crossingSign_13 : decode cX9_crossingSign 13 = .ok (.ireturn, 1) := by decide +kernel
theorem dX9_crossingSign_14 : decode cX9_crossingSign 14 = .ok (.iload_n 1, 1) := by decide +kernel
theorem dX9_crossingSign_15 : decode cX9_crossingSign 15 = .ok (.aload_n 0, 1) := by decide +kernel
theorem dX9_crossingSign_16 : decode cX9_crossingSign 16 = .ok (.getfield 26, 3) := by decide +kernel
theorem dX9_crossingSign_19 : decode cX9_crossingSign 19 = .ok (.invokestatic 92, 3) := by decide +kernel
theorem dX9_crossingSign_22 : decode cX9_crossingSign 22 = .ok (.invokestatic 98, 3) := by decide +kernel
theorem dX9_crossingSign_25 : decode cX9_crossingSign 25 = .ok (.ireturn, 1) := by decide +kernel
set_option maxRecDepth 20000 in
theorem ggX9_writhe_X7_signSum : GoodIn wsX9_writhe wsX7_signSum := goodIn_r _ [5, 6, 7, 8, 4, 9, 10, 11, 12, 13, 14, 15, 16, 17, 18, 19, 20, 21, 22, 23, 24, 25, 26, 27, 28, 29, 30, 31, 32, 33, 34, 35, 36, 37, 38, 39, 49, 50, 51] (by decide +kernel) (by decide +kernel)
set_option maxRecDepth 20000 in
theorem gX9_writhe_X7_signSum : GoodIn wsX9_writhe (va_wsS RX9 103 yX7_signSum wsX7_signSum) := goodIn_app (goodIn_of _ (by decide +kernel)) ggX9_writhe_X7_signSum
theorem dX9_writhe_0 : decode cX9_writhe 0 = .ok (.aload_n 0, 1) := by decide +kernel
theorem dX9_writhe_1 : decode cX9_writhe 1 = .ok (.getfield 26, 3) := by decide +kernel
theorem dX9_writhe_4 : decode cX9_writhe 4 = .ok (.invokestatic 103, 3) := by decide +kernel
theorem dX9_writhe_7 : decode cX9_writhe 7 = .ok (.ireturn, 1) := by decide +kernel
set_option maxRecDepth 20000 in
theorem ggX9_stateLoops_X0_loops : GoodIn wsX9_stateLoops wsX0_loops := goodIn_r _ [9, 10, 11, 12, 8, 13, 14, 15, 16, 17, 18, 19, 20, 21, 22, 23, 24, 25, 26, 27, 28, 29, 30, 31, 32, 33, 34, 35, 36, 37, 38, 39, 40, 41, 42, 43, 44, 57, 58, 59, 60, 61, 54, 55, 56] (by decide +kernel) (by decide +kernel)
set_option maxRecDepth 20000 in
theorem gX9_stateLoops_X0_loops : GoodIn wsX9_stateLoops (wsV RX9 150 RX0 yX0_loops wsX0_loops) := goodIn_app (goodIn_of _ (by decide +kernel)) ggX9_stateLoops_X0_loops
theorem dX9_stateLoops_0 : decode cX9_stateLoops 0 = .ok (.iload_n 1, 1) := by decide +kernel
theorem dX9_stateLoops_1 : decode cX9_stateLoops 1 = .ok (.ifCond .lt 16, 3) := by decide +kernel
theorem dX9_stateLoops_4 : decode cX9_stateLoops 4 = .ok (.iload_n 1, 1) := by decide +kernel
theorem dX9_stateLoops_5 : decode cX9_stateLoops 5 = .ok (.iconst 1, 1) := by decide +kernel
theorem dX9_stateLoops_6 : decode cX9_stateLoops 6 = .ok (.aload_n 0, 1) := by decide +kernel
theorem dX9_stateLoops_7 : decode cX9_stateLoops 7 = .ok (.getfield 26, 3) := by decide +kernel
theorem dX9_stateLoops_10 : decode cX9_stateLoops 10 = .ok (.getfield 74, 3) := by decide +kernel
theorem dX9_stateLoops_13 : decode cX9_stateLoops 13 = .ok (.ishl, 1) := by decide +kernel
theorem dX9_stateLoops_14 : decode cX9_stateLoops 14 = .ok (.if_icmp .lt 6, 3) := by decide +kernel
theorem dX9_stateLoops_17 : decode cX9_stateLoops 17 = .ok (.ldc 58, 2) := by decide +kernel
theorem dX9_stateLoops_19 : decode cX9_stateLoops 19 = .ok (.ireturn, 1) := by decide +kernel
theorem dX9_stateLoops_20 : decode cX9_stateLoops 20 = .ok (.aload_n 0, 1) := by decide +kernel
theorem dX9_stateLoops_21 : decode cX9_stateLoops 21 = .ok (.getfield 43, 3) := by decide +kernel
theorem dX9_stateLoops_24 : decode cX9_stateLoops 24 = .ok (.aload_n 0, 1) := by decide +kernel
theorem dX9_stateLoops_25 : decode cX9_stateLoops 25 = .ok (.getfield 26, 3) := by decide +kernel
theorem dX9_stateLoops_28 : decode cX9_stateLoops 28 = .ok (.iload_n 1, 1) := by decide +kernel
theorem dX9_stateLoops_29 : decode cX9_stateLoops 29 = .ok (.invokevirtual 150, 3) := by decide +kernel
theorem dX9_stateLoops_32 : decode cX9_stateLoops 32 = .ok (.ireturn, 1) := by decide +kernel
set_option maxRecDepth 20000 in
theorem ggX9_coefficient_X9_isExponent : GoodIn wsX9_coefficient wsX9_isExponent := goodIn_r _ [7] (by decide +kernel) (by decide +kernel)
set_option maxRecDepth 20000 in
theorem gX9_coefficient_X9_isExponent : GoodIn wsX9_coefficient (va_wsS RX9 153 yX9_isExponent wsX9_isExponent) := goodIn_app (goodIn_of _ (by decide +kernel)) ggX9_coefficient_X9_isExponent
set_option maxRecDepth 20000 in
theorem ggX9_coefficient_X0_prepare : GoodIn wsX9_coefficient wsX0_prepare := goodIn_r _ [12, 13, 14, 15, 16, 17, 11, 18, 19, 20, 21, 22, 23, 24, 25, 26, 27, 28, 29, 30, 31, 32, 33, 34, 35, 36, 37, 38, 39, 40, 41, 42, 43, 44, 45, 46, 6, 47, 48, 49, 50, 51, 52, 53, 54, 55, 56, 57, 58, 59, 60, 61, 62, 63, 64, 65, 66, 67, 68, 69, 70, 71, 72, 73, 74, 75, 76, 77, 78, 79, 80, 81, 92, 93, 94, 95, 96, 97, 98, 99] (by decide +kernel) (by decide +kernel)
set_option maxRecDepth 20000 in
theorem gX9_coefficient_X0_prepare : GoodIn wsX9_coefficient (wsV RX9 156 RX0 yX0_prepare wsX0_prepare) := goodIn_app (goodIn_of _ (by decide +kernel)) ggX9_coefficient_X0_prepare
set_option maxRecDepth 20000 in
theorem ggX9_coefficient_X0_at : GoodIn wsX9_coefficient wsX0_at := goodIn_r _ [77, 68, 92, 93, 94, 95, 96] (by decide +kernel) (by decide +kernel)
set_option maxRecDepth 20000 in
theorem gX9_coefficient_X0_at : GoodIn wsX9_coefficient (wsV RX9 159 RX0 yX0_at wsX0_at) := goodIn_app (goodIn_of _ (by decide +kernel)) ggX9_coefficient_X0_at
theorem dX9_coefficient_0 : decode cX9_coefficient 0 = .ok (.iload_n 1, 1) := by decide +kernel
theorem dX9_coefficient_1 : decode cX9_coefficient 1 = .ok (.invokestatic 153, 3) := by decide +kernel
theorem dX9_coefficient_4 : decode cX9_coefficient 4 = .ok (.ifCond .ne 6, 3) := by decide +kernel
theorem dX9_coefficient_7 : decode cX9_coefficient 7 = .ok (.ldc 58, 2) := by decide +kernel
theorem dX9_coefficient_9 : decode cX9_coefficient 9 = .ok (.ireturn, 1) := by decide +kernel
theorem dX9_coefficient_10 : decode cX9_coefficient 10 = .ok (.aload_n 0, 1) := by decide +kernel
theorem dX9_coefficient_11 : decode cX9_coefficient 11 = .ok (.getfield 43, 3) := by decide +kernel
theorem dX9_coefficient_14 : decode cX9_coefficient 14 = .ok (.aload_n 0, 1) := by decide +kernel
theorem dX9_coefficient_15 : decode cX9_coefficient 15 = .ok (.getfield 26, 3) := by decide +kernel
theorem dX9_coefficient_18 : decode cX9_coefficient 18 = .ok (.invokevirtual 156, 3) := by decide +kernel
theorem dX9_coefficient_21 : decode cX9_coefficient 21 = .ok (.aload_n 0, 1) := by decide +kernel
theorem dX9_coefficient_22 : decode cX9_coefficient 22 = .ok (.getfield 43, 3) := by decide +kernel
theorem dX9_coefficient_25 : decode cX9_coefficient 25 = .ok (.iload_n 1, 1) := by decide +kernel
theorem dX9_coefficient_26 : decode cX9_coefficient 26 = .ok (.invokevirtual 159, 3) := by decide +kernel
theorem dX9_coefficient_29 : decode cX9_coefficient 29 = .ok (.ireturn, 1) := by decide +kernel
set_option maxRecDepth 20000 in
theorem ggX9_normalizedCoefficient_X9_isExponent : GoodIn wsX9_normalizedCoefficient wsX9_isExponent := goodIn_r _ [7] (by decide +kernel) (by decide +kernel)
set_option maxRecDepth 20000 in
theorem gX9_normalizedCoefficient_X9_isExponent : GoodIn wsX9_normalizedCoefficient (va_wsS RX9 153 yX9_isExponent wsX9_isExponent) := goodIn_app (goodIn_of _ (by decide +kernel)) ggX9_normalizedCoefficient_X9_isExponent
set_option maxRecDepth 20000 in
theorem ggX9_normalizedCoefficient_X0_prepare : GoodIn wsX9_normalizedCoefficient wsX0_prepare := goodIn_r _ [12, 13, 14, 15, 16, 17, 11, 18, 19, 20, 21, 22, 23, 24, 25, 26, 27, 28, 29, 30, 31, 32, 33, 34, 35, 36, 37, 38, 39, 40, 41, 42, 43, 44, 45, 46, 6, 47, 48, 49, 50, 51, 52, 53, 54, 55, 56, 57, 58, 59, 60, 61, 62, 63, 64, 65, 66, 67, 68, 69, 70, 71, 72, 73, 74, 75, 76, 77, 78, 79, 80, 81, 111, 112, 113, 114, 115, 116, 117, 118] (by decide +kernel) (by decide +kernel)
set_option maxRecDepth 20000 in
theorem gX9_normalizedCoefficient_X0_prepare : GoodIn wsX9_normalizedCoefficient (wsV RX9 156 RX0 yX0_prepare wsX0_prepare) := goodIn_app (goodIn_of _ (by decide +kernel)) ggX9_normalizedCoefficient_X0_prepare
set_option maxRecDepth 20000 in
theorem ggX9_normalizedCoefficient_X7_signSum : GoodIn wsX9_normalizedCoefficient wsX7_signSum := goodIn_r _ [85, 86, 87, 88, 84, 89, 90, 91, 92, 23, 93, 30, 31, 32, 33, 34, 25, 26, 27, 28, 29, 94, 21, 22, 24, 46, 6, 47, 95, 96, 97, 52, 53, 98, 99, 100, 116, 117, 118] (by decide +kernel) (by decide +kernel)
set_option maxRecDepth 20000 in
theorem gX9_normalizedCoefficient_X7_signSum : GoodIn wsX9_normalizedCoefficient (va_wsS RX9 103 yX7_signSum wsX7_signSum) := goodIn_app (goodIn_of _ (by decide +kernel)) ggX9_normalizedCoefficient_X7_signSum
set_option maxRecDepth 20000 in
theorem ggX9_normalizedCoefficient_X0_at : GoodIn wsX9_normalizedCoefficient wsX0_at := goodIn_r _ [77, 68, 111, 112, 113, 114, 115] (by decide +kernel) (by decide +kernel)
set_option maxRecDepth 20000 in
theorem gX9_normalizedCoefficient_X0_at : GoodIn wsX9_normalizedCoefficient (wsV RX9 159 RX0 yX0_at wsX0_at) := goodIn_app (goodIn_of _ (by decide +kernel)) ggX9_normalizedCoefficient_X0_at
theorem dX9_normalizedCoefficient_0 : decode cX9_normalizedCoefficient 0 = .ok (.iload_n 1, 1) := by decide +kernel
theorem dX9_normalizedCoefficient_1 : decode cX9_normalizedCoefficient 1 = .ok (.invokestatic 153, 3) := by decide +kernel
theorem dX9_normalizedCoefficient_4 : decode cX9_normalizedCoefficient 4 = .ok (.ifCond .ne 6, 3) := by decide +kernel
theorem dX9_normalizedCoefficient_7 : decode cX9_normalizedCoefficient 7 = .ok (.ldc 58, 2) := by decide +kernel
theorem dX9_normalizedCoefficient_9 : decode cX9_normalizedCoefficient 9 = .ok (.ireturn, 1) := by decide +kernel
theorem dX9_normalizedCoefficient_10 : decode cX9_normalizedCoefficient 10 = .ok (.aload_n 0, 1) := by decide +kernel
theorem dX9_normalizedCoefficient_11 : decode cX9_normalizedCoefficient 11 = .ok (.getfield 43, 3) := by decide +kernel
theorem dX9_normalizedCoefficient_14 : decode cX9_normalizedCoefficient 14 = .ok (.aload_n 0, 1) := by decide +kernel
theorem dX9_normalizedCoefficient_15 : decode cX9_normalizedCoefficient 15 = .ok (.getfield 26, 3) := by decide +kernel
theorem dX9_normalizedCoefficient_18 : decode cX9_normalizedCoefficient 18 = .ok (.invokevirtual 156, 3) := by decide +kernel
theorem dX9_normalizedCoefficient_21 : decode cX9_normalizedCoefficient 21 = .ok (.aload_n 0, 1) := by decide +kernel
theorem dX9_normalizedCoefficient_22 : decode cX9_normalizedCoefficient 22 = .ok (.getfield 26, 3) := by decide +kernel
theorem dX9_normalizedCoefficient_25 : decode cX9_normalizedCoefficient 25 = .ok (.invokestatic 103, 3) := by decide +kernel
theorem dX9_normalizedCoefficient_28 : decode cX9_normalizedCoefficient 28 = .ok (.istore_n 2, 1) := by decide +kernel
theorem dX9_normalizedCoefficient_29 : decode cX9_normalizedCoefficient 29 = .ok (.aload_n 0, 1) := by decide +kernel
theorem dX9_normalizedCoefficient_30 : decode cX9_normalizedCoefficient 30 = .ok (.getfield 43, 3) := by decide +kernel
theorem dX9_normalizedCoefficient_33 : decode cX9_normalizedCoefficient 33 = .ok (.iload_n 1, 1) := by decide +kernel
theorem dX9_normalizedCoefficient_34 : decode cX9_normalizedCoefficient 34 = .ok (.iconst 3, 1) := by decide +kernel
theorem dX9_normalizedCoefficient_35 : decode cX9_normalizedCoefficient 35 = .ok (.iload_n 2, 1) := by decide +kernel
theorem dX9_normalizedCoefficient_36 : decode cX9_normalizedCoefficient 36 = .ok (.imul, 1) := by decide +kernel
theorem dX9_normalizedCoefficient_37 : decode cX9_normalizedCoefficient 37 = .ok (.iadd, 1) := by decide +kernel
theorem dX9_normalizedCoefficient_38 : decode cX9_normalizedCoefficient 38 = .ok (.invokevirtual 159, 3) := by decide +kernel
theorem dX9_normalizedCoefficient_41 : decode cX9_normalizedCoefficient 41 = .ok (.istore_n 3, 1) := by decide +kernel
theorem dX9_normalizedCoefficient_42 : decode cX9_normalizedCoefficient 42 = .ok (.iload_n 2, 1) := by decide +kernel
theorem dX9_normalizedCoefficient_43 : decode cX9_normalizedCoefficient 43 = .ok (.iconst 1, 1) := by decide +kernel
theorem dX9_normalizedCoefficient_44 : decode cX9_normalizedCoefficient 44 = .ok (.iand, 1) := by decide +kernel
theorem dX9_normalizedCoefficient_45 : decode cX9_normalizedCoefficient 45 = .ok (.ifCond .ne 7, 3) := by decide +kernel
theorem dX9_normalizedCoefficient_48 : decode cX9_normalizedCoefficient 48 = .ok (.iload_n 3, 1) := by decide +kernel
theorem dX9_normalizedCoefficient_49 : decode cX9_normalizedCoefficient 49 = .ok (.goto 5, 3) := by decide +kernel
theorem dX9_normalizedCoefficient_52 : decode cX9_normalizedCoefficient 52 = .ok (.iload_n 3, 1) := by decide +kernel
theorem dX9_normalizedCoefficient_53 : decode cX9_normalizedCoefficient 53 = .ok (.ineg, 1) := by decide +kernel
theorem dX9_normalizedCoefficient_54 : decode cX9_normalizedCoefficient 54 = .ok (.ireturn, 1) := by decide +kernel
set_option maxRecDepth 20000 in
theorem ggX9_lowestExponent_X0_prepare : GoodIn wsX9_lowestExponent wsX0_prepare := goodIn_r _ [7, 8, 9, 10, 11, 12, 6, 13, 14, 15, 16, 17, 18, 19, 20, 21, 22, 23, 24, 25, 26, 27, 28, 29, 30, 31, 32, 33, 34, 35, 36, 37, 38, 39, 40, 41, 42, 43, 44, 45, 46, 47, 48, 49, 50, 51, 52, 53, 54, 55, 56, 57, 58, 59, 60, 61, 62, 63, 64, 65, 66, 67, 68, 69, 70, 71, 72, 73, 74, 75, 76, 77, 92, 93, 94, 95, 96, 97, 98, 99] (by decide +kernel) (by decide +kernel)
set_option maxRecDepth 20000 in
theorem gX9_lowestExponent_X0_prepare : GoodIn wsX9_lowestExponent (wsV RX9 156 RX0 yX0_prepare wsX0_prepare) := goodIn_app (goodIn_of _ (by decide +kernel)) ggX9_lowestExponent_X0_prepare
set_option maxRecDepth 20000 in
theorem ggX9_lowestExponent_X0_lowest : GoodIn wsX9_lowestExponent wsX0_lowest := goodIn_r _ [81, 82, 70, 71, 72, 6, 73, 64, 92, 93, 94, 95, 96] (by decide +kernel) (by decide +kernel)
set_option maxRecDepth 20000 in
theorem gX9_lowestExponent_X0_lowest : GoodIn wsX9_lowestExponent (wsV RX9 162 RX0 yX0_lowest wsX0_lowest) := goodIn_app (goodIn_of _ (by decide +kernel)) ggX9_lowestExponent_X0_lowest
theorem dX9_lowestExponent_0 : decode cX9_lowestExponent 0 = .ok (.aload_n 0, 1) := by decide +kernel
theorem dX9_lowestExponent_1 : decode cX9_lowestExponent 1 = .ok (.getfield 43, 3) := by decide +kernel
theorem dX9_lowestExponent_4 : decode cX9_lowestExponent 4 = .ok (.aload_n 0, 1) := by decide +kernel
theorem dX9_lowestExponent_5 : decode cX9_lowestExponent 5 = .ok (.getfield 26, 3) := by decide +kernel
theorem dX9_lowestExponent_8 : decode cX9_lowestExponent 8 = .ok (.invokevirtual 156, 3) := by decide +kernel
theorem dX9_lowestExponent_11 : decode cX9_lowestExponent 11 = .ok (.aload_n 0, 1) := by decide +kernel
theorem dX9_lowestExponent_12 : decode cX9_lowestExponent 12 = .ok (.getfield 43, 3) := by decide +kernel
theorem dX9_lowestExponent_15 : decode cX9_lowestExponent 15 = .ok (.invokevirtual 162, 3) := by decide +kernel
theorem dX9_lowestExponent_18 : decode cX9_lowestExponent 18 = .ok (.ireturn, 1) := by decide +kernel
set_option maxRecDepth 20000 in
theorem ggX9_highestExponent_X0_prepare : GoodIn wsX9_highestExponent wsX0_prepare := goodIn_r _ [7, 8, 9, 10, 11, 12, 6, 13, 14, 15, 16, 17, 18, 19, 20, 21, 22, 23, 24, 25, 26, 27, 28, 29, 30, 31, 32, 33, 34, 35, 36, 37, 38, 39, 40, 41, 42, 43, 44, 45, 46, 47, 48, 49, 50, 51, 52, 53, 54, 55, 56, 57, 58, 59, 60, 61, 62, 63, 64, 65, 66, 67, 68, 69, 70, 71, 72, 73, 74, 75, 76, 77, 92, 93, 94, 95, 96, 97, 98, 99] (by decide +kernel) (by decide +kernel)
set_option maxRecDepth 20000 in
theorem gX9_highestExponent_X0_prepare : GoodIn wsX9_highestExponent (wsV RX9 156 RX0 yX0_prepare wsX0_prepare) := goodIn_app (goodIn_of _ (by decide +kernel)) ggX9_highestExponent_X0_prepare
set_option maxRecDepth 20000 in
theorem ggX9_highestExponent_X0_highest : GoodIn wsX9_highestExponent wsX0_highest := goodIn_r _ [81, 82, 70, 71, 72, 6, 73, 64, 92, 93, 94, 95, 96] (by decide +kernel) (by decide +kernel)
set_option maxRecDepth 20000 in
theorem gX9_highestExponent_X0_highest : GoodIn wsX9_highestExponent (wsV RX9 165 RX0 yX0_highest wsX0_highest) := goodIn_app (goodIn_of _ (by decide +kernel)) ggX9_highestExponent_X0_highest
theorem dX9_highestExponent_0 : decode cX9_highestExponent 0 = .ok (.aload_n 0, 1) := by decide +kernel
theorem dX9_highestExponent_1 : decode cX9_highestExponent 1 = .ok (.getfield 43, 3) := by decide +kernel
theorem dX9_highestExponent_4 : decode cX9_highestExponent 4 = .ok (.aload_n 0, 1) := by decide +kernel
theorem dX9_highestExponent_5 : decode cX9_highestExponent 5 = .ok (.getfield 26, 3) := by decide +kernel
theorem dX9_highestExponent_8 : decode cX9_highestExponent 8 = .ok (.invokevirtual 156, 3) := by decide +kernel
theorem dX9_highestExponent_11 : decode cX9_highestExponent 11 = .ok (.aload_n 0, 1) := by decide +kernel
theorem dX9_highestExponent_12 : decode cX9_highestExponent 12 = .ok (.getfield 43, 3) := by decide +kernel
theorem dX9_highestExponent_15 : decode cX9_highestExponent 15 = .ok (.invokevirtual 165, 3) := by decide +kernel
theorem dX9_highestExponent_18 : decode cX9_highestExponent 18 = .ok (.ireturn, 1) := by decide +kernel
set_option maxRecDepth 20000 in
theorem ggX9_determinant_X0_prepare : GoodIn wsX9_determinant wsX0_prepare := goodIn_r _ [7, 8, 9, 10, 11, 12, 6, 13, 14, 15, 16, 17, 18, 19, 20, 21, 22, 23, 24, 25, 26, 27, 28, 29, 30, 31, 32, 33, 34, 35, 36, 37, 38, 39, 40, 41, 42, 43, 44, 45, 46, 47, 48, 49, 50, 51, 52, 53, 54, 55, 56, 57, 58, 59, 60, 61, 62, 63, 64, 65, 66, 67, 68, 69, 70, 71, 72, 73, 74, 75, 76, 77, 100, 101, 102, 103, 104, 105, 106, 107] (by decide +kernel) (by decide +kernel)
set_option maxRecDepth 20000 in
theorem gX9_determinant_X0_prepare : GoodIn wsX9_determinant (wsV RX9 156 RX0 yX0_prepare wsX0_prepare) := goodIn_app (goodIn_of _ (by decide +kernel)) ggX9_determinant_X0_prepare
set_option maxRecDepth 20000 in
theorem ggX9_determinant_X0_alternatingSum : GoodIn wsX9_determinant wsX0_alternatingSum := goodIn_r _ [81, 82, 83, 84, 85, 86, 87, 88, 89, 6, 90, 70, 71, 72, 73, 64, 100, 101, 102, 103, 104] (by decide +kernel) (by decide +kernel)
set_option maxRecDepth 20000 in
theorem gX9_determinant_X0_alternatingSum : GoodIn wsX9_determinant (wsV RX9 168 RX0 yX0_alternatingSum wsX0_alternatingSum) := goodIn_app (goodIn_of _ (by decide +kernel)) ggX9_determinant_X0_alternatingSum
theorem dX9_determinant_0 : decode cX9_determinant 0 = .ok (.aload_n 0, 1) := by decide +kernel
theorem dX9_determinant_1 : decode cX9_determinant 1 = .ok (.getfield 43, 3) := by decide +kernel
theorem dX9_determinant_4 : decode cX9_determinant 4 = .ok (.aload_n 0, 1) := by decide +kernel
theorem dX9_determinant_5 : decode cX9_determinant 5 = .ok (.getfield 26, 3) := by decide +kernel
theorem dX9_determinant_8 : decode cX9_determinant 8 = .ok (.invokevirtual 156, 3) := by decide +kernel
theorem dX9_determinant_11 : decode cX9_determinant 11 = .ok (.aload_n 0, 1) := by decide +kernel
theorem dX9_determinant_12 : decode cX9_determinant 12 = .ok (.getfield 43, 3) := by decide +kernel
theorem dX9_determinant_15 : decode cX9_determinant 15 = .ok (.invokevirtual 168, 3) := by decide +kernel
theorem dX9_determinant_18 : decode cX9_determinant 18 = .ok (.ireturn, 1) := by decide +kernel
set_option maxRecDepth 20000 in
theorem ggX9_colouringDimension_X1_dimension : GoodIn wsX9_colouringDimension wsX1_dimension := goodIn_r _ [8, 9, 10, 11, 12, 13, 7, 14, 15, 16, 17, 18, 19, 20, 21, 22, 23, 24, 25, 26, 27, 28, 29, 30, 31, 32, 33, 34, 35, 36, 37, 38, 39, 40, 41, 42, 43, 44, 45, 46, 47, 48, 49, 50, 51, 52, 53, 54, 55, 56, 57, 58, 59, 60, 61, 62, 63, 64, 65, 66, 67, 68, 69, 70, 71, 72, 73, 74, 75, 76, 77, 78, 79, 80, 81, 82, 83, 84, 85, 86, 87, 97, 98, 99, 100, 101] (by decide +kernel) (by decide +kernel)
set_option maxRecDepth 20000 in
theorem gX9_colouringDimension_X1_dimension : GoodIn wsX9_colouringDimension (wsV RX9 171 RX1 yX1_dimension wsX1_dimension) := goodIn_app (goodIn_of _ (by decide +kernel)) ggX9_colouringDimension_X1_dimension
theorem dX9_colouringDimension_0 : decode cX9_colouringDimension 0 = .ok (.iload_n 1, 1) := by decide +kernel
theorem dX9_colouringDimension_1 : decode cX9_colouringDimension 1 = .ok (.iconst 3, 1) := by decide +kernel
theorem dX9_colouringDimension_2 : decode cX9_colouringDimension 2 = .ok (.if_icmp .eq 23, 3) := by decide +kernel
theorem dX9_colouringDimension_5 : decode cX9_colouringDimension 5 = .ok (.iload_n 1, 1) := by decide +kernel
theorem dX9_colouringDimension_6 : decode cX9_colouringDimension 6 = .ok (.iconst 5, 1) := by decide +kernel
theorem dX9_colouringDimension_7 : decode cX9_colouringDimension 7 = .ok (.if_icmp .eq 18, 3) := by decide +kernel
theorem dX9_colouringDimension_10 : decode cX9_colouringDimension 10 = .ok (.iload_n 1, 1) := by decide +kernel
theorem dX9_colouringDimension_11 : decode cX9_colouringDimension 11 = .ok (.bipush 7, 2) := by decide +kernel
theorem dX9_colouringDimension_13 : decode cX9_colouringDimension 13 = .ok (.if_icmp .eq 12, 3) := by decide +kernel
theorem dX9_colouringDimension_16 : decode cX9_colouringDimension 16 = .ok (.iload_n 1, 1) := by decide +kernel
theorem dX9_colouringDimension_17 : decode cX9_colouringDimension 17 = .ok (.bipush 11, 2) := by decide +kernel
theorem dX9_colouringDimension_19 : decode cX9_colouringDimension 19 = .ok (.if_icmp .eq 6, 3) := by decide +kernel
theorem dX9_colouringDimension_22 : decode cX9_colouringDimension 22 = .ok (.ldc 58, 2) := by decide +kernel
theorem dX9_colouringDimension_24 : decode cX9_colouringDimension 24 = .ok (.ireturn, 1) := by decide +kernel
theorem dX9_colouringDimension_25 : decode cX9_colouringDimension 25 = .ok (.aload_n 0, 1) := by decide +kernel
theorem dX9_colouringDimension_26 : decode cX9_colouringDimension 26 = .ok (.getfield 50, 3) := by decide +kernel
theorem dX9_colouringDimension_29 : decode cX9_colouringDimension 29 = .ok (.aload_n 0, 1) := by decide +kernel
theorem dX9_colouringDimension_30 : decode cX9_colouringDimension 30 = .ok (.getfield 26, 3) := by decide +kernel
theorem dX9_colouringDimension_33 : decode cX9_colouringDimension 33 = .ok (.iload_n 1, 1) := by decide +kernel
theorem dX9_colouringDimension_34 : decode cX9_colouringDimension 34 = .ok (.invokevirtual 171, 3) := by decide +kernel
theorem dX9_colouringDimension_37 : decode cX9_colouringDimension 37 = .ok (.ireturn, 1) := by decide +kernel
set_option maxRecDepth 20000 in
theorem ggX9_undo_X6_fetch : GoodIn wsX9_undo wsX6_fetch := goodIn_r _ [11, 12, 13, 14, 15, 16, 17, 10, 18, 19, 20, 21, 22, 23, 24, 25, 41, 42, 43, 44, 45] (by decide +kernel) (by decide +kernel)
set_option maxRecDepth 20000 in
theorem gX9_undo_X6_fetch : GoodIn wsX9_undo (wsV RX9 180 RX6 yX6_fetch wsX6_fetch) := goodIn_app (goodIn_of _ (by decide +kernel)) ggX9_undo_X6_fetch
set_option maxRecDepth 20000 in
theorem ggX9_undo_X0_forget : GoodIn wsX9_undo wsX0_forget := goodIn_r _ [30, 31, 46, 47, 48, 49, 50] (by decide +kernel) (by decide +kernel)
set_option maxRecDepth 20000 in
theorem gX9_undo_X0_forget : GoodIn wsX9_undo (wsV RX9 184 RX0 yX0_forget wsX0_forget) := goodIn_app (goodIn_of _ (by decide +kernel)) ggX9_undo_X0_forget
theorem dX9_undo_0 : decode cX9_undo 0 = .ok (.aload_n 0, 1) := by decide +kernel
theorem dX9_undo_1 : decode cX9_undo 1 = .ok (.getfield 174, 3) := by decide +kernel
theorem dX9_undo_4 : decode cX9_undo 4 = .ok (.ifCond .ne 6, 3) := by decide +kernel
theorem dX9_undo_7 : decode cX9_undo 7 = .ok (.ldc 102, 2) := by decide +kernel
theorem dX9_undo_9 : decode cX9_undo 9 = .ok (.ireturn, 1) := by decide +kernel
theorem dX9_undo_10 : decode cX9_undo 10 = .ok (.aload_n 0, 1) := by decide +kernel
theorem dX9_undo_11 : decode cX9_undo 11 = .ok (.getfield 36, 3) := by decide +kernel
theorem dX9_undo_14 : decode cX9_undo 14 = .ok (.aload_n 0, 1) := by decide +kernel
theorem dX9_undo_15 : decode cX9_undo 15 = .ok (.getfield 177, 3) := by decide +kernel
theorem dX9_undo_18 : decode cX9_undo 18 = .ok (.aload_n 0, 1) := by decide +kernel
theorem dX9_undo_19 : decode cX9_undo 19 = .ok (.getfield 26, 3) := by decide +kernel
theorem dX9_undo_22 : decode cX9_undo 22 = .ok (.invokevirtual 180, 3) := by decide +kernel
theorem dX9_undo_25 : decode cX9_undo 25 = .ok (.aload_n 0, 1) := by decide +kernel
theorem dX9_undo_26 : decode cX9_undo 26 = .ok (.getfield 43, 3) := by decide +kernel
theorem dX9_undo_29 : decode cX9_undo 29 = .ok (.invokevirtual 184, 3) := by decide +kernel
theorem dX9_undo_32 : decode cX9_undo 32 = .ok (.aload_n 0, 1) := by decide +kernel
theorem dX9_undo_33 : decode cX9_undo 33 = .ok (.aload_n 0, 1) := by decide +kernel
theorem dX9_undo_34 : decode cX9_undo 34 = .ok (.getfield 177, 3) := by decide +kernel
theorem dX9_undo_37 : decode cX9_undo 37 = .ok (.bipush 8, 2) := by decide +kernel
theorem dX9_undo_39 : decode cX9_undo 39 = .ok (.iadd, 1) := by decide +kernel
theorem dX9_undo_40 : decode cX9_undo 40 = .ok (.iconst 1, 1) := by decide +kernel
theorem dX9_undo_41 : decode cX9_undo 41 = .ok (.isub, 1) := by decide +kernel
theorem dX9_undo_42 : decode cX9_undo 42 = .ok (.bipush 8, 2) := by decide +kernel
theorem dX9_undo_44 : decode cX9_undo 44 = .ok (.irem, 1) := by decide +kernel
theorem dX9_undo_45 : decode cX9_undo 45 = .ok (.putfield 177, 3) := by decide +kernel
theorem dX9_undo_48 : decode cX9_undo 48 = .ok (.aload_n 0, 1) := by decide +kernel
theorem dX9_undo_49 : decode cX9_undo 49 = .ok (.dup, 1) := by decide +kernel
theorem dX9_undo_50 : decode cX9_undo 50 = .ok (.getfield 174, 3) := by decide +kernel
theorem dX9_undo_53 : decode cX9_undo 53 = .ok (.iconst 1, 1) := by decide +kernel
theorem dX9_undo_54 : decode cX9_undo 54 = .ok (.isub, 1) := by decide +kernel
theorem dX9_undo_55 : decode cX9_undo 55 = .ok (.putfield 174, 3) := by decide +kernel
theorem dX9_undo_58 : decode cX9_undo 58 = .ok (.aload_n 0, 1) := by decide +kernel
theorem dX9_undo_59 : decode cX9_undo 59 = .ok (.getfield 174, 3) := by decide +kernel
theorem dX9_undo_62 : decode cX9_undo 62 = .ok (.ireturn, 1) := by decide +kernel
theorem dX9_undoDepth_0 : decode cX9_undoDepth 0 = .ok (.aload_n 0, 1) := by decide +kernel
theorem dX9_undoDepth_1 : decode cX9_undoDepth 1 = .ok (.getfield 174, 3) := by decide +kernel
theorem dX9_undoDepth_4 : decode cX9_undoDepth 4 = .ok (.ireturn, 1) := by decide +kernel
set_option maxRecDepth 20000 in
theorem ggX9_save_X9_isSlot : GoodIn wsX9_save wsX9_isSlot := goodIn_r _ [8] (by decide +kernel) (by decide +kernel)
set_option maxRecDepth 20000 in
theorem gX9_save_X9_isSlot : GoodIn wsX9_save (va_wsS RX9 187 yX9_isSlot wsX9_isSlot) := goodIn_app (goodIn_of _ (by decide +kernel)) ggX9_save_X9_isSlot
set_option maxRecDepth 20000 in
theorem ggX9_save_X6_keep : GoodIn wsX9_save wsX6_keep := goodIn_r _ [13, 14, 15, 16, 17, 18, 19, 20, 21, 22, 23, 36, 37, 33, 34, 35] (by decide +kernel) (by decide +kernel)
set_option maxRecDepth 20000 in
theorem gX9_save_X6_keep : GoodIn wsX9_save (wsV RX9 190 RX6 yX6_keep wsX6_keep) := goodIn_app (goodIn_of _ (by decide +kernel)) ggX9_save_X6_keep
theorem dX9_save_0 : decode cX9_save 0 = .ok (.iload_n 1, 1) := by decide +kernel
theorem dX9_save_1 : decode cX9_save 1 = .ok (.invokestatic 187, 3) := by decide +kernel
theorem dX9_save_4 : decode cX9_save 4 = .ok (.ifCond .ne 6, 3) := by decide +kernel
theorem dX9_save_7 : decode cX9_save 7 = .ok (.ldc 58, 2) := by decide +kernel
theorem dX9_save_9 : decode cX9_save 9 = .ok (.ireturn, 1) := by decide +kernel
theorem dX9_save_10 : decode cX9_save 10 = .ok (.aload_n 0, 1) := by decide +kernel
theorem dX9_save_11 : decode cX9_save 11 = .ok (.getfield 36, 3) := by decide +kernel
theorem dX9_save_14 : decode cX9_save 14 = .ok (.bipush 8, 2) := by decide +kernel
theorem dX9_save_16 : decode cX9_save 16 = .ok (.iload_n 1, 1) := by decide +kernel
theorem dX9_save_17 : decode cX9_save 17 = .ok (.iadd, 1) := by decide +kernel
theorem dX9_save_18 : decode cX9_save 18 = .ok (.aload_n 0, 1) := by decide +kernel
theorem dX9_save_19 : decode cX9_save 19 = .ok (.getfield 26, 3) := by decide +kernel
theorem dX9_save_22 : decode cX9_save 22 = .ok (.invokevirtual 190, 3) := by decide +kernel
theorem dX9_save_25 : decode cX9_save 25 = .ok (.aload_n 0, 1) := by decide +kernel
theorem dX9_save_26 : decode cX9_save 26 = .ok (.getfield 26, 3) := by decide +kernel
theorem dX9_save_29 : decode cX9_save 29 = .ok (.getfield 74, 3) := by decide +kernel
theorem dX9_save_32 : decode cX9_save 32 = .ok (.ireturn, 1) := by decide +kernel
set_option maxRecDepth 20000 in
theorem ggX9_restore_X9_isSlot : GoodIn wsX9_restore wsX9_isSlot := goodIn_r _ [11] (by decide +kernel) (by decide +kernel)
set_option maxRecDepth 20000 in
theorem gX9_restore_X9_isSlot : GoodIn wsX9_restore (va_wsS RX9 187 yX9_isSlot wsX9_isSlot) := goodIn_app (goodIn_of _ (by decide +kernel)) ggX9_restore_X9_isSlot
set_option maxRecDepth 20000 in
theorem ggX9_restore_X6_holds : GoodIn wsX9_restore wsX6_holds := goodIn_r _ [16, 17, 50, 51] (by decide +kernel) (by decide +kernel)
set_option maxRecDepth 20000 in
theorem gX9_restore_X6_holds : GoodIn wsX9_restore (wsV RX9 193 RX6 yX6_holds wsX6_holds) := goodIn_app (goodIn_of _ (by decide +kernel)) ggX9_restore_X6_holds
set_option maxRecDepth 20000 in
theorem ggX9_restore_X6_fetch : GoodIn wsX9_restore wsX6_fetch := goodIn_r _ [21, 22, 23, 24, 25, 13, 14, 15, 16, 17, 26, 27, 28, 29, 30, 31, 50, 51, 47, 48, 49] (by decide +kernel) (by decide +kernel)
set_option maxRecDepth 20000 in
theorem gX9_restore_X6_fetch : GoodIn wsX9_restore (wsV RX9 180 RX6 yX6_fetch wsX6_fetch) := goodIn_app (goodIn_of _ (by decide +kernel)) ggX9_restore_X6_fetch
set_option maxRecDepth 20000 in
theorem ggX9_restore_X0_forget : GoodIn wsX9_restore wsX0_forget := goodIn_r _ [36, 37, 52, 53, 54, 55, 56] (by decide +kernel) (by decide +kernel)
set_option maxRecDepth 20000 in
theorem gX9_restore_X0_forget : GoodIn wsX9_restore (wsV RX9 184 RX0 yX0_forget wsX0_forget) := goodIn_app (goodIn_of _ (by decide +kernel)) ggX9_restore_X0_forget
theorem dX9_restore_0 : decode cX9_restore 0 = .ok (.iload_n 1, 1) := by decide +kernel
theorem dX9_restore_1 : decode cX9_restore 1 = .ok (.invokestatic 187, 3) := by decide +kernel
theorem dX9_restore_4 : decode cX9_restore 4 = .ok (.ifCond .ne 6, 3) := by decide +kernel
theorem dX9_restore_7 : decode cX9_restore 7 = .ok (.ldc 58, 2) := by decide +kernel
theorem dX9_restore_9 : decode cX9_restore 9 = .ok (.ireturn, 1) := by decide +kernel
theorem dX9_restore_10 : decode cX9_restore 10 = .ok (.aload_n 0, 1) := by decide +kernel
theorem dX9_restore_11 : decode cX9_restore 11 = .ok (.getfield 36, 3) := by decide +kernel
theorem dX9_restore_14 : decode cX9_restore 14 = .ok (.bipush 8, 2) := by decide +kernel
theorem dX9_restore_16 : decode cX9_restore 16 = .ok (.iload_n 1, 1) := by decide +kernel
theorem dX9_restore_17 : decode cX9_restore 17 = .ok (.iadd, 1) := by decide +kernel
theorem dX9_restore_18 : decode cX9_restore 18 = .ok (.invokevirtual 193, 3) := by decide +kernel
theorem dX9_restore_21 : decode cX9_restore 21 = .ok (.ifCond .ne 6, 3) := by decide +kernel
theorem dX9_restore_24 : decode cX9_restore 24 = .ok (.ldc 102, 2) := by decide +kernel
theorem dX9_restore_26 : decode cX9_restore 26 = .ok (.ireturn, 1) := by decide +kernel
theorem dX9_restore_27 : decode cX9_restore 27 = .ok (.aload_n 0, 1) := by decide +kernel
theorem dX9_restore_28 : decode cX9_restore 28 = .ok (.getfield 36, 3) := by decide +kernel
theorem dX9_restore_31 : decode cX9_restore 31 = .ok (.bipush 8, 2) := by decide +kernel
theorem dX9_restore_33 : decode cX9_restore 33 = .ok (.iload_n 1, 1) := by decide +kernel
theorem dX9_restore_34 : decode cX9_restore 34 = .ok (.iadd, 1) := by decide +kernel
theorem dX9_restore_35 : decode cX9_restore 35 = .ok (.aload_n 0, 1) := by decide +kernel
theorem dX9_restore_36 : decode cX9_restore 36 = .ok (.getfield 26, 3) := by decide +kernel
theorem dX9_restore_39 : decode cX9_restore 39 = .ok (.invokevirtual 180, 3) := by decide +kernel
theorem dX9_restore_42 : decode cX9_restore 42 = .ok (.aload_n 0, 1) := by decide +kernel
theorem dX9_restore_43 : decode cX9_restore 43 = .ok (.getfield 43, 3) := by decide +kernel
theorem dX9_restore_46 : decode cX9_restore 46 = .ok (.invokevirtual 184, 3) := by decide +kernel
theorem dX9_restore_49 : decode cX9_restore 49 = .ok (.aload_n 0, 1) := by decide +kernel
theorem dX9_restore_50 : decode cX9_restore 50 = .ok (.iconst 0, 1) := by decide +kernel
theorem dX9_restore_51 : decode cX9_restore 51 = .ok (.putfield 174, 3) := by decide +kernel
theorem dX9_restore_54 : decode cX9_restore 54 = .ok (.aload_n 0, 1) := by decide +kernel
theorem dX9_restore_55 : decode cX9_restore 55 = .ok (.getfield 26, 3) := by decide +kernel
theorem dX9_restore_58 : decode cX9_restore 58 = .ok (.getfield 74, 3) := by decide +kernel
theorem dX9_restore_61 : decode cX9_restore 61 = .ok (.ireturn, 1) := by decide +kernel
theorem dX9_isExponent_0 : decode cX9_isExponent 0 = .ok (.iload_n 0, 1) := by decide +kernel
theorem dX9_isExponent_1 : decode cX9_isExponent 1 = .ok (.bipush (-60), 2) := by decide +kernel
theorem dX9_isExponent_3 : decode cX9_isExponent 3 = .ok (.if_icmp .lt 13, 3) := by decide +kernel
theorem dX9_isExponent_6 : decode cX9_isExponent 6 = .ok (.iload_n 0, 1) := by decide +kernel
theorem dX9_isExponent_7 : decode cX9_isExponent 7 = .ok (.bipush 60, 2) := by decide +kernel
theorem dX9_isExponent_9 : decode cX9_isExponent 9 = .ok (.if_icmp .gt 7, 3) := by decide +kernel
theorem dX9_isExponent_12 : decode cX9_isExponent 12 = .ok (.iconst 1, 1) := by decide +kernel
theorem dX9_isExponent_13 : decode cX9_isExponent 13 = .ok (.goto 4, 3) := by decide +kernel
theorem dX9_isExponent_16 : decode cX9_isExponent 16 = .ok (.iconst 0, 1) := by decide +kernel
theorem dX9_isExponent_17 : decode cX9_isExponent 17 = .ok (.ireturn, 1) := by decide +kernel
theorem dX9_isSlot_0 : decode cX9_isSlot 0 = .ok (.iload_n 0, 1) := by decide +kernel
theorem dX9_isSlot_1 : decode cX9_isSlot 1 = .ok (.ifCond .lt 12, 3) := by decide +kernel
theorem dX9_isSlot_4 : decode cX9_isSlot 4 = .ok (.iload_n 0, 1) := by decide +kernel
theorem dX9_isSlot_5 : decode cX9_isSlot 5 = .ok (.iconst 2, 1) := by decide +kernel
theorem dX9_isSlot_6 : decode cX9_isSlot 6 = .ok (.if_icmp .ge 7, 3) := by decide +kernel
theorem dX9_isSlot_9 : decode cX9_isSlot 9 = .ok (.iconst 1, 1) := by decide +kernel
theorem dX9_isSlot_10 : decode cX9_isSlot 10 = .ok (.goto 4, 3) := by decide +kernel
theorem dX9_isSlot_13 : decode cX9_isSlot 13 = .ok (.iconst 0, 1) := by decide +kernel
theorem dX9_isSlot_14 : decode cX9_isSlot 14 = .ok (.ireturn, 1) := by decide +kernel
set_option maxRecDepth 20000 in
theorem ggX9_finishRemoval_X9_becomeDraft : GoodIn wsX9_finishRemoval wsX9_becomeDraft := goodIn_r _ [10, 11, 12, 4, 13, 14, 15, 16, 17, 1, 18, 19, 20, 21, 22, 23, 24, 25, 26, 27, 28, 29, 30, 31, 32, 33, 34, 35, 36, 37, 38, 39, 40, 41, 42, 43, 44, 45, 46, 47, 48, 49, 50, 51, 52, 53, 54, 58, 59, 55, 56, 57, 60, 61, 62, 63, 64] (by decide +kernel) (by decide +kernel)
set_option maxRecDepth 20000 in
theorem gX9_finishRemoval_X9_becomeDraft : GoodIn wsX9_finishRemoval (wsV RX9 71 RX9 yX9_becomeDraft wsX9_becomeDraft) := goodIn_app (goodIn_of _ (by decide +kernel)) ggX9_finishRemoval_X9_becomeDraft
theorem dX9_finishRemoval_0 : decode cX9_finishRemoval 0 = .ok (.aload_n 0, 1) := by decide +kernel
theorem dX9_finishRemoval_1 : decode cX9_finishRemoval 1 = .ok (.getfield 30, 3) := by decide +kernel
theorem dX9_finishRemoval_4 : decode cX9_finishRemoval 4 = .ok (.getfield 54, 3) := by decide +kernel
theorem dX9_finishRemoval_7 : decode cX9_finishRemoval 7 = .ok (.iconst 4, 1) := by decide +kernel
theorem dX9_finishRemoval_8 : decode cX9_finishRemoval 8 = .ok (.if_icmp .le 6, 3) := by decide +kernel
theorem dX9_finishRemoval_11 : decode cX9_finishRemoval 11 = .ok (.ldc 62, 2) := by decide +kernel
theorem dX9_finishRemoval_13 : decode cX9_finishRemoval 13 = .ok (.ireturn, 1) := by decide +kernel
theorem dX9_finishRemoval_14 : decode cX9_finishRemoval 14 = .ok (.aload_n 0, 1) := by decide +kernel
theorem dX9_finishRemoval_15 : decode cX9_finishRemoval 15 = .ok (.invokevirtual 71, 3) := by decide +kernel
theorem dX9_finishRemoval_18 : decode cX9_finishRemoval 18 = .ok (.aload_n 0, 1) := by decide +kernel
theorem dX9_finishRemoval_19 : decode cX9_finishRemoval 19 = .ok (.getfield 26, 3) := by decide +kernel
theorem dX9_finishRemoval_22 : decode cX9_finishRemoval 22 = .ok (.getfield 74, 3) := by decide +kernel
theorem dX9_finishRemoval_25 : decode cX9_finishRemoval 25 = .ok (.ireturn, 1) := by decide +kernel
set_option maxRecDepth 20000 in
theorem ggX9_becomeDraft_X6_keep : GoodIn wsX9_becomeDraft wsX6_keep := goodIn_r _ [15, 16, 17, 18, 19, 20, 21, 22, 23, 24, 25, 47, 48, 49, 50, 51] (by decide +kernel) (by decide +kernel)
set_option maxRecDepth 20000 in
theorem gX9_becomeDraft_X6_keep : GoodIn wsX9_becomeDraft (wsV RX9 190 RX6 yX6_keep wsX6_keep) := goodIn_app (goodIn_of _ (by decide +kernel)) ggX9_becomeDraft_X6_keep
set_option maxRecDepth 20000 in
theorem ggX9_becomeDraft_X2_copyFrom : GoodIn wsX9_becomeDraft wsX2_copyFrom := goodIn_r _ [29, 30, 31, 25, 49, 50, 51] (by decide +kernel) (by decide +kernel)
set_option maxRecDepth 20000 in
theorem gX9_becomeDraft_X2_copyFrom : GoodIn wsX9_becomeDraft (wsV RX9 85 RX2 yX2_copyFrom wsX2_copyFrom) := goodIn_app (goodIn_of _ (by decide +kernel)) ggX9_becomeDraft_X2_copyFrom
set_option maxRecDepth 20000 in
theorem ggX9_becomeDraft_X0_forget : GoodIn wsX9_becomeDraft wsX0_forget := goodIn_r _ [36, 37, 52, 53, 54, 55, 56] (by decide +kernel) (by decide +kernel)
set_option maxRecDepth 20000 in
theorem gX9_becomeDraft_X0_forget : GoodIn wsX9_becomeDraft (wsV RX9 184 RX0 yX0_forget wsX0_forget) := goodIn_app (goodIn_of _ (by decide +kernel)) ggX9_becomeDraft_X0_forget
theorem dX9_becomeDraft_0 : decode cX9_becomeDraft 0 = .ok (.aload_n 0, 1) := by decide +kernel
theorem dX9_becomeDraft_1 : decode cX9_becomeDraft 1 = .ok (.aload_n 0, 1) := by decide +kernel
theorem dX9_becomeDraft_2 : decode cX9_becomeDraft 2 = .ok (.getfield 177, 3) := by decide +kernel
theorem dX9_becomeDraft_5 : decode cX9_becomeDraft 5 = .ok (.iconst 1, 1) := by decide +kernel
theorem dX9_becomeDraft_6 : decode cX9_becomeDraft 6 = .ok (.iadd, 1) := by decide +kernel
theorem dX9_becomeDraft_7 : decode cX9_becomeDraft 7 = .ok (.bipush 8, 2) := by decide +kernel
theorem dX9_becomeDraft_9 : decode cX9_becomeDraft 9 = .ok (.irem, 1) := by decide +kernel
theorem dX9_becomeDraft_10 : decode cX9_becomeDraft 10 = .ok (.putfield 177, 3) := by decide +kernel
theorem dX9_becomeDraft_13 : decode cX9_becomeDraft 13 = .ok (.aload_n 0, 1) := by decide +kernel
theorem dX9_becomeDraft_14 : decode cX9_becomeDraft 14 = .ok (.getfield 36, 3) := by decide +kernel
theorem dX9_becomeDraft_17 : decode cX9_becomeDraft 17 = .ok (.aload_n 0, 1) := by decide +kernel
theorem dX9_becomeDraft_18 : decode cX9_becomeDraft 18 = .ok (.getfield 177, 3) := by decide +kernel
theorem dX9_becomeDraft_21 : decode cX9_becomeDraft 21 = .ok (.aload_n 0, 1) := by decide +kernel
theorem dX9_becomeDraft_22 : decode cX9_becomeDraft 22 = .ok (.getfield 26, 3) := by decide +kernel
theorem dX9_becomeDraft_25 : decode cX9_becomeDraft 25 = .ok (.invokevirtual 190, 3) := by decide +kernel
theorem dX9_becomeDraft_28 : decode cX9_becomeDraft 28 = .ok (.aload_n 0, 1) := by decide +kernel
theorem dX9_becomeDraft_29 : decode cX9_becomeDraft 29 = .ok (.aload_n 0, 1) := by decide +kernel
theorem dX9_becomeDraft_30 : decode cX9_becomeDraft 30 = .ok (.getfield 174, 3) := by decide +kernel
theorem dX9_becomeDraft_33 : decode cX9_becomeDraft 33 = .ok (.iconst 1, 1) := by decide +kernel
theorem dX9_becomeDraft_34 : decode cX9_becomeDraft 34 = .ok (.iadd, 1) := by decide +kernel
theorem dX9_becomeDraft_35 : decode cX9_becomeDraft 35 = .ok (.bipush 8, 2) := by decide +kernel
theorem dX9_becomeDraft_37 : decode cX9_becomeDraft 37 = .ok (.invokestatic 196, 3) := by decide +kernel
theorem dX9_becomeDraft_40 : decode cX9_becomeDraft 40 = .ok (.putfield 174, 3) := by decide +kernel
theorem dX9_becomeDraft_43 : decode cX9_becomeDraft 43 = .ok (.aload_n 0, 1) := by decide +kernel
theorem dX9_becomeDraft_44 : decode cX9_becomeDraft 44 = .ok (.getfield 26, 3) := by decide +kernel
theorem dX9_becomeDraft_47 : decode cX9_becomeDraft 47 = .ok (.aload_n 0, 1) := by decide +kernel
theorem dX9_becomeDraft_48 : decode cX9_becomeDraft 48 = .ok (.getfield 30, 3) := by decide +kernel
theorem dX9_becomeDraft_51 : decode cX9_becomeDraft 51 = .ok (.invokevirtual 85, 3) := by decide +kernel
theorem dX9_becomeDraft_54 : decode cX9_becomeDraft 54 = .ok (.aload_n 0, 1) := by decide +kernel
theorem dX9_becomeDraft_55 : decode cX9_becomeDraft 55 = .ok (.getfield 43, 3) := by decide +kernel
theorem dX9_becomeDraft_58 : decode cX9_becomeDraft 58 = .ok (.invokevirtual 184, 3) := by decide +kernel
theorem dX9_becomeDraft_61 : decode cX9_becomeDraft 61 = .ok (.return_, 1) := by decide +kernel
theorem dX9_bit_0 : decode cX9_bit 0 = .ok (.iconst 1, 1) := by decide +kernel
theorem dX9_bit_1 : decode cX9_bit 1 = .ok (.iload_n 0, 1) := by decide +kernel
theorem dX9_bit_2 : decode cX9_bit 2 = .ok (.ishl, 1) := by decide +kernel
theorem dX9_bit_3 : decode cX9_bit 3 = .ok (.ireturn, 1) := by decide +kernel
theorem dX9_contains_0 : decode cX9_contains 0 = .ok (.iload_n 0, 1) := by decide +kernel
theorem dX9_contains_1 : decode cX9_contains 1 = .ok (.iload_n 1, 1) := by decide +kernel
theorem dX9_contains_2 : decode cX9_contains 2 = .ok (.iushr, 1) := by decide +kernel
theorem dX9_contains_3 : decode cX9_contains 3 = .ok (.iconst 1, 1) := by decide +kernel
theorem dX9_contains_4 : decode cX9_contains 4 = .ok (.iand, 1) := by decide +kernel
theorem dX9_contains_5 : decode cX9_contains 5 = .ok (.ifCond .eq 7, 3) := by decide +kernel
theorem dX9_contains_8 : decode cX9_contains 8 = .ok (.iconst 1, 1) := by decide +kernel
theorem dX9_contains_9 : decode cX9_contains 9 = .ok (.goto 4, 3) := by decide +kernel
theorem dX9_contains_12 : decode cX9_contains 12 = .ok (.iconst 0, 1) := by decide +kernel
theorem dX9_contains_13 : decode cX9_contains 13 = .ok (.ireturn, 1) := by decide +kernel
theorem dJ6_bitCount_0f7a4_0 : decode cJ6_bitCount_0f7a4 0 = .ok (.iload_n 0, 1) := by decide +kernel
theorem dJ6_bitCount_0f7a4_1 : decode cJ6_bitCount_0f7a4 1 = .ok (.iload_n 0, 1) := by decide +kernel
theorem dJ6_bitCount_0f7a4_2 : decode cJ6_bitCount_0f7a4 2 = .ok (.iconst 1, 1) := by decide +kernel
theorem dJ6_bitCount_0f7a4_3 : decode cJ6_bitCount_0f7a4 3 = .ok (.iushr, 1) := by decide +kernel
theorem dJ6_bitCount_0f7a4_4 : decode cJ6_bitCount_0f7a4 4 = .ok (.ldc_w 265, 3) := by decide +kernel
theorem dJ6_bitCount_0f7a4_7 : decode cJ6_bitCount_0f7a4 7 = .ok (.iand, 1) := by decide +kernel
theorem dJ6_bitCount_0f7a4_8 : decode cJ6_bitCount_0f7a4 8 = .ok (.isub, 1) := by decide +kernel
theorem dJ6_bitCount_0f7a4_9 : decode cJ6_bitCount_0f7a4 9 = .ok (.istore_n 0, 1) := by decide +kernel
theorem dJ6_bitCount_0f7a4_10 : decode cJ6_bitCount_0f7a4 10 = .ok (.iload_n 0, 1) := by decide +kernel
theorem dJ6_bitCount_0f7a4_11 : decode cJ6_bitCount_0f7a4 11 = .ok (.ldc_w 266, 3) := by decide +kernel
theorem dJ6_bitCount_0f7a4_14 : decode cJ6_bitCount_0f7a4 14 = .ok (.iand, 1) := by decide +kernel
theorem dJ6_bitCount_0f7a4_15 : decode cJ6_bitCount_0f7a4 15 = .ok (.iload_n 0, 1) := by decide +kernel
theorem dJ6_bitCount_0f7a4_16 : decode cJ6_bitCount_0f7a4 16 = .ok (.iconst 2, 1) := by decide +kernel
theorem dJ6_bitCount_0f7a4_17 : decode cJ6_bitCount_0f7a4 17 = .ok (.iushr, 1) := by decide +kernel
theorem dJ6_bitCount_0f7a4_18 : decode cJ6_bitCount_0f7a4 18 = .ok (.ldc_w 266, 3) := by decide +kernel
theorem dJ6_bitCount_0f7a4_21 : decode cJ6_bitCount_0f7a4 21 = .ok (.iand, 1) := by decide +kernel
theorem dJ6_bitCount_0f7a4_22 : decode cJ6_bitCount_0f7a4 22 = .ok (.iadd, 1) := by decide +kernel
theorem dJ6_bitCount_0f7a4_23 : decode cJ6_bitCount_0f7a4 23 = .ok (.istore_n 0, 1) := by decide +kernel
theorem dJ6_bitCount_0f7a4_24 : decode cJ6_bitCount_0f7a4 24 = .ok (.iload_n 0, 1) := by decide +kernel
theorem dJ6_bitCount_0f7a4_25 : decode cJ6_bitCount_0f7a4 25 = .ok (.iload_n 0, 1) := by decide +kernel
theorem dJ6_bitCount_0f7a4_26 : decode cJ6_bitCount_0f7a4 26 = .ok (.iconst 4, 1) := by decide +kernel
theorem dJ6_bitCount_0f7a4_27 : decode cJ6_bitCount_0f7a4 27 = .ok (.iushr, 1) := by decide +kernel
theorem dJ6_bitCount_0f7a4_28 : decode cJ6_bitCount_0f7a4 28 = .ok (.iadd, 1) := by decide +kernel
theorem dJ6_bitCount_0f7a4_29 : decode cJ6_bitCount_0f7a4 29 = .ok (.ldc_w 267, 3) := by decide +kernel
theorem dJ6_bitCount_0f7a4_32 : decode cJ6_bitCount_0f7a4 32 = .ok (.iand, 1) := by decide +kernel
theorem dJ6_bitCount_0f7a4_33 : decode cJ6_bitCount_0f7a4 33 = .ok (.istore_n 0, 1) := by decide +kernel
theorem dJ6_bitCount_0f7a4_34 : decode cJ6_bitCount_0f7a4 34 = .ok (.iload_n 0, 1) := by decide +kernel
theorem dJ6_bitCount_0f7a4_35 : decode cJ6_bitCount_0f7a4 35 = .ok (.iload_n 0, 1) := by decide +kernel
theorem dJ6_bitCount_0f7a4_36 : decode cJ6_bitCount_0f7a4 36 = .ok (.bipush 8, 2) := by decide +kernel
theorem dJ6_bitCount_0f7a4_38 : decode cJ6_bitCount_0f7a4 38 = .ok (.iushr, 1) := by decide +kernel
theorem dJ6_bitCount_0f7a4_39 : decode cJ6_bitCount_0f7a4 39 = .ok (.iadd, 1) := by decide +kernel
theorem dJ6_bitCount_0f7a4_40 : decode cJ6_bitCount_0f7a4 40 = .ok (.istore_n 0, 1) := by decide +kernel
theorem dJ6_bitCount_0f7a4_41 : decode cJ6_bitCount_0f7a4 41 = .ok (.iload_n 0, 1) := by decide +kernel
theorem dJ6_bitCount_0f7a4_42 : decode cJ6_bitCount_0f7a4 42 = .ok (.iload_n 0, 1) := by decide +kernel
theorem dJ6_bitCount_0f7a4_43 : decode cJ6_bitCount_0f7a4 43 = .ok (.bipush 16, 2) := by decide +kernel
theorem dJ6_bitCount_0f7a4_45 : decode cJ6_bitCount_0f7a4 45 = .ok (.iushr, 1) := by decide +kernel
theorem dJ6_bitCount_0f7a4_46 : decode cJ6_bitCount_0f7a4 46 = .ok (.iadd, 1) := by decide +kernel
theorem dJ6_bitCount_0f7a4_47 : decode cJ6_bitCount_0f7a4 47 = .ok (.istore_n 0, 1) := by decide +kernel
theorem dJ6_bitCount_0f7a4_48 : decode cJ6_bitCount_0f7a4 48 = .ok (.iload_n 0, 1) := by decide +kernel
theorem dJ6_bitCount_0f7a4_49 : decode cJ6_bitCount_0f7a4 49 = .ok (.bipush 63, 2) := by decide +kernel
theorem dJ6_bitCount_0f7a4_51 : decode cJ6_bitCount_0f7a4 51 = .ok (.iand, 1) := by decide +kernel
theorem dJ6_bitCount_0f7a4_52 : decode cJ6_bitCount_0f7a4 52 = .ok (.ireturn, 1) := by decide +kernel
theorem dJ9_floorMod_7cf53_0 : decode cJ9_floorMod_7cf53 0 = .ok (.iload_n 0, 1) := by decide +kernel
theorem dJ9_floorMod_7cf53_1 : decode cJ9_floorMod_7cf53 1 = .ok (.iload_n 1, 1) := by decide +kernel
theorem dJ9_floorMod_7cf53_2 : decode cJ9_floorMod_7cf53 2 = .ok (.irem, 1) := by decide +kernel
theorem dJ9_floorMod_7cf53_3 : decode cJ9_floorMod_7cf53 3 = .ok (.istore_n 2, 1) := by decide +kernel
theorem dJ9_floorMod_7cf53_4 : decode cJ9_floorMod_7cf53 4 = .ok (.iload_n 0, 1) := by decide +kernel
theorem dJ9_floorMod_7cf53_5 : decode cJ9_floorMod_7cf53 5 = .ok (.iload_n 1, 1) := by decide +kernel
theorem dJ9_floorMod_7cf53_6 : decode cJ9_floorMod_7cf53 6 = .ok (.ixor, 1) := by decide +kernel
theorem dJ9_floorMod_7cf53_7 : decode cJ9_floorMod_7cf53 7 = .ok (.ifCond .ge 11, 3) := by decide +kernel
theorem dJ9_floorMod_7cf53_10 : decode cJ9_floorMod_7cf53 10 = .ok (.iload_n 2, 1) := by decide +kernel
theorem dJ9_floorMod_7cf53_11 : decode cJ9_floorMod_7cf53 11 = .ok (.ifCond .eq 7, 3) := by decide +kernel
theorem dJ9_floorMod_7cf53_14 : decode cJ9_floorMod_7cf53 14 = .ok (.iload_n 2, 1) := by decide +kernel
theorem dJ9_floorMod_7cf53_15 : decode cJ9_floorMod_7cf53 15 = .ok (.iload_n 1, 1) := by decide +kernel
theorem dJ9_floorMod_7cf53_16 : decode cJ9_floorMod_7cf53 16 = .ok (.iadd, 1) := by decide +kernel
theorem dJ9_floorMod_7cf53_17 : decode cJ9_floorMod_7cf53 17 = .ok (.ireturn, 1) := by decide +kernel
theorem dJ9_floorMod_7cf53_18 : decode cJ9_floorMod_7cf53 18 = .ok (.iload_n 2, 1) := by decide +kernel
theorem dJ9_floorMod_7cf53_19 : decode cJ9_floorMod_7cf53 19 = .ok (.ireturn, 1) := by decide +kernel
theorem dJ9_abs_0f7a4_0 : decode cJ9_abs_0f7a4 0 = .ok (.iload_n 0, 1) := by decide +kernel
theorem dJ9_abs_0f7a4_1 : decode cJ9_abs_0f7a4 1 = .ok (.ifCond .ge 8, 3) := by decide +kernel
theorem dJ9_abs_0f7a4_4 : decode cJ9_abs_0f7a4 4 = .ok (.iload_n 0, 1) := by decide +kernel
theorem dJ9_abs_0f7a4_5 : decode cJ9_abs_0f7a4 5 = .ok (.ineg, 1) := by decide +kernel
theorem dJ9_abs_0f7a4_6 : decode cJ9_abs_0f7a4 6 = .ok (.goto 4, 3) := by decide +kernel
theorem dJ9_abs_0f7a4_9 : decode cJ9_abs_0f7a4 9 = .ok (.iload_n 0, 1) := by decide +kernel
theorem dJ9_abs_0f7a4_10 : decode cJ9_abs_0f7a4 10 = .ok (.ireturn, 1) := by decide +kernel
theorem dJ9_max_7cf53_0 : decode cJ9_max_7cf53 0 = .ok (.iload_n 0, 1) := by decide +kernel
theorem dJ9_max_7cf53_1 : decode cJ9_max_7cf53 1 = .ok (.iload_n 1, 1) := by decide +kernel
theorem dJ9_max_7cf53_2 : decode cJ9_max_7cf53 2 = .ok (.if_icmp .lt 7, 3) := by decide +kernel
theorem dJ9_max_7cf53_5 : decode cJ9_max_7cf53 5 = .ok (.iload_n 0, 1) := by decide +kernel
theorem dJ9_max_7cf53_6 : decode cJ9_max_7cf53 6 = .ok (.goto 4, 3) := by decide +kernel
theorem dJ9_max_7cf53_9 : decode cJ9_max_7cf53 9 = .ok (.iload_n 1, 1) := by decide +kernel
theorem dJ9_max_7cf53_10 : decode cJ9_max_7cf53 10 = .ok (.ireturn, 1) := by decide +kernel
theorem dJ9_min_7cf53_0 : decode cJ9_min_7cf53 0 = .ok (.iload_n 0, 1) := by decide +kernel
theorem dJ9_min_7cf53_1 : decode cJ9_min_7cf53 1 = .ok (.iload_n 1, 1) := by decide +kernel
theorem dJ9_min_7cf53_2 : decode cJ9_min_7cf53 2 = .ok (.if_icmp .gt 7, 3) := by decide +kernel
theorem dJ9_min_7cf53_5 : decode cJ9_min_7cf53 5 = .ok (.iload_n 0, 1) := by decide +kernel
theorem dJ9_min_7cf53_6 : decode cJ9_min_7cf53 6 = .ok (.goto 4, 3) := by decide +kernel
theorem dJ9_min_7cf53_9 : decode cJ9_min_7cf53 9 = .ok (.iload_n 1, 1) := by decide +kernel
theorem dJ9_min_7cf53_10 : decode cJ9_min_7cf53 10 = .ok (.ireturn, 1) := by decide +kernel
theorem dL_cell_0 : decode cL_cell 0 = .ok (.iload_n 1, 1) := by decide +kernel
theorem dL_cell_1 : decode cL_cell 1 = .ok (.aload_n 0, 1) := by decide +kernel
theorem dL_cell_2 : decode cL_cell 2 = .ok (.arraylength, 1) := by decide +kernel
theorem dL_cell_3 : decode cL_cell 3 = .ok (.if_icmp .ge 9, 3) := by decide +kernel
theorem dL_cell_6 : decode cL_cell 6 = .ok (.aload_n 0, 1) := by decide +kernel
theorem dL_cell_7 : decode cL_cell 7 = .ok (.iload_n 1, 1) := by decide +kernel
theorem dL_cell_8 : decode cL_cell 8 = .ok (.iaload, 1) := by decide +kernel
theorem dL_cell_9 : decode cL_cell 9 = .ok (.goto 15, 3) := by decide +kernel
theorem dL_cell_12 : decode cL_cell 12 = .ok (.ldc 7, 2) := by decide +kernel
theorem dL_cell_14 : decode cL_cell 14 = .ok (.iload_n 1, 1) := by decide +kernel
theorem dL_cell_15 : decode cL_cell 15 = .ok (.sipush 911, 3) := by decide +kernel
theorem dL_cell_18 : decode cL_cell 18 = .ok (.iadd, 1) := by decide +kernel
theorem dL_cell_19 : decode cL_cell 19 = .ok (.imul, 1) := by decide +kernel
theorem dL_cell_20 : decode cL_cell 20 = .ok (.sipush 739, 3) := by decide +kernel
theorem dL_cell_23 : decode cL_cell 23 = .ok (.iadd, 1) := by decide +kernel
theorem dL_cell_24 : decode cL_cell 24 = .ok (.ireturn, 1) := by decide +kernel
theorem dL_low_0 : decode cL_low 0 = .ok (.iload_n 0, 1) := by decide +kernel
theorem dL_low_1 : decode cL_low 1 = .ok (.ldc 8, 2) := by decide +kernel
theorem dL_low_3 : decode cL_low 3 = .ok (.iand, 1) := by decide +kernel
theorem dL_low_4 : decode cL_low 4 = .ok (.iload_n 1, 1) := by decide +kernel
theorem dL_low_5 : decode cL_low 5 = .ok (.irem, 1) := by decide +kernel
theorem dL_low_6 : decode cL_low 6 = .ok (.ireturn, 1) := by decide +kernel
set_option maxRecDepth 20000 in
theorem ggL_say_X9_append : GoodIn wsL_say wsX9_append := goodIn_r _ [5, 6, 7, 8, 9, 10, 11, 12, 13, 14, 15, 16, 17, 18, 19, 20, 21, 22, 23, 24, 25, 26, 27] (by decide +kernel) (by decide +kernel)
set_option maxRecDepth 20000 in
theorem gL_say_X9_append : GoodIn wsL_say (wsV RL 9 RX9 yX9_append wsX9_append) := goodIn_app (goodIn_of _ (by decide +kernel)) ggL_say_X9_append
theorem dL_say_0 : decode cL_say 0 = .ok (.iload_n 1, 1) := by decide +kernel
theorem dL_say_1 : decode cL_say 1 = .ok (.ifCond .lt 20, 3) := by decide +kernel
theorem dL_say_4 : decode cL_say 4 = .ok (.aload_n 0, 1) := by decide +kernel
theorem dL_say_5 : decode cL_say 5 = .ok (.iload_n 2, 1) := by decide +kernel
theorem dL_say_6 : decode cL_say 6 = .ok (.invokevirtual 9, 3) := by decide +kernel
theorem dL_say_9 : decode cL_say 9 = .ok (.iload_n 1, 1) := by decide +kernel
theorem dL_say_10 : decode cL_say 10 = .ok (.iconst 1, 1) := by decide +kernel
theorem dL_say_11 : decode cL_say 11 = .ok (.iadd, 1) := by decide +kernel
theorem dL_say_12 : decode cL_say 12 = .ok (.if_icmp .ne 9, 3) := by decide +kernel
theorem dL_say_15 : decode cL_say 15 = .ok (.iload_n 1, 1) := by decide +kernel
theorem dL_say_16 : decode cL_say 16 = .ok (.iconst 1, 1) := by decide +kernel
theorem dL_say_17 : decode cL_say 17 = .ok (.iadd, 1) := by decide +kernel
theorem dL_say_18 : decode cL_say 18 = .ok (.goto 4, 3) := by decide +kernel
theorem dL_say_21 : decode cL_say 21 = .ok (.iconst (-1), 1) := by decide +kernel
theorem dL_say_22 : decode cL_say 22 = .ok (.ireturn, 1) := by decide +kernel
set_option maxRecDepth 20000 in
theorem ggL_load_L_cell : GoodIn wsL_load wsL_cell := goodIn_r _ [4, 5] (by decide +kernel) (by decide +kernel)
set_option maxRecDepth 20000 in
theorem gL_load_L_cell : GoodIn wsL_load (va_wsS RL 15 yL_cell wsL_cell) := goodIn_app (goodIn_of _ (by decide +kernel)) ggL_load_L_cell
set_option maxRecDepth 20000 in
theorem ggL_load_L_low : GoodIn wsL_load wsL_low := goodIn_r _ [8, 9] (by decide +kernel) (by decide +kernel)
set_option maxRecDepth 20000 in
theorem gL_load_L_low : GoodIn wsL_load (va_wsS RL 21 yL_low wsL_low) := goodIn_app (goodIn_of _ (by decide +kernel)) ggL_load_L_low
set_option maxRecDepth 20000 in
theorem ggL_load_X9_clearText : GoodIn wsL_load wsX9_clearText := goodIn_r _ [14, 15, 16, 150, 151, 152, 153, 154, 155, 156, 157, 158, 159, 160] (by decide +kernel) (by decide +kernel)
set_option maxRecDepth 20000 in
theorem gL_load_X9_clearText : GoodIn wsL_load (wsV RL 25 RX9 yX9_clearText wsX9_clearText) := goodIn_app (goodIn_of _ (by decide +kernel)) ggL_load_X9_clearText
set_option maxRecDepth 20000 in
theorem ggL_load_L_say : GoodIn wsL_load wsL_say := goodIn_r _ [19, 20, 21, 22, 13, 23, 24, 15, 16, 25, 26, 27, 28, 29, 30, 31, 32, 150, 151, 152, 153, 154, 155, 156, 157, 158, 159, 160] (by decide +kernel) (by decide +kernel)
set_option maxRecDepth 20000 in
theorem gL_load_L_say : GoodIn wsL_load (va_wsS RL 29 yL_say wsL_say) := goodIn_app (goodIn_of _ (by decide +kernel)) ggL_load_L_say
set_option maxRecDepth 20000 in
theorem ggL_load_X9_load : GoodIn wsL_load wsX9_load := goodIn_r _ [36, 37, 15, 38, 16, 39, 40, 41, 42, 43, 44, 45, 46, 47, 48, 49, 50, 51, 52, 53, 54, 55, 56, 57, 58, 59, 29, 60, 61, 62, 63, 64, 65, 66, 67, 68, 31, 32, 69, 70, 71, 72, 73, 74, 75, 76, 77, 78, 79, 80, 81, 82, 83, 84, 85, 86, 87, 88, 89, 90, 91, 92, 93, 94, 95, 96, 97, 98, 99, 100, 101, 102, 103, 104, 105, 106, 107, 108, 109, 110, 111, 112, 113, 114, 115, 116, 117, 118, 119, 120, 13, 121, 122, 123, 124, 125, 126, 127, 128, 129, 130, 131, 132, 133, 134, 135, 136, 137, 138, 139, 140, 141, 142, 143, 144, 145, 146, 147, 148, 149, 150, 151, 152, 153, 154, 155, 156, 157, 158, 159, 160, 161, 162, 163, 164, 165, 166, 167, 168, 169, 170, 171, 172] (by decide +kernel) (by decide +kernel)
set_option maxRecDepth 20000 in
theorem gL_load_X9_load : GoodIn wsL_load (wsV RL 33 RX9 yX9_load wsX9_load) := goodIn_app (goodIn_of _ (by decide +kernel)) ggL_load_X9_load
theorem dL_load_0 : decode cL_load 0 = .ok (.aload_n 2, 1) := by decide +kernel
theorem dL_load_1 : decode cL_load 1 = .ok (.iload_n 3, 1) := by decide +kernel
theorem dL_load_2 : decode cL_load 2 = .ok (.invokestatic 15, 3) := by decide +kernel
theorem dL_load_5 : decode cL_load 5 = .ok (.istore 5, 2) := by decide +kernel
theorem dL_load_7 : decode cL_load 7 = .ok (.iload 5, 2) := by decide +kernel
theorem dL_load_9 : decode cL_load 9 = .ok (.iload 4, 2) := by decide +kernel
theorem dL_load_11 : decode cL_load 11 = .ok (.iconst 1, 1) := by decide +kernel
theorem dL_load_12 : decode cL_load 12 = .ok (.iadd, 1) := by decide +kernel
theorem dL_load_13 : decode cL_load 13 = .ok (.invokestatic 21, 3) := by decide +kernel
theorem dL_load_16 : decode cL_load 16 = .ok (.istore 6, 2) := by decide +kernel
theorem dL_load_18 : decode cL_load 18 = .ok (.iconst 0, 1) := by decide +kernel
theorem dL_load_19 : decode cL_load 19 = .ok (.istore 7, 2) := by decide +kernel
theorem dL_load_21 : decode cL_load 21 = .ok (.iload 7, 2) := by decide +kernel
theorem dL_load_23 : decode cL_load 23 = .ok (.iconst 4, 1) := by decide +kernel
theorem dL_load_24 : decode cL_load 24 = .ok (.iload 6, 2) := by decide +kernel
theorem dL_load_26 : decode cL_load 26 = .ok (.imul, 1) := by decide +kernel
theorem dL_load_27 : decode cL_load 27 = .ok (.if_icmp .ge 19, 3) := by decide +kernel
theorem dL_load_30 : decode cL_load 30 = .ok (.aload_n 1, 1) := by decide +kernel
theorem dL_load_31 : decode cL_load 31 = .ok (.iload 7, 2) := by decide +kernel
theorem dL_load_33 : decode cL_load 33 = .ok (.iload 7, 2) := by decide +kernel
theorem dL_load_35 : decode cL_load 35 = .ok (.iconst 2, 1) := by decide +kernel
theorem dL_load_36 : decode cL_load 36 = .ok (.idiv, 1) := by decide +kernel
theorem dL_load_37 : decode cL_load 37 = .ok (.iconst 1, 1) := by decide +kernel
theorem dL_load_38 : decode cL_load 38 = .ok (.iadd, 1) := by decide +kernel
theorem dL_load_39 : decode cL_load 39 = .ok (.iastore, 1) := by decide +kernel
theorem dL_load_40 : decode cL_load 40 = .ok (.iinc 7 1, 3) := by decide +kernel
theorem dL_load_43 : decode cL_load 43 = .ok (.goto (-22), 3) := by decide +kernel
theorem dL_load_46 : decode cL_load 46 = .ok (.iconst 0, 1) := by decide +kernel
theorem dL_load_47 : decode cL_load 47 = .ok (.istore 7, 2) := by decide +kernel
theorem dL_load_49 : decode cL_load 49 = .ok (.iload 7, 2) := by decide +kernel
theorem dL_load_51 : decode cL_load 51 = .ok (.iconst 4, 1) := by decide +kernel
theorem dL_load_52 : decode cL_load 52 = .ok (.iload 6, 2) := by decide +kernel
theorem dL_load_54 : decode cL_load 54 = .ok (.imul, 1) := by decide +kernel
theorem dL_load_55 : decode cL_load 55 = .ok (.if_icmp .ge 106, 3) := by decide +kernel
theorem dL_load_58 : decode cL_load 58 = .ok (.aload_n 2, 1) := by decide +kernel
theorem dL_load_59 : decode cL_load 59 = .ok (.iload_n 3, 1) := by decide +kernel
theorem dL_load_60 : decode cL_load 60 = .ok (.iconst 1, 1) := by decide +kernel
theorem dL_load_61 : decode cL_load 61 = .ok (.iadd, 1) := by decide +kernel
theorem dL_load_62 : decode cL_load 62 = .ok (.iload 7, 2) := by decide +kernel
theorem dL_load_64 : decode cL_load 64 = .ok (.bipush 11, 2) := by decide +kernel
theorem dL_load_66 : decode cL_load 66 = .ok (.irem, 1) := by decide +kernel
theorem dL_load_67 : decode cL_load 67 = .ok (.iadd, 1) := by decide +kernel
theorem dL_load_68 : decode cL_load 68 = .ok (.invokestatic 15, 3) := by decide +kernel
theorem dL_load_71 : decode cL_load 71 = .ok (.iload 7, 2) := by decide +kernel
theorem dL_load_73 : decode cL_load 73 = .ok (.bipush 11, 2) := by decide +kernel
theorem dL_load_75 : decode cL_load 75 = .ok (.idiv, 1) := by decide +kernel
theorem dL_load_76 : decode cL_load 76 = .ok (.iconst 3, 1) := by decide +kernel
theorem dL_load_77 : decode cL_load 77 = .ok (.imul, 1) := by decide +kernel
theorem dL_load_78 : decode cL_load 78 = .ok (.ishr, 1) := by decide +kernel
theorem dL_load_79 : decode cL_load 79 = .ok (.istore 8, 2) := by decide +kernel
theorem dL_load_81 : decode cL_load 81 = .ok (.iload 5, 2) := by decide +kernel
theorem dL_load_83 : decode cL_load 83 = .ok (.bipush 8, 2) := by decide +kernel
theorem dL_load_85 : decode cL_load 85 = .ok (.ishr, 1) := by decide +kernel
theorem dL_load_86 : decode cL_load 86 = .ok (.iconst 3, 1) := by decide +kernel
theorem dL_load_87 : decode cL_load 87 = .ok (.iand, 1) := by decide +kernel
theorem dL_load_88 : decode cL_load 88 = .ok (.ifCond .ne 15, 3) := by decide +kernel
theorem dL_load_91 : decode cL_load 91 = .ok (.iload 8, 2) := by decide +kernel
theorem dL_load_93 : decode cL_load 93 = .ok (.iconst 4, 1) := by decide +kernel
theorem dL_load_94 : decode cL_load 94 = .ok (.iload 6, 2) := by decide +kernel
theorem dL_load_96 : decode cL_load 96 = .ok (.imul, 1) := by decide +kernel
theorem dL_load_97 : decode cL_load 97 = .ok (.invokestatic 21, 3) := by decide +kernel
theorem dL_load_100 : decode cL_load 100 = .ok (.goto 33, 3) := by decide +kernel
theorem dL_load_103 : decode cL_load 103 = .ok (.iload 7, 2) := by decide +kernel
theorem dL_load_105 : decode cL_load 105 = .ok (.iload 8, 2) := by decide +kernel
theorem dL_load_107 : decode cL_load 107 = .ok (.iconst 4, 1) := by decide +kernel
theorem dL_load_108 : decode cL_load 108 = .ok (.iload 6, 2) := by decide +kernel
theorem dL_load_110 : decode cL_load 110 = .ok (.imul, 1) := by decide +kernel
theorem dL_load_111 : decode cL_load 111 = .ok (.iload 7, 2) := by decide +kernel
theorem dL_load_113 : decode cL_load 113 = .ok (.isub, 1) := by decide +kernel
theorem dL_load_114 : decode cL_load 114 = .ok (.iconst 4, 1) := by decide +kernel
theorem dL_load_115 : decode cL_load 115 = .ok (.if_icmp .ge 13, 3) := by decide +kernel
theorem dL_load_118 : decode cL_load 118 = .ok (.iconst 4, 1) := by decide +kernel
theorem dL_load_119 : decode cL_load 119 = .ok (.iload 6, 2) := by decide +kernel
theorem dL_load_121 : decode cL_load 121 = .ok (.imul, 1) := by decide +kernel
theorem dL_load_122 : decode cL_load 122 = .ok (.iload 7, 2) := by decide +kernel
theorem dL_load_124 : decode cL_load 124 = .ok (.isub, 1) := by decide +kernel
theorem dL_load_125 : decode cL_load 125 = .ok (.goto 4, 3) := by decide +kernel
theorem dL_load_128 : decode cL_load 128 = .ok (.iconst 4, 1) := by decide +kernel
theorem dL_load_129 : decode cL_load 129 = .ok (.invokestatic 21, 3) := by decide +kernel
theorem dL_load_132 : decode cL_load 132 = .ok (.iadd, 1) := by decide +kernel
theorem dL_load_133 : decode cL_load 133 = .ok (.istore 9, 2) := by decide +kernel
theorem dL_load_135 : decode cL_load 135 = .ok (.aload_n 1, 1) := by decide +kernel
theorem dL_load_136 : decode cL_load 136 = .ok (.iload 7, 2) := by decide +kernel
theorem dL_load_138 : decode cL_load 138 = .ok (.iaload, 1) := by decide +kernel
theorem dL_load_139 : decode cL_load 139 = .ok (.istore 10, 2) := by decide +kernel
theorem dL_load_141 : decode cL_load 141 = .ok (.aload_n 1, 1) := by decide +kernel
theorem dL_load_142 : decode cL_load 142 = .ok (.iload 7, 2) := by decide +kernel
theorem dL_load_144 : decode cL_load 144 = .ok (.aload_n 1, 1) := by decide +kernel
theorem dL_load_145 : decode cL_load 145 = .ok (.iload 9, 2) := by decide +kernel
theorem dL_load_147 : decode cL_load 147 = .ok (.iaload, 1) := by decide +kernel
theorem dL_load_148 : decode cL_load 148 = .ok (.iastore, 1) := by decide +kernel
theorem dL_load_149 : decode cL_load 149 = .ok (.aload_n 1, 1) := by decide +kernel
theorem dL_load_150 : decode cL_load 150 = .ok (.iload 9, 2) := by decide +kernel
theorem dL_load_152 : decode cL_load 152 = .ok (.iload 10, 2) := by decide +kernel
theorem dL_load_154 : decode cL_load 154 = .ok (.iastore, 1) := by decide +kernel
theorem dL_load_155 : decode cL_load 155 = .ok (.iinc 7 1, 3) := by decide +kernel
theorem dL_load_158 : decode cL_load 158 = .ok (.goto (-109), 3) := by decide +kernel
theorem dL_load_161 : decode cL_load 161 = .ok (.aload_n 0, 1) := by decide +kernel
theorem dL_load_162 : decode cL_load 162 = .ok (.invokevirtual 25, 3) := by decide +kernel
theorem dL_load_165 : decode cL_load 165 = .ok (.pop, 1) := by decide +kernel
theorem dL_load_166 : decode cL_load 166 = .ok (.iconst 0, 1) := by decide +kernel
theorem dL_load_167 : decode cL_load 167 = .ok (.istore 7, 2) := by decide +kernel
theorem dL_load_169 : decode cL_load 169 = .ok (.iconst 0, 1) := by decide +kernel
theorem dL_load_170 : decode cL_load 170 = .ok (.istore 8, 2) := by decide +kernel
theorem dL_load_172 : decode cL_load 172 = .ok (.iload 8, 2) := by decide +kernel
theorem dL_load_174 : decode cL_load 174 = .ok (.iconst 4, 1) := by decide +kernel
theorem dL_load_175 : decode cL_load 175 = .ok (.iload 6, 2) := by decide +kernel
theorem dL_load_177 : decode cL_load 177 = .ok (.imul, 1) := by decide +kernel
theorem dL_load_178 : decode cL_load 178 = .ok (.if_icmp .ge 102, 3) := by decide +kernel
theorem dL_load_181 : decode cL_load 181 = .ok (.iload 8, 2) := by decide +kernel
theorem dL_load_183 : decode cL_load 183 = .ok (.iconst 4, 1) := by decide +kernel
theorem dL_load_184 : decode cL_load 184 = .ok (.irem, 1) := by decide +kernel
theorem dL_load_185 : decode cL_load 185 = .ok (.ifCond .ne 14, 3) := by decide +kernel
theorem dL_load_188 : decode cL_load 188 = .ok (.aload_n 0, 1) := by decide +kernel
theorem dL_load_189 : decode cL_load 189 = .ok (.iload 7, 2) := by decide +kernel
theorem dL_load_191 : decode cL_load 191 = .ok (.bipush 120, 2) := by decide +kernel
theorem dL_load_193 : decode cL_load 193 = .ok (.invokestatic 29, 3) := by decide +kernel
theorem dL_load_196 : decode cL_load 196 = .ok (.goto 11, 3) := by decide +kernel
theorem dL_load_199 : decode cL_load 199 = .ok (.aload_n 0, 1) := by decide +kernel
theorem dL_load_200 : decode cL_load 200 = .ok (.iload 7, 2) := by decide +kernel
theorem dL_load_202 : decode cL_load 202 = .ok (.bipush 32, 2) := by decide +kernel
theorem dL_load_204 : decode cL_load 204 = .ok (.invokestatic 29, 3) := by decide +kernel
theorem dL_load_207 : decode cL_load 207 = .ok (.istore 7, 2) := by decide +kernel
theorem dL_load_209 : decode cL_load 209 = .ok (.aload_n 1, 1) := by decide +kernel
theorem dL_load_210 : decode cL_load 210 = .ok (.iload 8, 2) := by decide +kernel
theorem dL_load_212 : decode cL_load 212 = .ok (.iaload, 1) := by decide +kernel
theorem dL_load_213 : decode cL_load 213 = .ok (.bipush 9, 2) := by decide +kernel
theorem dL_load_215 : decode cL_load 215 = .ok (.if_icmp .le 14, 3) := by decide +kernel
theorem dL_load_218 : decode cL_load 218 = .ok (.aload_n 0, 1) := by decide +kernel
theorem dL_load_219 : decode cL_load 219 = .ok (.iload 7, 2) := by decide +kernel
theorem dL_load_221 : decode cL_load 221 = .ok (.bipush 49, 2) := by decide +kernel
theorem dL_load_223 : decode cL_load 223 = .ok (.invokestatic 29, 3) := by decide +kernel
theorem dL_load_226 : decode cL_load 226 = .ok (.goto 5, 3) := by decide +kernel
theorem dL_load_229 : decode cL_load 229 = .ok (.iload 7, 2) := by decide +kernel
theorem dL_load_231 : decode cL_load 231 = .ok (.istore 7, 2) := by decide +kernel
theorem dL_load_233 : decode cL_load 233 = .ok (.aload_n 0, 1) := by decide +kernel
theorem dL_load_234 : decode cL_load 234 = .ok (.iload 7, 2) := by decide +kernel
theorem dL_load_236 : decode cL_load 236 = .ok (.bipush 48, 2) := by decide +kernel
theorem dL_load_238 : decode cL_load 238 = .ok (.aload_n 1, 1) := by decide +kernel
theorem dL_load_239 : decode cL_load 239 = .ok (.iload 8, 2) := by decide +kernel
theorem dL_load_241 : decode cL_load 241 = .ok (.iaload, 1) := by decide +kernel
theorem dL_load_242 : decode cL_load 242 = .ok (.bipush 10, 2) := by decide +kernel
theorem dL_load_244 : decode cL_load 244 = .ok (.irem, 1) := by decide +kernel
theorem dL_load_245 : decode cL_load 245 = .ok (.iadd, 1) := by decide +kernel
theorem dL_load_246 : decode cL_load 246 = .ok (.invokestatic 29, 3) := by decide +kernel
theorem dL_load_249 : decode cL_load 249 = .ok (.istore 7, 2) := by decide +kernel
theorem dL_load_251 : decode cL_load 251 = .ok (.iload 8, 2) := by decide +kernel
theorem dL_load_253 : decode cL_load 253 = .ok (.iconst 4, 1) := by decide +kernel
theorem dL_load_254 : decode cL_load 254 = .ok (.irem, 1) := by decide +kernel
theorem dL_load_255 : decode cL_load 255 = .ok (.iconst 3, 1) := by decide +kernel
theorem dL_load_256 : decode cL_load 256 = .ok (.if_icmp .ne 14, 3) := by decide +kernel
theorem dL_load_259 : decode cL_load 259 = .ok (.aload_n 0, 1) := by decide +kernel
theorem dL_load_260 : decode cL_load 260 = .ok (.iload 7, 2) := by decide +kernel
theorem dL_load_262 : decode cL_load 262 = .ok (.bipush 59, 2) := by decide +kernel
theorem dL_load_264 : decode cL_load 264 = .ok (.invokestatic 29, 3) := by decide +kernel
theorem dL_load_267 : decode cL_load 267 = .ok (.goto 5, 3) := by decide +kernel
theorem dL_load_270 : decode cL_load 270 = .ok (.iload 7, 2) := by decide +kernel
theorem dL_load_272 : decode cL_load 272 = .ok (.istore 7, 2) := by decide +kernel
theorem dL_load_274 : decode cL_load 274 = .ok (.iinc 8 1, 3) := by decide +kernel
theorem dL_load_277 : decode cL_load 277 = .ok (.goto (-105), 3) := by decide +kernel
theorem dL_load_280 : decode cL_load 280 = .ok (.iload 6, 2) := by decide +kernel
theorem dL_load_282 : decode cL_load 282 = .ok (.ifCond .eq 12, 3) := by decide +kernel
theorem dL_load_285 : decode cL_load 285 = .ok (.iload 5, 2) := by decide +kernel
theorem dL_load_287 : decode cL_load 287 = .ok (.iconst 5, 1) := by decide +kernel
theorem dL_load_288 : decode cL_load 288 = .ok (.ishr, 1) := by decide +kernel
theorem dL_load_289 : decode cL_load 289 = .ok (.iconst 3, 1) := by decide +kernel
theorem dL_load_290 : decode cL_load 290 = .ok (.iand, 1) := by decide +kernel
theorem dL_load_291 : decode cL_load 291 = .ok (.ifCond .ne 19, 3) := by decide +kernel
theorem dL_load_294 : decode cL_load 294 = .ok (.aload_n 0, 1) := by decide +kernel
theorem dL_load_295 : decode cL_load 295 = .ok (.aload_n 0, 1) := by decide +kernel
theorem dL_load_296 : decode cL_load 296 = .ok (.iload 7, 2) := by decide +kernel
theorem dL_load_298 : decode cL_load 298 = .ok (.bipush 111, 2) := by decide +kernel
theorem dL_load_300 : decode cL_load 300 = .ok (.invokestatic 29, 3) := by decide +kernel
theorem dL_load_303 : decode cL_load 303 = .ok (.bipush 59, 2) := by decide +kernel
theorem dL_load_305 : decode cL_load 305 = .ok (.invokestatic 29, 3) := by decide +kernel
theorem dL_load_308 : decode cL_load 308 = .ok (.istore 7, 2) := by decide +kernel
theorem dL_load_310 : decode cL_load 310 = .ok (.iload 7, 2) := by decide +kernel
theorem dL_load_312 : decode cL_load 312 = .ok (.ifCond .le 16, 3) := by decide +kernel
theorem dL_load_315 : decode cL_load 315 = .ok (.aload_n 0, 1) := by decide +kernel
theorem dL_load_316 : decode cL_load 316 = .ok (.invokevirtual 33, 3) := by decide +kernel
theorem dL_load_319 : decode cL_load 319 = .ok (.iload 6, 2) := by decide +kernel
theorem dL_load_321 : decode cL_load 321 = .ok (.if_icmp .ne 7, 3) := by decide +kernel
theorem dL_load_324 : decode cL_load 324 = .ok (.iconst 1, 1) := by decide +kernel
theorem dL_load_325 : decode cL_load 325 = .ok (.goto 4, 3) := by decide +kernel
theorem dL_load_328 : decode cL_load 328 = .ok (.iconst 0, 1) := by decide +kernel
theorem dL_load_329 : decode cL_load 329 = .ok (.ireturn, 1) := by decide +kernel
set_option maxRecDepth 20000 in
theorem ggL_hash_X9_crossingCount : GoodIn wsL_hash wsX9_crossingCount := goodIn_r _ [7, 8, 9, 31, 32, 33, 34, 35, 36, 37, 38, 39, 40, 41, 42] (by decide +kernel) (by decide +kernel)
set_option maxRecDepth 20000 in
theorem gL_hash_X9_crossingCount : GoodIn wsL_hash (wsV RL 38 RX9 yX9_crossingCount wsX9_crossingCount) := goodIn_app (goodIn_of _ (by decide +kernel)) ggL_hash_X9_crossingCount
set_option maxRecDepth 20000 in
theorem ggL_hash_X9_circleCount : GoodIn wsL_hash wsX9_circleCount := goodIn_r _ [13, 8, 14, 31, 32, 33, 34, 35, 36, 37, 38, 39, 40, 41, 42] (by decide +kernel) (by decide +kernel)
set_option maxRecDepth 20000 in
theorem gL_hash_X9_circleCount : GoodIn wsL_hash (wsV RL 41 RX9 yX9_circleCount wsX9_circleCount) := goodIn_app (goodIn_of _ (by decide +kernel)) ggL_hash_X9_circleCount
set_option maxRecDepth 20000 in
theorem ggL_hash_X9_arcAt : GoodIn wsL_hash wsX9_arcAt := goodIn_r _ [18, 8, 19, 20, 21, 22, 23, 24, 25, 26, 27, 28, 29, 30, 31, 32, 33, 34, 35, 36, 37, 38, 39, 40, 41, 42] (by decide +kernel) (by decide +kernel)
set_option maxRecDepth 20000 in
theorem gL_hash_X9_arcAt : GoodIn wsL_hash (wsV RL 46 RX9 yX9_arcAt wsX9_arcAt) := goodIn_app (goodIn_of _ (by decide +kernel)) ggL_hash_X9_arcAt
theorem dL_hash_0 : decode cL_hash 0 = .ok (.ldc2_w 36, 3) := by decide +kernel
theorem dL_hash_3 : decode cL_hash 3 = .ok (.aload_n 0, 1) := by decide +kernel
theorem dL_hash_4 : decode cL_hash 4 = .ok (.invokevirtual 38, 3) := by decide +kernel
theorem dL_hash_7 : decode cL_hash 7 = .ok (.i2l, 1) := by decide +kernel
theorem dL_hash_8 : decode cL_hash 8 = .ok (.lmul, 1) := by decide +kernel
theorem dL_hash_9 : decode cL_hash 9 = .ok (.aload_n 0, 1) := by decide +kernel
theorem dL_hash_10 : decode cL_hash 10 = .ok (.invokevirtual 41, 3) := by decide +kernel
theorem dL_hash_13 : decode cL_hash 13 = .ok (.i2l, 1) := by decide +kernel
theorem dL_hash_14 : decode cL_hash 14 = .ok (.ladd, 1) := by decide +kernel
theorem dL_hash_15 : decode cL_hash 15 = .ok (.lstore_n 1, 1) := by decide +kernel
theorem dL_hash_16 : decode cL_hash 16 = .ok (.iconst 0, 1) := by decide +kernel
theorem dL_hash_17 : decode cL_hash 17 = .ok (.istore_n 3, 1) := by decide +kernel
theorem dL_hash_18 : decode cL_hash 18 = .ok (.iload_n 3, 1) := by decide +kernel
theorem dL_hash_19 : decode cL_hash 19 = .ok (.iconst 4, 1) := by decide +kernel
theorem dL_hash_20 : decode cL_hash 20 = .ok (.aload_n 0, 1) := by decide +kernel
theorem dL_hash_21 : decode cL_hash 21 = .ok (.invokevirtual 38, 3) := by decide +kernel
theorem dL_hash_24 : decode cL_hash 24 = .ok (.imul, 1) := by decide +kernel
theorem dL_hash_25 : decode cL_hash 25 = .ok (.if_icmp .ge 27, 3) := by decide +kernel
theorem dL_hash_28 : decode cL_hash 28 = .ok (.ldc2_w 44, 3) := by decide +kernel
theorem dL_hash_31 : decode cL_hash 31 = .ok (.lload_n 1, 1) := by decide +kernel
theorem dL_hash_32 : decode cL_hash 32 = .ok (.lmul, 1) := by decide +kernel
theorem dL_hash_33 : decode cL_hash 33 = .ok (.aload_n 0, 1) := by decide +kernel
theorem dL_hash_34 : decode cL_hash 34 = .ok (.iload_n 3, 1) := by decide +kernel
theorem dL_hash_35 : decode cL_hash 35 = .ok (.iconst 4, 1) := by decide +kernel
theorem dL_hash_36 : decode cL_hash 36 = .ok (.idiv, 1) := by decide +kernel
theorem dL_hash_37 : decode cL_hash 37 = .ok (.iload_n 3, 1) := by decide +kernel
theorem dL_hash_38 : decode cL_hash 38 = .ok (.iconst 4, 1) := by decide +kernel
theorem dL_hash_39 : decode cL_hash 39 = .ok (.irem, 1) := by decide +kernel
theorem dL_hash_40 : decode cL_hash 40 = .ok (.invokevirtual 46, 3) := by decide +kernel
theorem dL_hash_43 : decode cL_hash 43 = .ok (.i2l, 1) := by decide +kernel
theorem dL_hash_44 : decode cL_hash 44 = .ok (.ladd, 1) := by decide +kernel
theorem dL_hash_45 : decode cL_hash 45 = .ok (.lstore_n 1, 1) := by decide +kernel
theorem dL_hash_46 : decode cL_hash 46 = .ok (.iinc 3 1, 3) := by decide +kernel
theorem dL_hash_49 : decode cL_hash 49 = .ok (.goto (-31), 3) := by decide +kernel
theorem dL_hash_52 : decode cL_hash 52 = .ok (.lload_n 1, 1) := by decide +kernel
theorem dL_hash_53 : decode cL_hash 53 = .ok (.lreturn, 1) := by decide +kernel
set_option maxRecDepth 20000 in
theorem ggL_bracket_X9_crossingCount : GoodIn wsL_bracket wsX9_crossingCount := goodIn_r _ [5, 6, 7, 119, 120, 121, 122, 123, 124, 125, 126, 127, 128, 129, 130] (by decide +kernel) (by decide +kernel)
set_option maxRecDepth 20000 in
theorem gL_bracket_X9_crossingCount : GoodIn wsL_bracket (wsV RL 38 RX9 yX9_crossingCount wsX9_crossingCount) := goodIn_app (goodIn_of _ (by decide +kernel)) ggL_bracket_X9_crossingCount
set_option maxRecDepth 20000 in
theorem ggL_bracket_X9_writhe : GoodIn wsL_bracket wsX9_writhe := goodIn_r _ [11, 6, 12, 13, 14, 15, 16, 17, 18, 19, 20, 21, 22, 23, 24, 25, 26, 27, 28, 29, 30, 31, 32, 33, 34, 35, 36, 37, 38, 39, 4, 40, 41, 42, 43, 44, 45, 46, 47, 48, 119, 120, 121, 122, 123, 124, 125, 126, 127, 128, 129, 130] (by decide +kernel) (by decide +kernel)
set_option maxRecDepth 20000 in
theorem gL_bracket_X9_writhe : GoodIn wsL_bracket (wsV RL 49 RX9 yX9_writhe wsX9_writhe) := goodIn_app (goodIn_of _ (by decide +kernel)) ggL_bracket_X9_writhe
set_option maxRecDepth 20000 in
theorem ggL_bracket_X9_normalizedCoefficient : GoodIn wsL_bracket wsX9_normalizedCoefficient := goodIn_r _ [52, 53, 54, 6, 55, 56, 4, 57, 58, 59, 60, 61, 62, 63, 64, 65, 66, 67, 68, 69, 70, 36, 37, 23, 38, 30, 31, 32, 33, 34, 25, 26, 27, 28, 29, 71, 72, 73, 74, 75, 76, 77, 78, 79, 80, 81, 39, 40, 82, 83, 84, 85, 44, 45, 86, 87, 88, 89, 90, 91, 92, 93, 94, 95, 96, 97, 98, 99, 100, 101, 102, 103, 104, 105, 106, 107, 108, 109, 110, 111, 112, 113, 12, 13, 14, 15, 16, 17, 18, 19, 20, 21, 22, 24, 35, 41, 42, 43, 46, 47, 48, 114, 119, 120, 121, 122, 123, 124, 125, 126, 127, 131, 132, 133, 134, 135, 128, 129, 130] (by decide +kernel) (by decide +kernel)
set_option maxRecDepth 20000 in
theorem gL_bracket_X9_normalizedCoefficient : GoodIn wsL_bracket (wsV RL 52 RX9 yX9_normalizedCoefficient wsX9_normalizedCoefficient) := goodIn_app (goodIn_of _ (by decide +kernel)) ggL_bracket_X9_normalizedCoefficient
set_option maxRecDepth 20000 in
theorem ggL_bracket_X9_coefficient : GoodIn wsL_bracket wsX9_coefficient := goodIn_r _ [118, 53, 54, 6, 55, 56, 4, 57, 58, 59, 60, 61, 62, 63, 64, 65, 66, 67, 68, 69, 70, 36, 37, 23, 38, 30, 31, 32, 33, 34, 25, 26, 27, 28, 29, 71, 72, 73, 74, 75, 76, 77, 78, 79, 80, 81, 39, 40, 82, 83, 84, 85, 44, 45, 86, 87, 88, 89, 90, 91, 92, 93, 94, 95, 96, 97, 98, 99, 100, 101, 102, 103, 104, 105, 106, 107, 108, 109, 110, 111, 112, 113, 114, 119, 120, 121, 122, 123, 124, 125, 126, 127, 131, 132, 133, 134, 135, 128, 129, 130] (by decide +kernel) (by decide +kernel)
set_option maxRecDepth 20000 in
theorem gL_bracket_X9_coefficient : GoodIn wsL_bracket (wsV RL 55 RX9 yX9_coefficient wsX9_coefficient) := goodIn_app (goodIn_of _ (by decide +kernel)) ggL_bracket_X9_coefficient
theorem dL_bracket_0 : decode cL_bracket 0 = .ok (.aload_n 0, 1) := by decide +kernel
theorem dL_bracket_1 : decode cL_bracket 1 = .ok (.invokevirtual 38, 3) := by decide +kernel
theorem dL_bracket_4 : decode cL_bracket 4 = .ok (.iload_n 2, 1) := by decide +kernel
theorem dL_bracket_5 : decode cL_bracket 5 = .ok (.ifCond .eq 10, 3) := by decide +kernel
theorem dL_bracket_8 : decode cL_bracket 8 = .ok (.aload_n 0, 1) := by decide +kernel
theorem dL_bracket_9 : decode cL_bracket 9 = .ok (.invokevirtual 49, 3) := by decide +kernel
theorem dL_bracket_12 : decode cL_bracket 12 = .ok (.goto 4, 3) := by decide +kernel
theorem dL_bracket_15 : decode cL_bracket 15 = .ok (.iconst 0, 1) := by decide +kernel
theorem dL_bracket_16 : decode cL_bracket 16 = .ok (.iadd, 1) := by decide +kernel
theorem dL_bracket_17 : decode cL_bracket 17 = .ok (.iconst 1, 1) := by decide +kernel
theorem dL_bracket_18 : decode cL_bracket 18 = .ok (.iand, 1) := by decide +kernel
theorem dL_bracket_19 : decode cL_bracket 19 = .ok (.istore_n 3, 1) := by decide +kernel
theorem dL_bracket_20 : decode cL_bracket 20 = .ok (.bipush 12, 2) := by decide +kernel
theorem dL_bracket_22 : decode cL_bracket 22 = .ok (.istore 4, 2) := by decide +kernel
theorem dL_bracket_24 : decode cL_bracket 24 = .ok (.iload 4, 2) := by decide +kernel
theorem dL_bracket_26 : decode cL_bracket 26 = .ok (.bipush 48, 2) := by decide +kernel
theorem dL_bracket_28 : decode cL_bracket 28 = .ok (.if_icmp .ge 43, 3) := by decide +kernel
theorem dL_bracket_31 : decode cL_bracket 31 = .ok (.iconst 2, 1) := by decide +kernel
theorem dL_bracket_32 : decode cL_bracket 32 = .ok (.iload 4, 2) := by decide +kernel
theorem dL_bracket_34 : decode cL_bracket 34 = .ok (.bipush 30, 2) := by decide +kernel
theorem dL_bracket_36 : decode cL_bracket 36 = .ok (.isub, 1) := by decide +kernel
theorem dL_bracket_37 : decode cL_bracket 37 = .ok (.imul, 1) := by decide +kernel
theorem dL_bracket_38 : decode cL_bracket 38 = .ok (.iload_n 3, 1) := by decide +kernel
theorem dL_bracket_39 : decode cL_bracket 39 = .ok (.iadd, 1) := by decide +kernel
theorem dL_bracket_40 : decode cL_bracket 40 = .ok (.istore 5, 2) := by decide +kernel
theorem dL_bracket_42 : decode cL_bracket 42 = .ok (.aload_n 1, 1) := by decide +kernel
theorem dL_bracket_43 : decode cL_bracket 43 = .ok (.iload 4, 2) := by decide +kernel
theorem dL_bracket_45 : decode cL_bracket 45 = .ok (.iload_n 2, 1) := by decide +kernel
theorem dL_bracket_46 : decode cL_bracket 46 = .ok (.ifCond .eq 12, 3) := by decide +kernel
theorem dL_bracket_49 : decode cL_bracket 49 = .ok (.aload_n 0, 1) := by decide +kernel
theorem dL_bracket_50 : decode cL_bracket 50 = .ok (.iload 5, 2) := by decide +kernel
theorem dL_bracket_52 : decode cL_bracket 52 = .ok (.invokevirtual 52, 3) := by decide +kernel
theorem dL_bracket_55 : decode cL_bracket 55 = .ok (.goto 9, 3) := by decide +kernel
theorem dL_bracket_58 : decode cL_bracket 58 = .ok (.aload_n 0, 1) := by decide +kernel
theorem dL_bracket_59 : decode cL_bracket 59 = .ok (.iload 5, 2) := by decide +kernel
theorem dL_bracket_61 : decode cL_bracket 61 = .ok (.invokevirtual 55, 3) := by decide +kernel
theorem dL_bracket_64 : decode cL_bracket 64 = .ok (.iastore, 1) := by decide +kernel
theorem dL_bracket_65 : decode cL_bracket 65 = .ok (.iinc 4 1, 3) := by decide +kernel
theorem dL_bracket_68 : decode cL_bracket 68 = .ok (.goto (-44), 3) := by decide +kernel
theorem dL_bracket_71 : decode cL_bracket 71 = .ok (.aload_n 1, 1) := by decide +kernel
theorem dL_bracket_72 : decode cL_bracket 72 = .ok (.bipush 60, 2) := by decide +kernel
theorem dL_bracket_74 : decode cL_bracket 74 = .ok (.iload_n 3, 1) := by decide +kernel
theorem dL_bracket_75 : decode cL_bracket 75 = .ok (.iastore, 1) := by decide +kernel
theorem dL_bracket_76 : decode cL_bracket 76 = .ok (.return_, 1) := by decide +kernel
set_option maxRecDepth 20000 in
theorem ggL_sound_X9_crossingCount : GoodIn wsL_sound wsX9_crossingCount := goodIn_r _ [6, 7, 8, 305, 306, 307, 308, 309, 310, 311, 312, 313, 314, 315, 316] (by decide +kernel) (by decide +kernel)
set_option maxRecDepth 20000 in
theorem gL_sound_X9_crossingCount : GoodIn wsL_sound (wsV RL 38 RX9 yX9_crossingCount wsX9_crossingCount) := goodIn_app (goodIn_of _ (by decide +kernel)) ggL_sound_X9_crossingCount
set_option maxRecDepth 20000 in
theorem ggL_sound_X9_genus : GoodIn wsL_sound wsX9_genus := goodIn_r _ [12, 7, 8, 13, 14, 15, 5, 16, 17, 18, 19, 20, 21, 22, 23, 24, 25, 26, 27, 28, 29, 30, 31, 32, 33, 34, 35, 36, 37, 38, 39, 40, 41, 42, 43, 44, 45, 46, 47, 48, 49, 50, 51, 52, 53, 54, 55, 305, 306, 307, 308, 309, 310, 311, 312, 313, 314, 315, 316] (by decide +kernel) (by decide +kernel)
set_option maxRecDepth 20000 in
theorem gL_sound_X9_genus : GoodIn wsL_sound (wsV RL 58 RX9 yX9_genus wsX9_genus) := goodIn_app (goodIn_of _ (by decide +kernel)) ggL_sound_X9_genus
set_option maxRecDepth 20000 in
theorem ggL_sound_X9_crossingSign : GoodIn wsL_sound wsX9_crossingSign := goodIn_r _ [59, 7, 60, 61, 62, 63, 33, 64, 35, 65, 66, 67, 68, 69, 70, 71, 72, 45, 31, 32, 34, 40, 41, 42, 43, 44, 73, 37, 38, 39, 23, 5, 24, 74, 75, 76, 28, 29, 77, 78, 79, 305, 306, 307, 308, 309, 310, 311, 312, 313, 314, 315, 316] (by decide +kernel) (by decide +kernel)
set_option maxRecDepth 20000 in
theorem gL_sound_X9_crossingSign : GoodIn wsL_sound (wsV RL 61 RX9 yX9_crossingSign wsX9_crossingSign) := goodIn_app (goodIn_of _ (by decide +kernel)) ggL_sound_X9_crossingSign
set_option maxRecDepth 20000 in
theorem ggL_sound_X9_bigonPartner : GoodIn wsL_sound wsX9_bigonPartner := goodIn_r _ [83, 7, 60, 8, 84, 61, 62, 63, 33, 64, 35, 85, 86, 87, 88, 89, 90, 91, 92, 93, 94, 95, 41, 42, 43, 44, 305, 306, 307, 308, 309, 310, 311, 312, 313, 314, 315, 316] (by decide +kernel) (by decide +kernel)
set_option maxRecDepth 20000 in
theorem gL_sound_X9_bigonPartner : GoodIn wsL_sound (wsV RL 64 RX9 yX9_bigonPartner wsX9_bigonPartner) := goodIn_app (goodIn_of _ (by decide +kernel)) ggL_sound_X9_bigonPartner
set_option maxRecDepth 20000 in
theorem ggL_sound_X9_isKink : GoodIn wsL_sound wsX9_isKink := goodIn_r _ [99, 7, 60, 61, 62, 63, 33, 64, 35, 100, 101, 87, 102, 92, 93, 94, 95, 41, 42, 43, 44, 305, 306, 307, 308, 309, 310, 311, 312, 313, 314, 315, 316] (by decide +kernel) (by decide +kernel)
set_option maxRecDepth 20000 in
theorem gL_sound_X9_isKink : GoodIn wsL_sound (wsV RL 67 RX9 yX9_isKink wsX9_isKink) := goodIn_app (goodIn_of _ (by decide +kernel)) ggL_sound_X9_isKink
set_option maxRecDepth 20000 in
theorem ggL_sound_X9_arcAt : GoodIn wsL_sound wsX9_arcAt := goodIn_r _ [106, 7, 60, 61, 62, 63, 33, 64, 35, 107, 41, 42, 43, 44, 305, 306, 307, 308, 309, 310, 311, 312, 313, 314, 315, 316] (by decide +kernel) (by decide +kernel)
set_option maxRecDepth 20000 in
theorem gL_sound_X9_arcAt : GoodIn wsL_sound (wsV RL 46 RX9 yX9_arcAt wsX9_arcAt) := goodIn_app (goodIn_of _ (by decide +kernel)) ggL_sound_X9_arcAt
set_option maxRecDepth 20000 in
theorem ggL_sound_X9_stateLoops : GoodIn wsL_sound wsX9_stateLoops := goodIn_r _ [111, 7, 8, 60, 112, 113, 114, 115, 116, 117, 118, 119, 120, 121, 122, 123, 37, 38, 33, 39, 40, 41, 42, 43, 44, 45, 31, 32, 34, 35, 124, 125, 126, 127, 128, 129, 23, 5, 24, 130, 131, 132, 133, 28, 29, 305, 306, 307, 308, 309, 310, 311, 312, 313, 314, 315, 316, 317, 318, 319, 320, 321] (by decide +kernel) (by decide +kernel)
set_option maxRecDepth 20000 in
theorem gL_sound_X9_stateLoops : GoodIn wsL_sound (wsV RL 70 RX9 yX9_stateLoops wsX9_stateLoops) := goodIn_app (goodIn_of _ (by decide +kernel)) ggL_sound_X9_stateLoops
set_option maxRecDepth 20000 in
theorem ggL_sound_X9_lowestExponent : GoodIn wsL_sound wsX9_lowestExponent := goodIn_r _ [137, 112, 7, 138, 139, 140, 116, 141, 142, 143, 118, 119, 120, 121, 122, 123, 37, 38, 33, 39, 40, 41, 42, 43, 44, 45, 31, 32, 34, 35, 144, 145, 146, 147, 148, 124, 125, 126, 127, 128, 129, 23, 5, 24, 130, 131, 132, 133, 28, 29, 149, 150, 151, 152, 153, 154, 155, 156, 157, 158, 159, 160, 161, 162, 163, 164, 165, 166, 167, 168, 169, 170, 171, 172, 173, 174, 175, 176, 177, 178, 179, 180, 181, 305, 306, 307, 308, 309, 310, 311, 312, 313, 317, 318, 319, 320, 321, 314, 315, 316] (by decide +kernel) (by decide +kernel)
set_option maxRecDepth 20000 in
theorem gL_sound_X9_lowestExponent : GoodIn wsL_sound (wsV RL 73 RX9 yX9_lowestExponent wsX9_lowestExponent) := goodIn_app (goodIn_of _ (by decide +kernel)) ggL_sound_X9_lowestExponent
set_option maxRecDepth 20000 in
theorem ggL_sound_X9_highestExponent : GoodIn wsL_sound wsX9_highestExponent := goodIn_r _ [185, 112, 7, 138, 139, 140, 116, 141, 142, 143, 118, 119, 120, 121, 122, 123, 37, 38, 33, 39, 40, 41, 42, 43, 44, 45, 31, 32, 34, 35, 144, 145, 146, 147, 148, 124, 125, 126, 127, 128, 129, 23, 5, 24, 130, 131, 132, 133, 28, 29, 149, 150, 151, 152, 153, 154, 155, 156, 157, 158, 159, 160, 161, 162, 163, 164, 165, 166, 167, 168, 169, 170, 171, 172, 173, 174, 175, 176, 186, 187, 188, 189, 181, 305, 306, 307, 308, 309, 310, 311, 312, 313, 317, 318, 319, 320, 321, 314, 315, 316] (by decide +kernel) (by decide +kernel)
set_option maxRecDepth 20000 in
theorem gL_sound_X9_highestExponent : GoodIn wsL_sound (wsV RL 76 RX9 yX9_highestExponent wsX9_highestExponent) := goodIn_app (goodIn_of _ (by decide +kernel)) ggL_sound_X9_highestExponent
set_option maxRecDepth 20000 in
theorem ggL_sound_X9_componentCount : GoodIn wsL_sound wsX9_componentCount := goodIn_r _ [193, 7, 17, 194, 195, 67, 196, 197, 31, 32, 33, 34, 35, 23, 5, 24, 74, 75, 76, 28, 29, 73, 37, 38, 39, 40, 41, 42, 43, 44, 45, 305, 306, 307, 308, 309, 310, 311, 312, 313, 314, 315, 316] (by decide +kernel) (by decide +kernel)
set_option maxRecDepth 20000 in
theorem gL_sound_X9_componentCount : GoodIn wsL_sound (wsV RL 80 RX9 yX9_componentCount wsX9_componentCount) := goodIn_app (goodIn_of _ (by decide +kernel)) ggL_sound_X9_componentCount
set_option maxRecDepth 20000 in
theorem ggL_sound_X9_partCount : GoodIn wsL_sound wsX9_partCount := goodIn_r _ [16, 7, 17, 18, 19, 20, 21, 22, 23, 5, 24, 25, 26, 27, 28, 29, 30, 31, 32, 33, 34, 35, 36, 37, 38, 39, 40, 41, 42, 43, 44, 45, 305, 306, 307, 308, 309, 310, 311, 312, 313, 314, 315, 316] (by decide +kernel) (by decide +kernel)
set_option maxRecDepth 20000 in
theorem gL_sound_X9_partCount : GoodIn wsL_sound (wsV RL 83 RX9 yX9_partCount wsX9_partCount) := goodIn_app (goodIn_of _ (by decide +kernel)) ggL_sound_X9_partCount
set_option maxRecDepth 20000 in
theorem ggL_sound_X9_faceCount : GoodIn wsL_sound wsX9_faceCount := goodIn_r _ [49, 7, 17, 50, 51, 20, 52, 30, 31, 32, 33, 34, 35, 23, 5, 24, 53, 54, 55, 28, 29, 36, 37, 38, 39, 40, 41, 42, 43, 44, 45, 305, 306, 307, 308, 309, 310, 311, 312, 313, 314, 315, 316] (by decide +kernel) (by decide +kernel)
set_option maxRecDepth 20000 in
theorem gL_sound_X9_faceCount : GoodIn wsL_sound (wsV RL 86 RX9 yX9_faceCount wsX9_faceCount) := goodIn_app (goodIn_of _ (by decide +kernel)) ggL_sound_X9_faceCount
set_option maxRecDepth 20000 in
theorem ggL_sound_X9_writhe : GoodIn wsL_sound wsX9_writhe := goodIn_r _ [203, 7, 204, 205, 67, 206, 207, 208, 66, 68, 69, 70, 71, 33, 72, 45, 31, 32, 34, 35, 40, 41, 42, 43, 44, 73, 37, 38, 39, 23, 5, 24, 74, 75, 76, 28, 29, 209, 78, 79, 305, 306, 307, 308, 309, 310, 311, 312, 313, 314, 315, 316] (by decide +kernel) (by decide +kernel)
set_option maxRecDepth 20000 in
theorem gL_sound_X9_writhe : GoodIn wsL_sound (wsV RL 49 RX9 yX9_writhe wsX9_writhe) := goodIn_app (goodIn_of _ (by decide +kernel)) ggL_sound_X9_writhe
set_option maxRecDepth 20000 in
theorem ggL_sound_X9_coefficient : GoodIn wsL_sound wsX9_coefficient := goodIn_r _ [213, 60, 112, 7, 214, 215, 5, 216, 138, 139, 140, 116, 141, 142, 143, 118, 119, 120, 121, 122, 123, 37, 38, 33, 39, 40, 41, 42, 43, 44, 45, 31, 32, 34, 35, 144, 145, 146, 147, 148, 124, 125, 126, 127, 128, 129, 23, 24, 130, 131, 132, 133, 28, 29, 149, 150, 151, 152, 153, 154, 155, 156, 157, 158, 159, 160, 161, 162, 163, 164, 165, 166, 167, 168, 169, 170, 171, 172, 173, 174, 175, 176, 217, 305, 306, 307, 308, 309, 310, 311, 312, 313, 317, 318, 319, 320, 321, 314, 315, 316] (by decide +kernel) (by decide +kernel)
set_option maxRecDepth 20000 in
theorem gL_sound_X9_coefficient : GoodIn wsL_sound (wsV RL 55 RX9 yX9_coefficient wsX9_coefficient) := goodIn_app (goodIn_of _ (by decide +kernel)) ggL_sound_X9_coefficient
set_option maxRecDepth 20000 in
theorem ggL_sound_X9_determinant : GoodIn wsL_sound wsX9_determinant := goodIn_r _ [221, 112, 7, 138, 139, 140, 116, 141, 142, 143, 118, 119, 120, 121, 122, 123, 37, 38, 33, 39, 40, 41, 42, 43, 44, 45, 31, 32, 34, 35, 144, 145, 146, 147, 148, 124, 125, 126, 127, 128, 129, 23, 5, 24, 130, 131, 132, 133, 28, 29, 149, 150, 151, 152, 153, 154, 155, 156, 157, 158, 159, 160, 161, 162, 163, 164, 165, 166, 167, 168, 169, 170, 171, 172, 173, 174, 175, 176, 222, 223, 224, 225, 181, 226, 227, 228, 229, 230, 178, 179, 180, 305, 306, 307, 308, 309, 310, 311, 312, 313, 317, 318, 319, 320, 321, 314, 315, 316] (by decide +kernel) (by decide +kernel)
set_option maxRecDepth 20000 in
theorem gL_sound_X9_determinant : GoodIn wsL_sound (wsV RL 89 RX9 yX9_determinant wsX9_determinant) := goodIn_app (goodIn_of _ (by decide +kernel)) ggL_sound_X9_determinant
set_option maxRecDepth 20000 in
theorem ggL_sound_X9_colouringDimension : GoodIn wsL_sound wsX9_colouringDimension := goodIn_r _ [234, 60, 235, 7, 236, 237, 238, 239, 240, 241, 242, 243, 244, 245, 246, 247, 248, 249, 228, 250, 251, 252, 253, 254, 41, 42, 33, 43, 44, 255, 256, 257, 258, 259, 260, 261, 262, 263, 264, 265, 266, 267, 268, 269, 270, 271, 272, 273, 274, 275, 276, 277, 278, 279, 280, 281, 282, 283, 284, 285, 286, 287, 288, 70, 71, 72, 45, 31, 32, 34, 35, 40, 289, 290, 291, 292, 293, 294, 295, 296, 297, 298, 299, 300, 301, 302, 303, 304, 305, 306, 307, 308, 309, 310, 311, 312, 313, 314, 315, 316, 322, 323] (by decide +kernel) (by decide +kernel)
set_option maxRecDepth 20000 in
theorem gL_sound_X9_colouringDimension : GoodIn wsL_sound (wsV RL 92 RX9 yX9_colouringDimension wsX9_colouringDimension) := goodIn_app (goodIn_of _ (by decide +kernel)) ggL_sound_X9_colouringDimension
theorem dL_sound_0 : decode cL_sound 0 = .ok (.aload_n 0, 1) := by decide +kernel
theorem dL_sound_1 : decode cL_sound 1 = .ok (.invokevirtual 38, 3) := by decide +kernel
theorem dL_sound_4 : decode cL_sound 4 = .ok (.istore_n 1, 1) := by decide +kernel
theorem dL_sound_5 : decode cL_sound 5 = .ok (.aload_n 0, 1) := by decide +kernel
theorem dL_sound_6 : decode cL_sound 6 = .ok (.invokevirtual 58, 3) := by decide +kernel
theorem dL_sound_9 : decode cL_sound 9 = .ok (.istore_n 2, 1) := by decide +kernel
theorem dL_sound_10 : decode cL_sound 10 = .ok (.iconst 0, 1) := by decide +kernel
theorem dL_sound_11 : decode cL_sound 11 = .ok (.istore_n 3, 1) := by decide +kernel
theorem dL_sound_12 : decode cL_sound 12 = .ok (.iconst 0, 1) := by decide +kernel
theorem dL_sound_13 : decode cL_sound 13 = .ok (.istore 4, 2) := by decide +kernel
theorem dL_sound_15 : decode cL_sound 15 = .ok (.iload 4, 2) := by decide +kernel
theorem dL_sound_17 : decode cL_sound 17 = .ok (.iload_n 1, 1) := by decide +kernel
theorem dL_sound_18 : decode cL_sound 18 = .ok (.if_icmp .ge 152, 3) := by decide +kernel
theorem dL_sound_21 : decode cL_sound 21 = .ok (.aload_n 0, 1) := by decide +kernel
theorem dL_sound_22 : decode cL_sound 22 = .ok (.iload 4, 2) := by decide +kernel
theorem dL_sound_24 : decode cL_sound 24 = .ok (.invokevirtual 61, 3) := by decide +kernel
theorem dL_sound_27 : decode cL_sound 27 = .ok (.istore 5, 2) := by decide +kernel
theorem dL_sound_29 : decode cL_sound 29 = .ok (.aload_n 0, 1) := by decide +kernel
theorem dL_sound_30 : decode cL_sound 30 = .ok (.iload 4, 2) := by decide +kernel
theorem dL_sound_32 : decode cL_sound 32 = .ok (.invokevirtual 64, 3) := by decide +kernel
theorem dL_sound_35 : decode cL_sound 35 = .ok (.istore 6, 2) := by decide +kernel
theorem dL_sound_37 : decode cL_sound 37 = .ok (.iload 5, 2) := by decide +kernel
theorem dL_sound_39 : decode cL_sound 39 = .ok (.iconst 1, 1) := by decide +kernel
theorem dL_sound_40 : decode cL_sound 40 = .ok (.if_icmp .eq 9, 3) := by decide +kernel
theorem dL_sound_43 : decode cL_sound 43 = .ok (.iload 5, 2) := by decide +kernel
theorem dL_sound_45 : decode cL_sound 45 = .ok (.iconst (-1), 1) := by decide +kernel
theorem dL_sound_46 : decode cL_sound 46 = .ok (.if_icmp .ne 35, 3) := by decide +kernel
theorem dL_sound_49 : decode cL_sound 49 = .ok (.iload 6, 2) := by decide +kernel
theorem dL_sound_51 : decode cL_sound 51 = .ok (.iload 4, 2) := by decide +kernel
theorem dL_sound_53 : decode cL_sound 53 = .ok (.if_icmp .eq 28, 3) := by decide +kernel
theorem dL_sound_56 : decode cL_sound 56 = .ok (.iload 6, 2) := by decide +kernel
theorem dL_sound_58 : decode cL_sound 58 = .ok (.iload_n 1, 1) := by decide +kernel
theorem dL_sound_59 : decode cL_sound 59 = .ok (.if_icmp .ge 22, 3) := by decide +kernel
theorem dL_sound_62 : decode cL_sound 62 = .ok (.aload_n 0, 1) := by decide +kernel
theorem dL_sound_63 : decode cL_sound 63 = .ok (.iload 4, 2) := by decide +kernel
theorem dL_sound_65 : decode cL_sound 65 = .ok (.invokevirtual 67, 3) := by decide +kernel
theorem dL_sound_68 : decode cL_sound 68 = .ok (.ifCond .lt 13, 3) := by decide +kernel
theorem dL_sound_71 : decode cL_sound 71 = .ok (.aload_n 0, 1) := by decide +kernel
theorem dL_sound_72 : decode cL_sound 72 = .ok (.iload 4, 2) := by decide +kernel
theorem dL_sound_74 : decode cL_sound 74 = .ok (.invokevirtual 67, 3) := by decide +kernel
theorem dL_sound_77 : decode cL_sound 77 = .ok (.iconst 1, 1) := by decide +kernel
theorem dL_sound_78 : decode cL_sound 78 = .ok (.if_icmp .le 5, 3) := by decide +kernel
theorem dL_sound_81 : decode cL_sound 81 = .ok (.iconst 0, 1) := by decide +kernel
theorem dL_sound_82 : decode cL_sound 82 = .ok (.ireturn, 1) := by decide +kernel
theorem dL_sound_83 : decode cL_sound 83 = .ok (.iload_n 3, 1) := by decide +kernel
theorem dL_sound_84 : decode cL_sound 84 = .ok (.iload 5, 2) := by decide +kernel
theorem dL_sound_86 : decode cL_sound 86 = .ok (.iadd, 1) := by decide +kernel
theorem dL_sound_87 : decode cL_sound 87 = .ok (.istore_n 3, 1) := by decide +kernel
theorem dL_sound_88 : decode cL_sound 88 = .ok (.iconst 0, 1) := by decide +kernel
theorem dL_sound_89 : decode cL_sound 89 = .ok (.istore 7, 2) := by decide +kernel
theorem dL_sound_91 : decode cL_sound 91 = .ok (.iload 7, 2) := by decide +kernel
theorem dL_sound_93 : decode cL_sound 93 = .ok (.iconst 4, 1) := by decide +kernel
theorem dL_sound_94 : decode cL_sound 94 = .ok (.if_icmp .ge 70, 3) := by decide +kernel
theorem dL_sound_97 : decode cL_sound 97 = .ok (.iconst 0, 1) := by decide +kernel
theorem dL_sound_98 : decode cL_sound 98 = .ok (.istore 8, 2) := by decide +kernel
theorem dL_sound_100 : decode cL_sound 100 = .ok (.iconst 0, 1) := by decide +kernel
theorem dL_sound_101 : decode cL_sound 101 = .ok (.istore 9, 2) := by decide +kernel
theorem dL_sound_103 : decode cL_sound 103 = .ok (.iload 9, 2) := by decide +kernel
theorem dL_sound_105 : decode cL_sound 105 = .ok (.iconst 4, 1) := by decide +kernel
theorem dL_sound_106 : decode cL_sound 106 = .ok (.iload_n 1, 1) := by decide +kernel
theorem dL_sound_107 : decode cL_sound 107 = .ok (.imul, 1) := by decide +kernel
theorem dL_sound_108 : decode cL_sound 108 = .ok (.if_icmp .ge 42, 3) := by decide +kernel
theorem dL_sound_111 : decode cL_sound 111 = .ok (.iload 8, 2) := by decide +kernel
theorem dL_sound_113 : decode cL_sound 113 = .ok (.aload_n 0, 1) := by decide +kernel
theorem dL_sound_114 : decode cL_sound 114 = .ok (.iload 9, 2) := by decide +kernel
theorem dL_sound_116 : decode cL_sound 116 = .ok (.iconst 4, 1) := by decide +kernel
theorem dL_sound_117 : decode cL_sound 117 = .ok (.idiv, 1) := by decide +kernel
theorem dL_sound_118 : decode cL_sound 118 = .ok (.iload 9, 2) := by decide +kernel
theorem dL_sound_120 : decode cL_sound 120 = .ok (.iconst 4, 1) := by decide +kernel
theorem dL_sound_121 : decode cL_sound 121 = .ok (.irem, 1) := by decide +kernel
theorem dL_sound_122 : decode cL_sound 122 = .ok (.invokevirtual 46, 3) := by decide +kernel
theorem dL_sound_125 : decode cL_sound 125 = .ok (.aload_n 0, 1) := by decide +kernel
theorem dL_sound_126 : decode cL_sound 126 = .ok (.iload 4, 2) := by decide +kernel
theorem dL_sound_128 : decode cL_sound 128 = .ok (.iload 7, 2) := by decide +kernel
theorem dL_sound_130 : decode cL_sound 130 = .ok (.invokevirtual 46, 3) := by decide +kernel
theorem dL_sound_133 : decode cL_sound 133 = .ok (.if_icmp .ne 7, 3) := by decide +kernel
theorem dL_sound_136 : decode cL_sound 136 = .ok (.iconst 1, 1) := by decide +kernel
theorem dL_sound_137 : decode cL_sound 137 = .ok (.goto 4, 3) := by decide +kernel
theorem dL_sound_140 : decode cL_sound 140 = .ok (.iconst 0, 1) := by decide +kernel
theorem dL_sound_141 : decode cL_sound 141 = .ok (.iadd, 1) := by decide +kernel
theorem dL_sound_142 : decode cL_sound 142 = .ok (.istore 8, 2) := by decide +kernel
theorem dL_sound_144 : decode cL_sound 144 = .ok (.iinc 9 1, 3) := by decide +kernel
theorem dL_sound_147 : decode cL_sound 147 = .ok (.goto (-44), 3) := by decide +kernel
theorem dL_sound_150 : decode cL_sound 150 = .ok (.iload 8, 2) := by decide +kernel
theorem dL_sound_152 : decode cL_sound 152 = .ok (.iconst 2, 1) := by decide +kernel
theorem dL_sound_153 : decode cL_sound 153 = .ok (.if_icmp .eq 5, 3) := by decide +kernel
theorem dL_sound_156 : decode cL_sound 156 = .ok (.iconst 0, 1) := by decide +kernel
theorem dL_sound_157 : decode cL_sound 157 = .ok (.ireturn, 1) := by decide +kernel
theorem dL_sound_158 : decode cL_sound 158 = .ok (.iinc 7 1, 3) := by decide +kernel
theorem dL_sound_161 : decode cL_sound 161 = .ok (.goto (-70), 3) := by decide +kernel
theorem dL_sound_164 : decode cL_sound 164 = .ok (.iinc 4 1, 3) := by decide +kernel
theorem dL_sound_167 : decode cL_sound 167 = .ok (.goto (-152), 3) := by decide +kernel
theorem dL_sound_170 : decode cL_sound 170 = .ok (.iconst 0, 1) := by decide +kernel
theorem dL_sound_171 : decode cL_sound 171 = .ok (.istore 4, 2) := by decide +kernel
theorem dL_sound_173 : decode cL_sound 173 = .ok (.iload 4, 2) := by decide +kernel
theorem dL_sound_175 : decode cL_sound 175 = .ok (.iconst 1, 1) := by decide +kernel
theorem dL_sound_176 : decode cL_sound 176 = .ok (.iload_n 1, 1) := by decide +kernel
theorem dL_sound_177 : decode cL_sound 177 = .ok (.ishl, 1) := by decide +kernel
theorem dL_sound_178 : decode cL_sound 178 = .ok (.if_icmp .ge 83, 3) := by decide +kernel
theorem dL_sound_181 : decode cL_sound 181 = .ok (.aload_n 0, 1) := by decide +kernel
theorem dL_sound_182 : decode cL_sound 182 = .ok (.iload 4, 2) := by decide +kernel
theorem dL_sound_184 : decode cL_sound 184 = .ok (.invokevirtual 70, 3) := by decide +kernel
theorem dL_sound_187 : decode cL_sound 187 = .ok (.istore 5, 2) := by decide +kernel
theorem dL_sound_189 : decode cL_sound 189 = .ok (.iconst 0, 1) := by decide +kernel
theorem dL_sound_190 : decode cL_sound 190 = .ok (.istore 6, 2) := by decide +kernel
theorem dL_sound_192 : decode cL_sound 192 = .ok (.iload 6, 2) := by decide +kernel
theorem dL_sound_194 : decode cL_sound 194 = .ok (.iload_n 1, 1) := by decide +kernel
theorem dL_sound_195 : decode cL_sound 195 = .ok (.if_icmp .ge 48, 3) := by decide +kernel
theorem dL_sound_198 : decode cL_sound 198 = .ok (.iload 5, 2) := by decide +kernel
theorem dL_sound_200 : decode cL_sound 200 = .ok (.aload_n 0, 1) := by decide +kernel
theorem dL_sound_201 : decode cL_sound 201 = .ok (.iload 4, 2) := by decide +kernel
theorem dL_sound_203 : decode cL_sound 203 = .ok (.iconst 1, 1) := by decide +kernel
theorem dL_sound_204 : decode cL_sound 204 = .ok (.iload 6, 2) := by decide +kernel
theorem dL_sound_206 : decode cL_sound 206 = .ok (.ishl, 1) := by decide +kernel
theorem dL_sound_207 : decode cL_sound 207 = .ok (.ixor, 1) := by decide +kernel
theorem dL_sound_208 : decode cL_sound 208 = .ok (.invokevirtual 70, 3) := by decide +kernel
theorem dL_sound_211 : decode cL_sound 211 = .ok (.isub, 1) := by decide +kernel
theorem dL_sound_212 : decode cL_sound 212 = .ok (.istore 7, 2) := by decide +kernel
theorem dL_sound_214 : decode cL_sound 214 = .ok (.iload 7, 2) := by decide +kernel
theorem dL_sound_216 : decode cL_sound 216 = .ok (.iconst 1, 1) := by decide +kernel
theorem dL_sound_217 : decode cL_sound 217 = .ok (.if_icmp .gt 18, 3) := by decide +kernel
theorem dL_sound_220 : decode cL_sound 220 = .ok (.iload 7, 2) := by decide +kernel
theorem dL_sound_222 : decode cL_sound 222 = .ok (.iconst (-1), 1) := by decide +kernel
theorem dL_sound_223 : decode cL_sound 223 = .ok (.if_icmp .lt 12, 3) := by decide +kernel
theorem dL_sound_226 : decode cL_sound 226 = .ok (.iload_n 2, 1) := by decide +kernel
theorem dL_sound_227 : decode cL_sound 227 = .ok (.ifCond .ne 10, 3) := by decide +kernel
theorem dL_sound_230 : decode cL_sound 230 = .ok (.iload 7, 2) := by decide +kernel
theorem dL_sound_232 : decode cL_sound 232 = .ok (.ifCond .ne 5, 3) := by decide +kernel
theorem dL_sound_235 : decode cL_sound 235 = .ok (.iconst 0, 1) := by decide +kernel
theorem dL_sound_236 : decode cL_sound 236 = .ok (.ireturn, 1) := by decide +kernel
theorem dL_sound_237 : decode cL_sound 237 = .ok (.iinc 6 1, 3) := by decide +kernel
theorem dL_sound_240 : decode cL_sound 240 = .ok (.goto (-48), 3) := by decide +kernel
theorem dL_sound_243 : decode cL_sound 243 = .ok (.iload 4, 2) := by decide +kernel
theorem dL_sound_245 : decode cL_sound 245 = .ok (.iload_n 1, 1) := by decide +kernel
theorem dL_sound_246 : decode cL_sound 246 = .ok (.iconst 4, 1) := by decide +kernel
theorem dL_sound_247 : decode cL_sound 247 = .ok (.if_icmp .le 7, 3) := by decide +kernel
theorem dL_sound_250 : decode cL_sound 250 = .ok (.iconst 3, 1) := by decide +kernel
theorem dL_sound_251 : decode cL_sound 251 = .ok (.goto 4, 3) := by decide +kernel
theorem dL_sound_254 : decode cL_sound 254 = .ok (.iconst 1, 1) := by decide +kernel
theorem dL_sound_255 : decode cL_sound 255 = .ok (.iadd, 1) := by decide +kernel
theorem dL_sound_256 : decode cL_sound 256 = .ok (.istore 4, 2) := by decide +kernel
theorem dL_sound_258 : decode cL_sound 258 = .ok (.goto (-85), 3) := by decide +kernel
theorem dL_sound_261 : decode cL_sound 261 = .ok (.aload_n 0, 1) := by decide +kernel
theorem dL_sound_262 : decode cL_sound 262 = .ok (.invokevirtual 73, 3) := by decide +kernel
theorem dL_sound_265 : decode cL_sound 265 = .ok (.istore 4, 2) := by decide +kernel
theorem dL_sound_267 : decode cL_sound 267 = .ok (.aload_n 0, 1) := by decide +kernel
theorem dL_sound_268 : decode cL_sound 268 = .ok (.invokevirtual 76, 3) := by decide +kernel
theorem dL_sound_271 : decode cL_sound 271 = .ok (.istore 5, 2) := by decide +kernel
theorem dL_sound_273 : decode cL_sound 273 = .ok (.iload 4, 2) := by decide +kernel
theorem dL_sound_275 : decode cL_sound 275 = .ok (.ldc 79, 2) := by decide +kernel
theorem dL_sound_277 : decode cL_sound 277 = .ok (.if_icmp .ne 7, 3) := by decide +kernel
theorem dL_sound_280 : decode cL_sound 280 = .ok (.iconst 1, 1) := by decide +kernel
theorem dL_sound_281 : decode cL_sound 281 = .ok (.goto 4, 3) := by decide +kernel
theorem dL_sound_284 : decode cL_sound 284 = .ok (.iconst 0, 1) := by decide +kernel
theorem dL_sound_285 : decode cL_sound 285 = .ok (.istore 6, 2) := by decide +kernel
theorem dL_sound_287 : decode cL_sound 287 = .ok (.aload_n 0, 1) := by decide +kernel
theorem dL_sound_288 : decode cL_sound 288 = .ok (.invokevirtual 80, 3) := by decide +kernel
theorem dL_sound_291 : decode cL_sound 291 = .ok (.iconst 1, 1) := by decide +kernel
theorem dL_sound_292 : decode cL_sound 292 = .ok (.if_icmp .lt 49, 3) := by decide +kernel
theorem dL_sound_295 : decode cL_sound 295 = .ok (.aload_n 0, 1) := by decide +kernel
theorem dL_sound_296 : decode cL_sound 296 = .ok (.invokevirtual 83, 3) := by decide +kernel
theorem dL_sound_299 : decode cL_sound 299 = .ok (.iconst 1, 1) := by decide +kernel
theorem dL_sound_300 : decode cL_sound 300 = .ok (.if_icmp .lt 41, 3) := by decide +kernel
theorem dL_sound_303 : decode cL_sound 303 = .ok (.aload_n 0, 1) := by decide +kernel
theorem dL_sound_304 : decode cL_sound 304 = .ok (.invokevirtual 83, 3) := by decide +kernel
theorem dL_sound_307 : decode cL_sound 307 = .ok (.aload_n 0, 1) := by decide +kernel
theorem dL_sound_308 : decode cL_sound 308 = .ok (.invokevirtual 80, 3) := by decide +kernel
theorem dL_sound_311 : decode cL_sound 311 = .ok (.if_icmp .gt 30, 3) := by decide +kernel
theorem dL_sound_314 : decode cL_sound 314 = .ok (.iload_n 2, 1) := by decide +kernel
theorem dL_sound_315 : decode cL_sound 315 = .ok (.ifCond .lt 26, 3) := by decide +kernel
theorem dL_sound_318 : decode cL_sound 318 = .ok (.iconst 2, 1) := by decide +kernel
theorem dL_sound_319 : decode cL_sound 319 = .ok (.iload_n 2, 1) := by decide +kernel
theorem dL_sound_320 : decode cL_sound 320 = .ok (.imul, 1) := by decide +kernel
theorem dL_sound_321 : decode cL_sound 321 = .ok (.iload_n 1, 1) := by decide +kernel
theorem dL_sound_322 : decode cL_sound 322 = .ok (.iconst 2, 1) := by decide +kernel
theorem dL_sound_323 : decode cL_sound 323 = .ok (.aload_n 0, 1) := by decide +kernel
theorem dL_sound_324 : decode cL_sound 324 = .ok (.invokevirtual 83, 3) := by decide +kernel
theorem dL_sound_327 : decode cL_sound 327 = .ok (.imul, 1) := by decide +kernel
theorem dL_sound_328 : decode cL_sound 328 = .ok (.iadd, 1) := by decide +kernel
theorem dL_sound_329 : decode cL_sound 329 = .ok (.aload_n 0, 1) := by decide +kernel
theorem dL_sound_330 : decode cL_sound 330 = .ok (.invokevirtual 86, 3) := by decide +kernel
theorem dL_sound_333 : decode cL_sound 333 = .ok (.isub, 1) := by decide +kernel
theorem dL_sound_334 : decode cL_sound 334 = .ok (.if_icmp .ne 7, 3) := by decide +kernel
theorem dL_sound_337 : decode cL_sound 337 = .ok (.iconst 1, 1) := by decide +kernel
theorem dL_sound_338 : decode cL_sound 338 = .ok (.goto 4, 3) := by decide +kernel
theorem dL_sound_341 : decode cL_sound 341 = .ok (.iconst 0, 1) := by decide +kernel
theorem dL_sound_342 : decode cL_sound 342 = .ok (.istore 7, 2) := by decide +kernel
theorem dL_sound_344 : decode cL_sound 344 = .ok (.iload 7, 2) := by decide +kernel
theorem dL_sound_346 : decode cL_sound 346 = .ok (.ifCond .eq 99, 3) := by decide +kernel
theorem dL_sound_349 : decode cL_sound 349 = .ok (.aload_n 0, 1) := by decide +kernel
theorem dL_sound_350 : decode cL_sound 350 = .ok (.invokevirtual 49, 3) := by decide +kernel
theorem dL_sound_353 : decode cL_sound 353 = .ok (.iload_n 3, 1) := by decide +kernel
theorem dL_sound_354 : decode cL_sound 354 = .ok (.if_icmp .ne 91, 3) := by decide +kernel
theorem dL_sound_357 : decode cL_sound 357 = .ok (.iload 6, 2) := by decide +kernel
theorem dL_sound_359 : decode cL_sound 359 = .ok (.iload 5, 2) := by decide +kernel
theorem dL_sound_361 : decode cL_sound 361 = .ok (.ldc 79, 2) := by decide +kernel
theorem dL_sound_363 : decode cL_sound 363 = .ok (.if_icmp .ne 7, 3) := by decide +kernel
theorem dL_sound_366 : decode cL_sound 366 = .ok (.iconst 1, 1) := by decide +kernel
theorem dL_sound_367 : decode cL_sound 367 = .ok (.goto 4, 3) := by decide +kernel
theorem dL_sound_370 : decode cL_sound 370 = .ok (.iconst 0, 1) := by decide +kernel
theorem dL_sound_371 : decode cL_sound 371 = .ok (.if_icmp .ne 74, 3) := by decide +kernel
theorem dL_sound_374 : decode cL_sound 374 = .ok (.iload 6, 2) := by decide +kernel
theorem dL_sound_376 : decode cL_sound 376 = .ok (.ifCond .ne 28, 3) := by decide +kernel
theorem dL_sound_379 : decode cL_sound 379 = .ok (.iload 4, 2) := by decide +kernel
theorem dL_sound_381 : decode cL_sound 381 = .ok (.iload 5, 2) := by decide +kernel
theorem dL_sound_383 : decode cL_sound 383 = .ok (.if_icmp .gt 62, 3) := by decide +kernel
theorem dL_sound_386 : decode cL_sound 386 = .ok (.aload_n 0, 1) := by decide +kernel
theorem dL_sound_387 : decode cL_sound 387 = .ok (.iload 4, 2) := by decide +kernel
theorem dL_sound_389 : decode cL_sound 389 = .ok (.invokevirtual 55, 3) := by decide +kernel
theorem dL_sound_392 : decode cL_sound 392 = .ok (.ifCond .eq 53, 3) := by decide +kernel
theorem dL_sound_395 : decode cL_sound 395 = .ok (.aload_n 0, 1) := by decide +kernel
theorem dL_sound_396 : decode cL_sound 396 = .ok (.iload 5, 2) := by decide +kernel
theorem dL_sound_398 : decode cL_sound 398 = .ok (.invokevirtual 55, 3) := by decide +kernel
theorem dL_sound_401 : decode cL_sound 401 = .ok (.ifCond .eq 44, 3) := by decide +kernel
theorem dL_sound_404 : decode cL_sound 404 = .ok (.aload_n 0, 1) := by decide +kernel
theorem dL_sound_405 : decode cL_sound 405 = .ok (.invokevirtual 89, 3) := by decide +kernel
theorem dL_sound_408 : decode cL_sound 408 = .ok (.ifCond .lt 37, 3) := by decide +kernel
theorem dL_sound_411 : decode cL_sound 411 = .ok (.aload_n 0, 1) := by decide +kernel
theorem dL_sound_412 : decode cL_sound 412 = .ok (.iconst 3, 1) := by decide +kernel
theorem dL_sound_413 : decode cL_sound 413 = .ok (.invokevirtual 92, 3) := by decide +kernel
theorem dL_sound_416 : decode cL_sound 416 = .ok (.iconst 1, 1) := by decide +kernel
theorem dL_sound_417 : decode cL_sound 417 = .ok (.if_icmp .lt 28, 3) := by decide +kernel
theorem dL_sound_420 : decode cL_sound 420 = .ok (.aload_n 0, 1) := by decide +kernel
theorem dL_sound_421 : decode cL_sound 421 = .ok (.bipush 11, 2) := by decide +kernel
theorem dL_sound_423 : decode cL_sound 423 = .ok (.invokevirtual 92, 3) := by decide +kernel
theorem dL_sound_426 : decode cL_sound 426 = .ok (.iconst 1, 1) := by decide +kernel
theorem dL_sound_427 : decode cL_sound 427 = .ok (.if_icmp .lt 18, 3) := by decide +kernel
theorem dL_sound_430 : decode cL_sound 430 = .ok (.aload_n 0, 1) := by decide +kernel
theorem dL_sound_431 : decode cL_sound 431 = .ok (.iconst 5, 1) := by decide +kernel
theorem dL_sound_432 : decode cL_sound 432 = .ok (.invokevirtual 92, 3) := by decide +kernel
theorem dL_sound_435 : decode cL_sound 435 = .ok (.iload_n 1, 1) := by decide +kernel
theorem dL_sound_436 : decode cL_sound 436 = .ok (.iconst 4, 1) := by decide +kernel
theorem dL_sound_437 : decode cL_sound 437 = .ok (.iadd, 1) := by decide +kernel
theorem dL_sound_438 : decode cL_sound 438 = .ok (.if_icmp .gt 7, 3) := by decide +kernel
theorem dL_sound_441 : decode cL_sound 441 = .ok (.iconst 1, 1) := by decide +kernel
theorem dL_sound_442 : decode cL_sound 442 = .ok (.goto 4, 3) := by decide +kernel
theorem dL_sound_445 : decode cL_sound 445 = .ok (.iconst 0, 1) := by decide +kernel
theorem dL_sound_446 : decode cL_sound 446 = .ok (.ireturn, 1) := by decide +kernel
set_option maxRecDepth 20000 in
theorem ggL_turns_L_hash : GoodIn wsL_turns wsL_hash := goodIn_r _ [6, 7, 8, 9, 10, 11, 12, 13, 14, 15, 16, 17, 18, 19, 20, 21, 22, 23, 24, 25, 26, 27, 28, 29, 30, 31, 32, 33, 34, 35, 36, 279, 280, 281, 282, 283, 284, 285, 286, 287, 288, 289, 290] (by decide +kernel) (by decide +kernel)
set_option maxRecDepth 20000 in
theorem gL_turns_L_hash : GoodIn wsL_turns (va_wsS RL 95 yL_hash wsL_hash) := goodIn_app (goodIn_of _ (by decide +kernel)) ggL_turns_L_hash
set_option maxRecDepth 20000 in
theorem ggL_turns_X9_crossingCount : GoodIn wsL_turns wsX9_crossingCount := goodIn_r _ [13, 14, 15, 279, 280, 281, 282, 283, 284, 285, 286, 287, 288, 289, 290] (by decide +kernel) (by decide +kernel)
set_option maxRecDepth 20000 in
theorem gL_turns_X9_crossingCount : GoodIn wsL_turns (wsV RL 38 RX9 yX9_crossingCount wsX9_crossingCount) := goodIn_app (goodIn_of _ (by decide +kernel)) ggL_turns_X9_crossingCount
set_option maxRecDepth 20000 in
theorem ggL_turns_X9_mirror : GoodIn wsL_turns wsX9_mirror := goodIn_r _ [40, 14, 15, 41, 42, 43, 44, 45, 29, 46, 31, 47, 36, 48, 49, 50, 51, 52, 33, 34, 35, 53, 54, 55, 56, 57, 58, 59, 12, 60, 61, 62, 63, 64, 65, 66, 67, 68, 69, 70, 71, 72, 73, 74, 75, 76, 77, 78, 79, 80, 81, 82, 83, 84, 85, 86, 87, 88, 89, 90, 91, 92, 93, 94, 95, 96, 97, 98, 99, 100, 101, 102, 103, 104, 105, 106, 107, 108, 109, 110, 111, 112, 113, 114, 279, 280, 281, 282, 283, 284, 285, 286, 287, 288, 289, 290, 291, 292, 293, 294, 295, 296, 297] (by decide +kernel) (by decide +kernel)
set_option maxRecDepth 20000 in
theorem gL_turns_X9_mirror : GoodIn wsL_turns (wsV RL 99 RX9 yX9_mirror wsX9_mirror) := goodIn_app (goodIn_of _ (by decide +kernel)) ggL_turns_X9_mirror
set_option maxRecDepth 20000 in
theorem ggL_turns_X9_switchCrossing : GoodIn wsL_turns wsX9_switchCrossing := goodIn_r _ [118, 14, 25, 42, 26, 27, 28, 29, 30, 31, 43, 44, 45, 46, 47, 36, 48, 49, 50, 51, 52, 33, 34, 35, 53, 54, 55, 56, 57, 58, 59, 12, 60, 61, 62, 63, 64, 65, 66, 67, 68, 69, 70, 71, 72, 73, 74, 75, 76, 77, 78, 79, 80, 81, 82, 83, 84, 119, 91, 87, 92, 93, 94, 95, 96, 97, 98, 99, 100, 101, 102, 103, 104, 105, 106, 107, 108, 109, 110, 111, 120, 113, 114, 279, 280, 281, 282, 283, 284, 285, 286, 287, 288, 289, 290, 291, 292, 293, 294, 295, 296, 297] (by decide +kernel) (by decide +kernel)
set_option maxRecDepth 20000 in
theorem gL_turns_X9_switchCrossing : GoodIn wsL_turns (wsV RL 103 RX9 yX9_switchCrossing wsX9_switchCrossing) := goodIn_app (goodIn_of _ (by decide +kernel)) ggL_turns_X9_switchCrossing
set_option maxRecDepth 20000 in
theorem ggL_turns_L_low : GoodIn wsL_turns wsL_low := goodIn_r _ [123, 124] (by decide +kernel) (by decide +kernel)
set_option maxRecDepth 20000 in
theorem gL_turns_L_low : GoodIn wsL_turns (va_wsS RL 21 yL_low wsL_low) := goodIn_app (goodIn_of _ (by decide +kernel)) ggL_turns_L_low
set_option maxRecDepth 20000 in
theorem ggL_turns_L_bracket : GoodIn wsL_turns wsL_bracket := goodIn_r _ [127, 9, 10, 11, 12, 13, 14, 15, 128, 129, 130, 131, 85, 86, 87, 88, 89, 90, 91, 92, 93, 94, 95, 29, 96, 97, 98, 99, 100, 31, 52, 33, 34, 35, 36, 101, 102, 103, 104, 105, 106, 107, 108, 109, 110, 111, 112, 113, 114, 132, 133, 134, 135, 25, 68, 136, 137, 138, 139, 140, 141, 82, 142, 84, 143, 144, 145, 146, 147, 148, 149, 150, 151, 152, 153, 154, 155, 156, 157, 158, 159, 160, 161, 162, 163, 164, 165, 166, 167, 168, 169, 170, 171, 172, 173, 174, 175, 176, 177, 178, 179, 180, 181, 182, 183, 184, 185, 186, 187, 188, 189, 190, 191, 192, 193, 194, 195, 196, 197, 279, 280, 281, 282, 283, 284, 285, 286, 287, 288, 289, 290, 293, 294, 295, 296, 297] (by decide +kernel) (by decide +kernel)
set_option maxRecDepth 20000 in
theorem gL_turns_L_bracket : GoodIn wsL_turns (va_wsS RL 107 yL_bracket wsL_bracket) := goodIn_app (goodIn_of _ (by decide +kernel)) ggL_turns_L_bracket
set_option maxRecDepth 20000 in
theorem ggL_turns_X9_crossingSign : GoodIn wsL_turns wsX9_crossingSign := goodIn_r _ [201, 14, 25, 26, 27, 28, 29, 30, 31, 119, 91, 87, 92, 93, 94, 95, 96, 97, 98, 99, 100, 52, 33, 34, 35, 36, 101, 102, 103, 104, 105, 12, 106, 107, 108, 109, 110, 111, 120, 113, 114, 279, 280, 281, 282, 283, 284, 285, 286, 287, 288, 289, 290] (by decide +kernel) (by decide +kernel)
set_option maxRecDepth 20000 in
theorem gL_turns_X9_crossingSign : GoodIn wsL_turns (wsV RL 61 RX9 yX9_crossingSign wsX9_crossingSign) := goodIn_app (goodIn_of _ (by decide +kernel)) ggL_turns_X9_crossingSign
set_option maxRecDepth 20000 in
theorem ggL_turns_X9_undoDepth : GoodIn wsL_turns wsX9_undoDepth := goodIn_r _ [205, 63, 279, 280, 281, 282, 283, 284, 285, 286, 287] (by decide +kernel) (by decide +kernel)
set_option maxRecDepth 20000 in
theorem gL_turns_X9_undoDepth : GoodIn wsL_turns (wsV RL 111 RX9 yX9_undoDepth wsX9_undoDepth) := goodIn_app (goodIn_of _ (by decide +kernel)) ggL_turns_X9_undoDepth
set_option maxRecDepth 20000 in
theorem ggL_turns_X9_undo : GoodIn wsL_turns wsX9_undo := goodIn_r _ [209, 63, 41, 62, 61, 14, 68, 210, 211, 212, 72, 213, 74, 75, 76, 214, 215, 216, 217, 77, 218, 54, 55, 29, 56, 36, 79, 80, 81, 82, 83, 84, 279, 280, 281, 282, 283, 284, 285, 286, 287, 291, 292, 288, 289, 290, 293, 294, 295, 296, 297] (by decide +kernel) (by decide +kernel)
set_option maxRecDepth 20000 in
theorem gL_turns_X9_undo : GoodIn wsL_turns (wsV RL 114 RX9 yX9_undo wsX9_undo) := goodIn_app (goodIn_of _ (by decide +kernel)) ggL_turns_X9_undo
set_option maxRecDepth 20000 in
theorem ggL_turns_X9_writhe : GoodIn wsL_turns wsX9_writhe := goodIn_r _ [131, 14, 85, 86, 87, 88, 89, 90, 91, 92, 93, 94, 95, 29, 96, 97, 98, 99, 100, 31, 52, 33, 34, 35, 36, 101, 102, 103, 104, 105, 12, 106, 107, 108, 109, 110, 111, 112, 113, 114, 279, 280, 281, 282, 283, 284, 285, 286, 287, 288, 289, 290] (by decide +kernel) (by decide +kernel)
set_option maxRecDepth 20000 in
theorem gL_turns_X9_writhe : GoodIn wsL_turns (wsV RL 49 RX9 yX9_writhe wsX9_writhe) := goodIn_app (goodIn_of _ (by decide +kernel)) ggL_turns_X9_writhe
set_option maxRecDepth 20000 in
theorem ggL_turns_X9_componentCount : GoodIn wsL_turns wsX9_componentCount := goodIn_r _ [222, 14, 20, 223, 224, 87, 225, 226, 98, 99, 29, 100, 31, 105, 12, 106, 107, 108, 109, 110, 111, 101, 102, 103, 104, 52, 33, 34, 35, 36, 97, 279, 280, 281, 282, 283, 284, 285, 286, 287, 288, 289, 290] (by decide +kernel) (by decide +kernel)
set_option maxRecDepth 20000 in
theorem gL_turns_X9_componentCount : GoodIn wsL_turns (wsV RL 80 RX9 yX9_componentCount wsX9_componentCount) := goodIn_app (goodIn_of _ (by decide +kernel)) ggL_turns_X9_componentCount
set_option maxRecDepth 20000 in
theorem ggL_turns_X9_faceCount : GoodIn wsL_turns wsX9_faceCount := goodIn_r _ [230, 14, 20, 231, 232, 233, 234, 235, 98, 99, 29, 100, 31, 105, 12, 106, 236, 237, 238, 110, 111, 239, 102, 103, 104, 52, 33, 34, 35, 36, 97, 279, 280, 281, 282, 283, 284, 285, 286, 287, 288, 289, 290] (by decide +kernel) (by decide +kernel)
set_option maxRecDepth 20000 in
theorem gL_turns_X9_faceCount : GoodIn wsL_turns (wsV RL 86 RX9 yX9_faceCount wsX9_faceCount) := goodIn_app (goodIn_of _ (by decide +kernel)) ggL_turns_X9_faceCount
set_option maxRecDepth 20000 in
theorem ggL_turns_X9_genus : GoodIn wsL_turns wsX9_genus := goodIn_r _ [243, 14, 15, 244, 245, 246, 12, 247, 20, 248, 249, 233, 250, 251, 105, 106, 252, 253, 254, 110, 111, 235, 98, 99, 29, 100, 31, 239, 102, 103, 104, 52, 33, 34, 35, 36, 97, 255, 228, 229, 230, 231, 232, 234, 236, 237, 238, 279, 280, 281, 282, 283, 284, 285, 286, 287, 288, 289, 290] (by decide +kernel) (by decide +kernel)
set_option maxRecDepth 20000 in
theorem gL_turns_X9_genus : GoodIn wsL_turns (wsV RL 58 RX9 yX9_genus wsX9_genus) := goodIn_app (goodIn_of _ (by decide +kernel)) ggL_turns_X9_genus
set_option maxRecDepth 20000 in
theorem ggL_turns_X9_isAlternating : GoodIn wsL_turns wsX9_isAlternating := goodIn_r _ [259, 14, 260, 261, 233, 262, 235, 98, 99, 29, 100, 31, 239, 102, 103, 104, 52, 33, 34, 35, 36, 97, 279, 280, 281, 282, 283, 284, 285, 286, 287, 288, 289, 290] (by decide +kernel) (by decide +kernel)
set_option maxRecDepth 20000 in
theorem gL_turns_X9_isAlternating : GoodIn wsL_turns (wsV RL 117 RX9 yX9_isAlternating wsX9_isAlternating) := goodIn_app (goodIn_of _ (by decide +kernel)) ggL_turns_X9_isAlternating
set_option maxRecDepth 20000 in
theorem ggL_turns_X9_determinant : GoodIn wsL_turns wsX9_determinant := goodIn_r _ [266, 68, 14, 139, 140, 141, 82, 142, 84, 143, 144, 145, 146, 147, 148, 149, 102, 103, 29, 104, 52, 33, 34, 35, 36, 97, 98, 99, 100, 31, 150, 151, 152, 153, 154, 155, 156, 157, 158, 159, 160, 105, 12, 106, 161, 162, 163, 164, 110, 111, 165, 166, 167, 168, 169, 170, 171, 172, 173, 174, 175, 176, 177, 178, 179, 180, 181, 182, 183, 184, 185, 186, 187, 188, 189, 190, 191, 192, 267, 268, 269, 270, 271, 272, 273, 66, 274, 275, 276, 277, 278, 279, 280, 281, 282, 283, 284, 285, 286, 287, 293, 294, 295, 296, 297, 288, 289, 290] (by decide +kernel) (by decide +kernel)
set_option maxRecDepth 20000 in
theorem gL_turns_X9_determinant : GoodIn wsL_turns (wsV RL 89 RX9 yX9_determinant wsX9_determinant) := goodIn_app (goodIn_of _ (by decide +kernel)) ggL_turns_X9_determinant
