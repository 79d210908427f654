theorem dX9_mirror_0 : decode cX9_mirror 0 = .ok (.aload_n 0, 1) := by decide +kernel
theorem dX9_mirror_1 : decode cX9_mirror 1 = .ok (.getfield 26, 3) := by decide +kernel
theorem dX9_mirror_4 : decode cX9_mirror 4 = .ok (.getfield 74, 3) := by decide +kernel
theorem dX9_mirror_7 : decode cX9_mirror 7 = .ok (.ifCond .ne 6, 3) := by decide +kernel
theorem dX9_mirror_10 : decode cX9_mirror 10 = .ok (.ldc 102, 2) := by decide +kernel
theorem dX9_mirror_12 : decode cX9_mirror 12 = .ok (.ireturn, 1) := by decide +kernel
theorem dX9_mirror_13 : decode cX9_mirror 13 = .ok (.aload_n 0, 1) := by decide +kernel
theorem dX9_mirror_14 : decode cX9_mirror 14 = .ok (.getfield 30, 3) := by decide +kernel
theorem dX9_mirror_17 : decode cX9_mirror 17 = .ok (.aload_n 0, 1) := by decide +kernel
theorem dX9_mirror_18 : decode cX9_mirror 18 = .ok (.getfield 26, 3) := by decide +kernel
theorem dX9_mirror_21 : decode cX9_mirror 21 = .ok (.invokevirtual 85, 3) := by decide +kernel
theorem dX9_mirror_24 : decode cX9_mirror 24 = .ok (.aload_n 0, 1) := by decide +kernel
theorem dX9_mirror_25 : decode cX9_mirror 25 = .ok (.getfield 30, 3) := by decide +kernel
theorem dX9_mirror_28 : decode cX9_mirror 28 = .ok (.getfield 74, 3) := by decide +kernel
theorem dX9_mirror_31 : decode cX9_mirror 31 = .ok (.istore_n 1, 1) := by decide +kernel
theorem dX9_mirror_32 : decode cX9_mirror 32 = .ok (.iconst 0, 1) := by decide +kernel
theorem dX9_mirror_33 : decode cX9_mirror 33 = .ok (.istore_n 2, 1) := by decide +kernel
theorem dX9_mirror_34 : decode cX9_mirror 34 = .ok (.iload_n 2, 1) := by decide +kernel
theorem dX9_mirror_35 : decode cX9_mirror 35 = .ok (.iload_n 1, 1) := by decide +kernel
theorem dX9_mirror_36 : decode cX9_mirror 36 = .ok (.if_icmp .ge 17, 3) := by decide +kernel
theorem dX9_mirror_39 : decode cX9_mirror 39 = .ok (.aload_n 0, 1) := by decide +kernel
theorem dX9_mirror_40 : decode cX9_mirror 40 = .ok (.getfield 30, 3) := by decide +kernel
theorem dX9_mirror_43 : decode cX9_mirror 43 = .ok (.iload_n 2, 1) := by decide +kernel
theorem dX9_mirror_44 : decode cX9_mirror 44 = .ok (.invokevirtual 89, 3) := by decide +kernel
theorem dX9_mirror_47 : decode cX9_mirror 47 = .ok (.iinc 2 1, 3) := by decide +kernel
theorem dX9_mirror_50 : decode cX9_mirror 50 = .ok (.goto (-16), 3) := by decide +kernel
theorem dX9_mirror_53 : decode cX9_mirror 53 = .ok (.aload_n 0, 1) := by decide +kernel
theorem dX9_mirror_54 : decode cX9_mirror 54 = .ok (.invokevirtual 71, 3) := by decide +kernel
theorem dX9_mirror_57 : decode cX9_mirror 57 = .ok (.aload_n 0, 1) := by decide +kernel
theorem dX9_mirror_58 : decode cX9_mirror 58 = .ok (.getfield 26, 3) := by decide +kernel
theorem dX9_mirror_61 : decode cX9_mirror 61 = .ok (.invokestatic 103, 3) := by decide +kernel
theorem dX9_mirror_64 : decode cX9_mirror 64 = .ok (.ireturn, 1) := by decide +kernel
set_option maxRecDepth 20000 in
theorem ggX9_removeKink_X2_hasCrossing : GoodIn wsX9_removeKink wsX2_hasCrossing := goodIn_r _ [9, 10, 97, 98, 99] (by decide +kernel) (by decide +kernel)
set_option maxRecDepth 20000 in
theorem gX9_removeKink_X2_hasCrossing : GoodIn wsX9_removeKink (wsV RX9 77 RX2 yX2_hasCrossing wsX2_hasCrossing) := goodIn_app (goodIn_of _ (by decide +kernel)) ggX9_removeKink_X2_hasCrossing
set_option maxRecDepth 20000 in
theorem ggX9_removeKink_X3_kinkEnd : GoodIn wsX9_removeKink wsX3_kinkEnd := goodIn_r _ [14, 15, 16, 13, 17, 18, 19, 20, 8, 21, 22, 97, 98, 99] (by decide +kernel) (by decide +kernel)
set_option maxRecDepth 20000 in
theorem gX9_removeKink_X3_kinkEnd : GoodIn wsX9_removeKink (va_wsS RX9 106 yX3_kinkEnd wsX3_kinkEnd) := goodIn_app (goodIn_of _ (by decide +kernel)) ggX9_removeKink_X3_kinkEnd
set_option maxRecDepth 20000 in
theorem ggX9_removeKink_X2_copyFrom : GoodIn wsX9_removeKink wsX2_copyFrom := goodIn_r _ [26, 10, 27, 22, 97, 98, 99] (by decide +kernel) (by decide +kernel)
set_option maxRecDepth 20000 in
theorem gX9_removeKink_X2_copyFrom : GoodIn wsX9_removeKink (wsV RX9 85 RX2 yX2_copyFrom wsX2_copyFrom) := goodIn_app (goodIn_of _ (by decide +kernel)) ggX9_removeKink_X2_copyFrom
set_option maxRecDepth 20000 in
theorem ggX9_removeKink_X3_dissolveKink : GoodIn wsX9_removeKink wsX3_dissolveKink := goodIn_r _ [30, 15, 16, 13, 17, 31, 32, 33, 8, 34, 27, 35, 36, 37, 38, 39, 40, 41, 42, 19, 20, 21, 22, 43, 44, 45, 46, 10, 47, 48, 49, 50, 51, 52, 53, 54, 97, 98, 99] (by decide +kernel) (by decide +kernel)
set_option maxRecDepth 20000 in
theorem gX9_removeKink_X3_dissolveKink : GoodIn wsX9_removeKink (va_wsS RX9 112 yX3_dissolveKink wsX3_dissolveKink) := goodIn_app (goodIn_of _ (by decide +kernel)) ggX9_removeKink_X3_dissolveKink
set_option maxRecDepth 20000 in
theorem ggX9_removeKink_X9_finishRemoval : GoodIn wsX9_removeKink wsX9_finishRemoval := goodIn_r _ [59, 4, 60, 61, 1, 62, 63, 64, 65, 58, 66, 67, 68, 69, 70, 40, 37, 41, 71, 72, 73, 74, 75, 76, 77, 78, 79, 80, 81, 19, 20, 8, 21, 22, 23, 24, 25, 26, 10, 27, 82, 83, 84, 85, 86, 87, 88, 89, 90, 91, 92, 93, 94, 95, 96, 97, 98, 99, 100, 101, 102, 103, 104, 105, 106] (by decide +kernel) (by decide +kernel)
set_option maxRecDepth 20000 in
theorem gX9_removeKink_X9_finishRemoval : GoodIn wsX9_removeKink (wsV RX9 116 RX9 yX9_finishRemoval wsX9_finishRemoval) := goodIn_app (goodIn_of _ (by decide +kernel)) ggX9_removeKink_X9_finishRemoval
theorem dX9_removeKink_0 : decode cX9_removeKink 0 = .ok (.aload_n 0, 1) := by decide +kernel
theorem dX9_removeKink_1 : decode cX9_removeKink 1 = .ok (.getfield 26, 3) := by decide +kernel
theorem dX9_removeKink_4 : decode cX9_removeKink 4 = .ok (.iload_n 1, 1) := by decide +kernel
theorem dX9_removeKink_5 : decode cX9_removeKink 5 = .ok (.invokevirtual 77, 3) := by decide +kernel
theorem dX9_removeKink_8 : decode cX9_removeKink 8 = .ok (.ifCond .ne 6, 3) := by decide +kernel
theorem dX9_removeKink_11 : decode cX9_removeKink 11 = .ok (.ldc 58, 2) := by decide +kernel
theorem dX9_removeKink_13 : decode cX9_removeKink 13 = .ok (.ireturn, 1) := by decide +kernel
theorem dX9_removeKink_14 : decode cX9_removeKink 14 = .ok (.aload_n 0, 1) := by decide +kernel
theorem dX9_removeKink_15 : decode cX9_removeKink 15 = .ok (.getfield 26, 3) := by decide +kernel
theorem dX9_removeKink_18 : decode cX9_removeKink 18 = .ok (.iload_n 1, 1) := by decide +kernel
theorem dX9_removeKink_19 : decode cX9_removeKink 19 = .ok (.invokestatic 106, 3) := by decide +kernel
theorem dX9_removeKink_22 : decode cX9_removeKink 22 = .ok (.istore_n 2, 1) := by decide +kernel
theorem dX9_removeKink_23 : decode cX9_removeKink 23 = .ok (.iload_n 2, 1) := by decide +kernel
theorem dX9_removeKink_24 : decode cX9_removeKink 24 = .ok (.ifCond .ge 6, 3) := by decide +kernel
theorem dX9_removeKink_27 : decode cX9_removeKink 27 = .ok (.ldc 102, 2) := by decide +kernel
theorem dX9_removeKink_29 : decode cX9_removeKink 29 = .ok (.ireturn, 1) := by decide +kernel
theorem dX9_removeKink_30 : decode cX9_removeKink 30 = .ok (.aload_n 0, 1) := by decide +kernel
theorem dX9_removeKink_31 : decode cX9_removeKink 31 = .ok (.getfield 30, 3) := by decide +kernel
theorem dX9_removeKink_34 : decode cX9_removeKink 34 = .ok (.aload_n 0, 1) := by decide +kernel
theorem dX9_removeKink_35 : decode cX9_removeKink 35 = .ok (.getfield 26, 3) := by decide +kernel
theorem dX9_removeKink_38 : decode cX9_removeKink 38 = .ok (.invokevirtual 85, 3) := by decide +kernel
theorem dX9_removeKink_41 : decode cX9_removeKink 41 = .ok (.aload_n 0, 1) := by decide +kernel
theorem dX9_removeKink_42 : decode cX9_removeKink 42 = .ok (.getfield 30, 3) := by decide +kernel
theorem dX9_removeKink_45 : decode cX9_removeKink 45 = .ok (.iload_n 1, 1) := by decide +kernel
theorem dX9_removeKink_46 : decode cX9_removeKink 46 = .ok (.iload_n 2, 1) := by decide +kernel
theorem dX9_removeKink_47 : decode cX9_removeKink 47 = .ok (.invokestatic 112, 3) := by decide +kernel
theorem dX9_removeKink_50 : decode cX9_removeKink 50 = .ok (.aload_n 0, 1) := by decide +kernel
theorem dX9_removeKink_51 : decode cX9_removeKink 51 = .ok (.invokevirtual 116, 3) := by decide +kernel
theorem dX9_removeKink_54 : decode cX9_removeKink 54 = .ok (.ireturn, 1) := by decide +kernel
set_option maxRecDepth 20000 in
theorem ggX9_removeBigon_X2_hasCrossing : GoodIn wsX9_removeBigon wsX2_hasCrossing := goodIn_r _ [9, 10, 102, 103, 104] (by decide +kernel) (by decide +kernel)
set_option maxRecDepth 20000 in
theorem gX9_removeBigon_X2_hasCrossing : GoodIn wsX9_removeBigon (wsV RX9 77 RX2 yX2_hasCrossing wsX2_hasCrossing) := goodIn_app (goodIn_of _ (by decide +kernel)) ggX9_removeBigon_X2_hasCrossing
set_option maxRecDepth 20000 in
theorem ggX9_removeBigon_X3_bigonCorner : GoodIn wsX9_removeBigon wsX3_bigonCorner := goodIn_r _ [14, 15, 16, 13, 17, 18, 19, 20, 21, 22, 23, 8, 24, 25, 102, 103, 104] (by decide +kernel) (by decide +kernel)
set_option maxRecDepth 20000 in
theorem gX9_removeBigon_X3_bigonCorner : GoodIn wsX9_removeBigon (va_wsS RX9 120 yX3_bigonCorner wsX3_bigonCorner) := goodIn_app (goodIn_of _ (by decide +kernel)) ggX9_removeBigon_X3_bigonCorner
set_option maxRecDepth 20000 in
theorem ggX9_removeBigon_X2_copyFrom : GoodIn wsX9_removeBigon wsX2_copyFrom := goodIn_r _ [29, 10, 30, 25, 102, 103, 104] (by decide +kernel) (by decide +kernel)
set_option maxRecDepth 20000 in
theorem gX9_removeBigon_X2_copyFrom : GoodIn wsX9_removeBigon (wsV RX9 85 RX2 yX2_copyFrom wsX2_copyFrom) := goodIn_app (goodIn_of _ (by decide +kernel)) ggX9_removeBigon_X2_copyFrom
set_option maxRecDepth 20000 in
theorem ggX9_removeBigon_X3_dissolveBigon : GoodIn wsX9_removeBigon wsX3_dissolveBigon := goodIn_r _ [33, 34, 35, 36, 37, 38, 39, 40, 18, 19, 13, 20, 41, 42, 43, 8, 44, 30, 45, 46, 47, 22, 23, 24, 25, 48, 49, 50, 51, 10, 52, 53, 54, 55, 56, 57, 58, 59, 102, 103, 104] (by decide +kernel) (by decide +kernel)
set_option maxRecDepth 20000 in
theorem gX9_removeBigon_X3_dissolveBigon : GoodIn wsX9_removeBigon (va_wsS RX9 124 yX3_dissolveBigon wsX3_dissolveBigon) := goodIn_app (goodIn_of _ (by decide +kernel)) ggX9_removeBigon_X3_dissolveBigon
set_option maxRecDepth 20000 in
theorem ggX9_removeBigon_X9_finishRemoval : GoodIn wsX9_removeBigon wsX9_finishRemoval := goodIn_r _ [64, 4, 65, 66, 1, 67, 68, 69, 70, 63, 71, 72, 73, 74, 75, 39, 36, 40, 76, 77, 78, 79, 80, 81, 82, 83, 84, 85, 86, 22, 23, 8, 24, 25, 26, 27, 28, 29, 10, 30, 87, 88, 89, 90, 91, 92, 93, 94, 95, 96, 97, 98, 99, 100, 101, 102, 103, 104, 105, 106, 107, 108, 109, 110, 111] (by decide +kernel) (by decide +kernel)
set_option maxRecDepth 20000 in
theorem gX9_removeBigon_X9_finishRemoval : GoodIn wsX9_removeBigon (wsV RX9 116 RX9 yX9_finishRemoval wsX9_finishRemoval) := goodIn_app (goodIn_of _ (by decide +kernel)) ggX9_removeBigon_X9_finishRemoval
theorem dX9_removeBigon_0 : decode cX9_removeBigon 0 = .ok (.aload_n 0, 1) := by decide +kernel
theorem dX9_removeBigon_1 : decode cX9_removeBigon 1 = .ok (.getfield 26, 3) := by decide +kernel
theorem dX9_removeBigon_4 : decode cX9_removeBigon 4 = .ok (.iload_n 1, 1) := by decide +kernel
theorem dX9_removeBigon_5 : decode cX9_removeBigon 5 = .ok (.invokevirtual 77, 3) := by decide +kernel
theorem dX9_removeBigon_8 : decode cX9_removeBigon 8 = .ok (.ifCond .eq 19, 3) := by decide +kernel
theorem dX9_removeBigon_11 : decode cX9_removeBigon 11 = .ok (.aload_n 0, 1) := by decide +kernel
theorem dX9_removeBigon_12 : decode cX9_removeBigon 12 = .ok (.getfield 26, 3) := by decide +kernel
theorem dX9_removeBigon_15 : decode cX9_removeBigon 15 = .ok (.iload_n 2, 1) := by decide +kernel
theorem dX9_removeBigon_16 : decode cX9_removeBigon 16 = .ok (.invokevirtual 77, 3) := by decide +kernel
theorem dX9_removeBigon_19 : decode cX9_removeBigon 19 = .ok (.ifCond .eq 8, 3) := by decide +kernel
theorem dX9_removeBigon_22 : decode cX9_removeBigon 22 = .ok (.iload_n 1, 1) := by decide +kernel
theorem dX9_removeBigon_23 : decode cX9_removeBigon 23 = .ok (.iload_n 2, 1) := by decide +kernel
theorem dX9_removeBigon_24 : decode cX9_removeBigon 24 = .ok (.if_icmp .ne 6, 3) := by decide +kernel
theorem dX9_removeBigon_27 : decode cX9_removeBigon 27 = .ok (.ldc 58, 2) := by decide +kernel
theorem dX9_removeBigon_29 : decode cX9_removeBigon 29 = .ok (.ireturn, 1) := by decide +kernel
theorem dX9_removeBigon_30 : decode cX9_removeBigon 30 = .ok (.aload_n 0, 1) := by decide +kernel
theorem dX9_removeBigon_31 : decode cX9_removeBigon 31 = .ok (.getfield 26, 3) := by decide +kernel
theorem dX9_removeBigon_34 : decode cX9_removeBigon 34 = .ok (.iload_n 1, 1) := by decide +kernel
theorem dX9_removeBigon_35 : decode cX9_removeBigon 35 = .ok (.iload_n 2, 1) := by decide +kernel
theorem dX9_removeBigon_36 : decode cX9_removeBigon 36 = .ok (.invokestatic 120, 3) := by decide +kernel
theorem dX9_removeBigon_39 : decode cX9_removeBigon 39 = .ok (.istore_n 3, 1) := by decide +kernel
theorem dX9_removeBigon_40 : decode cX9_removeBigon 40 = .ok (.iload_n 3, 1) := by decide +kernel
theorem dX9_removeBigon_41 : decode cX9_removeBigon 41 = .ok (.ifCond .ge 6, 3) := by decide +kernel
theorem dX9_removeBigon_44 : decode cX9_removeBigon 44 = .ok (.ldc 102, 2) := by decide +kernel
theorem dX9_removeBigon_46 : decode cX9_removeBigon 46 = .ok (.ireturn, 1) := by decide +kernel
theorem dX9_removeBigon_47 : decode cX9_removeBigon 47 = .ok (.aload_n 0, 1) := by decide +kernel
theorem dX9_removeBigon_48 : decode cX9_removeBigon 48 = .ok (.getfield 30, 3) := by decide +kernel
theorem dX9_removeBigon_51 : decode cX9_removeBigon 51 = .ok (.aload_n 0, 1) := by decide +kernel
theorem dX9_removeBigon_52 : decode cX9_removeBigon 52 = .ok (.getfield 26, 3) := by decide +kernel
theorem dX9_removeBigon_55 : decode cX9_removeBigon 55 = .ok (.invokevirtual 85, 3) := by decide +kernel
theorem dX9_removeBigon_58 : decode cX9_removeBigon 58 = .ok (.aload_n 0, 1) := by decide +kernel
theorem dX9_removeBigon_59 : decode cX9_removeBigon 59 = .ok (.getfield 30, 3) := by decide +kernel
theorem dX9_removeBigon_62 : decode cX9_removeBigon 62 = .ok (.iload_n 1, 1) := by decide +kernel
theorem dX9_removeBigon_63 : decode cX9_removeBigon 63 = .ok (.iload_n 2, 1) := by decide +kernel
theorem dX9_removeBigon_64 : decode cX9_removeBigon 64 = .ok (.iload_n 3, 1) := by decide +kernel
theorem dX9_removeBigon_65 : decode cX9_removeBigon 65 = .ok (.invokestatic 124, 3) := by decide +kernel
theorem dX9_removeBigon_68 : decode cX9_removeBigon 68 = .ok (.aload_n 0, 1) := by decide +kernel
theorem dX9_removeBigon_69 : decode cX9_removeBigon 69 = .ok (.invokevirtual 116, 3) := by decide +kernel
theorem dX9_removeBigon_72 : decode cX9_removeBigon 72 = .ok (.ireturn, 1) := by decide +kernel
set_option maxRecDepth 20000 in
theorem ggX9_isKink_X2_hasCrossing : GoodIn wsX9_isKink wsX2_hasCrossing := goodIn_r _ [7, 8, 30, 31, 32] (by decide +kernel) (by decide +kernel)
set_option maxRecDepth 20000 in
theorem gX9_isKink_X2_hasCrossing : GoodIn wsX9_isKink (wsV RX9 77 RX2 yX2_hasCrossing wsX2_hasCrossing) := goodIn_app (goodIn_of _ (by decide +kernel)) ggX9_isKink_X2_hasCrossing
set_option maxRecDepth 20000 in
theorem ggX9_isKink_X3_kinkEnd : GoodIn wsX9_isKink wsX3_kinkEnd := goodIn_r _ [12, 13, 14, 11, 15, 16, 17, 18, 6, 19, 20, 30, 31, 32] (by decide +kernel) (by decide +kernel)
set_option maxRecDepth 20000 in
theorem gX9_isKink_X3_kinkEnd : GoodIn wsX9_isKink (va_wsS RX9 106 yX3_kinkEnd wsX3_kinkEnd) := goodIn_app (goodIn_of _ (by decide +kernel)) ggX9_isKink_X3_kinkEnd
theorem dX9_isKink_0 : decode cX9_isKink 0 = .ok (.aload_n 0, 1) := by decide +kernel
theorem dX9_isKink_1 : decode cX9_isKink 1 = .ok (.getfield 26, 3) := by decide +kernel
theorem dX9_isKink_4 : decode cX9_isKink 4 = .ok (.iload_n 1, 1) := by decide +kernel
theorem dX9_isKink_5 : decode cX9_isKink 5 = .ok (.invokevirtual 77, 3) := by decide +kernel
theorem dX9_isKink_8 : decode cX9_isKink 8 = .ok (.ifCond .ne 6, 3) := by decide +kernel
theorem dX9_isKink_11 : decode cX9_isKink 11 = .ok (.ldc 58, 2) := by decide +kernel
theorem dX9_isKink_13 : decode cX9_isKink 13 = .ok (.ireturn, 1) := by decide +kernel
theorem dX9_isKink_14 : decode cX9_isKink 14 = .ok (.aload_n 0, 1) := by decide +kernel
theorem dX9_isKink_15 : decode cX9_isKink 15 = .ok (.getfield 26, 3) := by decide +kernel
theorem dX9_isKink_18 : decode cX9_isKink 18 = .ok (.iload_n 1, 1) := by decide +kernel
theorem dX9_isKink_19 : decode cX9_isKink 19 = .ok (.invokestatic 106, 3) := by decide +kernel
theorem dX9_isKink_22 : decode cX9_isKink 22 = .ok (.ifCond .ge 7, 3) := by decide +kernel
theorem dX9_isKink_25 : decode cX9_isKink 25 = .ok (.iconst 0, 1) := by decide +kernel
theorem dX9_isKink_26 : decode cX9_isKink 26 = .ok (.goto 4, 3) := by decide +kernel
theorem dX9_isKink_29 : decode cX9_isKink 29 = .ok (.iconst 1, 1) := by decide +kernel
theorem dX9_isKink_30 : decode cX9_isKink 30 = .ok (.ireturn, 1) := by decide +kernel
set_option maxRecDepth 20000 in
theorem ggX9_bigonPartner_X2_hasCrossing : GoodIn wsX9_bigonPartner wsX2_hasCrossing := goodIn_r _ [9, 10, 35, 36, 37] (by decide +kernel) (by decide +kernel)
set_option maxRecDepth 20000 in
theorem gX9_bigonPartner_X2_hasCrossing : GoodIn wsX9_bigonPartner (wsV RX9 77 RX2 yX2_hasCrossing wsX2_hasCrossing) := goodIn_app (goodIn_of _ (by decide +kernel)) ggX9_bigonPartner_X2_hasCrossing
set_option maxRecDepth 20000 in
theorem ggX9_bigonPartner_X3_bigonCorner : GoodIn wsX9_bigonPartner wsX3_bigonCorner := goodIn_r _ [14, 15, 16, 13, 17, 18, 19, 20, 21, 22, 23, 8, 24, 25, 35, 36, 37] (by decide +kernel) (by decide +kernel)
set_option maxRecDepth 20000 in
theorem gX9_bigonPartner_X3_bigonCorner : GoodIn wsX9_bigonPartner (va_wsS RX9 120 yX3_bigonCorner wsX3_bigonCorner) := goodIn_app (goodIn_of _ (by decide +kernel)) ggX9_bigonPartner_X3_bigonCorner
theorem dX9_bigonPartner_0 : decode cX9_bigonPartner 0 = .ok (.aload_n 0, 1) := by decide +kernel
theorem dX9_bigonPartner_1 : decode cX9_bigonPartner 1 = .ok (.getfield 26, 3) := by decide +kernel
theorem dX9_bigonPartner_4 : decode cX9_bigonPartner 4 = .ok (.iload_n 1, 1) := by decide +kernel
theorem dX9_bigonPartner_5 : decode cX9_bigonPartner 5 = .ok (.invokevirtual 77, 3) := by decide +kernel
theorem dX9_bigonPartner_8 : decode cX9_bigonPartner 8 = .ok (.ifCond .ne 6, 3) := by decide +kernel
theorem dX9_bigonPartner_11 : decode cX9_bigonPartner 11 = .ok (.ldc 58, 2) := by decide +kernel
theorem dX9_bigonPartner_13 : decode cX9_bigonPartner 13 = .ok (.ireturn, 1) := by decide +kernel
theorem dX9_bigonPartner_14 : decode cX9_bigonPartner 14 = .ok (.aload_n 0, 1) := by decide +kernel
theorem dX9_bigonPartner_15 : decode cX9_bigonPartner 15 = .ok (.getfield 26, 3) := by decide +kernel
theorem dX9_bigonPartner_18 : decode cX9_bigonPartner 18 = .ok (.getfield 74, 3) := by decide +kernel
theorem dX9_bigonPartner_21 : decode cX9_bigonPartner 21 = .ok (.istore_n 2, 1) := by decide +kernel
theorem dX9_bigonPartner_22 : decode cX9_bigonPartner 22 = .ok (.iconst 0, 1) := by decide +kernel
theorem dX9_bigonPartner_23 : decode cX9_bigonPartner 23 = .ok (.istore_n 3, 1) := by decide +kernel
theorem dX9_bigonPartner_24 : decode cX9_bigonPartner 24 = .ok (.iload_n 3, 1) := by decide +kernel
theorem dX9_bigonPartner_25 : decode cX9_bigonPartner 25 = .ok (.iload_n 2, 1) := by decide +kernel
theorem dX9_bigonPartner_26 : decode cX9_bigonPartner 26 = .ok (.if_icmp .ge 28, 3) := by decide +kernel
theorem dX9_bigonPartner_29 : decode cX9_bigonPartner 29 = .ok (.iload_n 3, 1) := by decide +kernel
theorem dX9_bigonPartner_30 : decode cX9_bigonPartner 30 = .ok (.iload_n 1, 1) := by decide +kernel
theorem dX9_bigonPartner_31 : decode cX9_bigonPartner 31 = .ok (.if_icmp .eq 17, 3) := by decide +kernel
theorem dX9_bigonPartner_34 : decode cX9_bigonPartner 34 = .ok (.aload_n 0, 1) := by decide +kernel
theorem dX9_bigonPartner_35 : decode cX9_bigonPartner 35 = .ok (.getfield 26, 3) := by decide +kernel
theorem dX9_bigonPartner_38 : decode cX9_bigonPartner 38 = .ok (.iload_n 1, 1) := by decide +kernel
theorem dX9_bigonPartner_39 : decode cX9_bigonPartner 39 = .ok (.iload_n 3, 1) := by decide +kernel
theorem dX9_bigonPartner_40 : decode cX9_bigonPartner 40 = .ok (.invokestatic 120, 3) := by decide +kernel
theorem dX9_bigonPartner_43 : decode cX9_bigonPartner 43 = .ok (.ifCond .lt 5, 3) := by decide +kernel
theorem dX9_bigonPartner_46 : decode cX9_bigonPartner 46 = .ok (.iload_n 3, 1) := by decide +kernel
theorem dX9_bigonPartner_47 : decode cX9_bigonPartner 47 = .ok (.ireturn, 1) := by decide +kernel
theorem dX9_bigonPartner_48 : decode cX9_bigonPartner 48 = .ok (.iinc 3 1, 3) := by decide +kernel
theorem dX9_bigonPartner_51 : decode cX9_bigonPartner 51 = .ok (.goto (-27), 3) := by decide +kernel
theorem dX9_bigonPartner_54 : decode cX9_bigonPartner 54 = .ok (.ldc 128, 2) := by decide +kernel
theorem dX9_bigonPartner_56 : decode cX9_bigonPartner 56 = .ok (.ireturn, 1) := by decide +kernel
set_option maxRecDepth 20000 in
theorem ggX9_componentCount_X7_count : GoodIn wsX9_componentCount wsX7_count := goodIn_r _ [6, 7, 8, 9, 10, 11, 12, 13, 14, 15, 16, 17, 5, 18, 19, 20, 21, 22, 23, 24, 25, 26, 27, 28, 29, 30, 40, 41, 42] (by decide +kernel) (by decide +kernel)
set_option maxRecDepth 20000 in
theorem gX9_componentCount_X7_count : GoodIn wsX9_componentCount (va_wsS RX9 129 yX7_count wsX7_count) := goodIn_app (goodIn_of _ (by decide +kernel)) ggX9_componentCount_X7_count
theorem dX9_componentCount_0 : decode cX9_componentCount 0 = .ok (.aload_n 0, 1) := by decide +kernel
theorem dX9_componentCount_1 : decode cX9_componentCount 1 = .ok (.getfield 26, 3) := by decide +kernel
theorem dX9_componentCount_4 : decode cX9_componentCount 4 = .ok (.invokestatic 129, 3) := by decide +kernel
theorem dX9_componentCount_7 : decode cX9_componentCount 7 = .ok (.aload_n 0, 1) := by decide +kernel
theorem dX9_componentCount_8 : decode cX9_componentCount 8 = .ok (.getfield 26, 3) := by decide +kernel
theorem dX9_componentCount_11 : decode cX9_componentCount 11 = .ok (.getfield 54, 3) := by decide +kernel
theorem dX9_componentCount_14 : decode cX9_componentCount 14 = .ok (.iadd, 1) := by decide +kernel
theorem dX9_componentCount_15 : decode cX9_componentCount 15 = .ok (.ireturn, 1) := by decide +kernel
set_option maxRecDepth 20000 in
theorem ggX9_partCount_X5_crossingParts : GoodIn wsX9_partCount wsX5_crossingParts := goodIn_r _ [6, 7, 8, 9, 10, 11, 12, 5, 13, 14, 15, 16, 17, 18, 19, 20, 21, 22, 23, 24, 25, 26, 27, 28, 29, 30, 31, 41, 42, 43] (by decide +kernel) (by decide +kernel)
set_option maxRecDepth 20000 in
theorem gX9_partCount_X5_crossingParts : GoodIn wsX9_partCount (va_wsS RX9 132 yX5_crossingParts wsX5_crossingParts) := goodIn_app (goodIn_of _ (by decide +kernel)) ggX9_partCount_X5_crossingParts
theorem dX9_partCount_0 : decode cX9_partCount 0 = .ok (.aload_n 0, 1) := by decide +kernel
theorem dX9_partCount_1 : decode cX9_partCount 1 = .ok (.getfield 26, 3) := by decide +kernel
theorem dX9_partCount_4 : decode cX9_partCount 4 = .ok (.invokestatic 132, 3) := by decide +kernel
theorem dX9_partCount_7 : decode cX9_partCount 7 = .ok (.aload_n 0, 1) := by decide +kernel
theorem dX9_partCount_8 : decode cX9_partCount 8 = .ok (.getfield 26, 3) := by decide +kernel
theorem dX9_partCount_11 : decode cX9_partCount 11 = .ok (.getfield 54, 3) := by decide +kernel
theorem dX9_partCount_14 : decode cX9_partCount 14 = .ok (.iadd, 1) := by decide +kernel
theorem dX9_partCount_15 : decode cX9_partCount 15 = .ok (.ireturn, 1) := by decide +kernel
set_option maxRecDepth 20000 in
theorem ggX9_faceCount_X5_endCycles : GoodIn wsX9_faceCount wsX5_endCycles := goodIn_r _ [6, 7, 8, 9, 10, 11, 12, 13, 14, 15, 16, 17, 5, 18, 19, 20, 21, 22, 23, 24, 25, 26, 27, 28, 29, 30, 40, 41, 42] (by decide +kernel) (by decide +kernel)
set_option maxRecDepth 20000 in
theorem gX9_faceCount_X5_endCycles : GoodIn wsX9_faceCount (va_wsS RX9 137 yX5_endCycles wsX5_endCycles) := goodIn_app (goodIn_of _ (by decide +kernel)) ggX9_faceCount_X5_endCycles
theorem dX9_faceCount_0 : decode cX9_faceCount 0 = .ok (.aload_n 0, 1) := by decide +kernel
theorem dX9_faceCount_1 : decode cX9_faceCount 1 = .ok (.getfield 26, 3) := by decide +kernel
theorem dX9_faceCount_4 : decode cX9_faceCount 4 = .ok (.invokestatic 137, 3) := by decide +kernel
theorem dX9_faceCount_7 : decode cX9_faceCount 7 = .ok (.iconst 2, 1) := by decide +kernel
theorem dX9_faceCount_8 : decode cX9_faceCount 8 = .ok (.aload_n 0, 1) := by decide +kernel
theorem dX9_faceCount_9 : decode cX9_faceCount 9 = .ok (.getfield 26, 3) := by decide +kernel
theorem dX9_faceCount_12 : decode cX9_faceCount 12 = .ok (.getfield 54, 3) := by decide +kernel
theorem dX9_faceCount_15 : decode cX9_faceCount 15 = .ok (.imul, 1) := by decide +kernel
theorem dX9_faceCount_16 : decode cX9_faceCount 16 = .ok (.iadd, 1) := by decide +kernel
theorem dX9_faceCount_17 : decode cX9_faceCount 17 = .ok (.ireturn, 1) := by decide +kernel
set_option maxRecDepth 20000 in
theorem ggX9_genus_X9_partCount : GoodIn wsX9_genus wsX9_partCount := goodIn_r _ [7, 1, 8, 9, 10, 11, 12, 13, 14, 6, 15, 16, 17, 18, 19, 20, 21, 22, 23, 24, 25, 26, 27, 28, 29, 30, 31, 32, 33, 34, 35, 36, 47, 48, 49, 50, 51, 52, 53, 54, 55, 56, 57, 58] (by decide +kernel) (by decide +kernel)
set_option maxRecDepth 20000 in
theorem gX9_genus_X9_partCount : GoodIn wsX9_genus (wsV RX9 140 RX9 yX9_partCount wsX9_partCount) := goodIn_app (goodIn_of _ (by decide +kernel)) ggX9_genus_X9_partCount
set_option maxRecDepth 20000 in
theorem ggX9_genus_X9_faceCount : GoodIn wsX9_genus wsX9_faceCount := goodIn_r _ [40, 1, 8, 41, 42, 11, 43, 21, 22, 23, 24, 25, 26, 14, 6, 15, 44, 45, 46, 19, 20, 27, 28, 29, 30, 31, 32, 33, 34, 35, 36, 47, 48, 49, 50, 51, 52, 53, 54, 55, 56, 57, 58] (by decide +kernel) (by decide +kernel)
set_option maxRecDepth 20000 in
theorem gX9_genus_X9_faceCount : GoodIn wsX9_genus (wsV RX9 143 RX9 yX9_faceCount wsX9_faceCount) := goodIn_app (goodIn_of _ (by decide +kernel)) ggX9_genus_X9_faceCount
theorem dX9_genus_0 : decode cX9_genus 0 = .ok (.aload_n 0, 1) := by decide +kernel
theorem dX9_genus_1 : decode cX9_genus 1 = .ok (.getfield 26, 3) := by decide +kernel
theorem dX9_genus_4 : decode cX9_genus 4 = .ok (.getfield 74, 3) := by decide +kernel
theorem dX9_genus_7 : decode cX9_genus 7 = .ok (.iconst 2, 1) := by decide +kernel
theorem dX9_genus_8 : decode cX9_genus 8 = .ok (.aload_n 0, 1) := by decide +kernel
theorem dX9_genus_9 : decode cX9_genus 9 = .ok (.invokevirtual 140, 3) := by decide +kernel
theorem dX9_genus_12 : decode cX9_genus 12 = .ok (.imul, 1) := by decide +kernel
theorem dX9_genus_13 : decode cX9_genus 13 = .ok (.iadd, 1) := by decide +kernel
theorem dX9_genus_14 : decode cX9_genus 14 = .ok (.aload_n 0, 1) := by decide +kernel
theorem dX9_genus_15 : decode cX9_genus 15 = .ok (.invokevirtual 143, 3) := by decide +kernel
theorem dX9_genus_18 : decode cX9_genus 18 = .ok (.isub, 1) := by decide +kernel
theorem dX9_genus_19 : decode cX9_genus 19 = .ok (.iconst 2, 1) := by decide +kernel
theorem dX9_genus_20 : decode cX9_genus 20 = .ok (.idiv, 1) := by decide +kernel
theorem dX9_genus_21 : decode cX9_genus 21 = .ok (.ireturn, 1) := by decide +kernel
set_option maxRecDepth 20000 in
theorem ggX9_isAlternating_X5_alternates : GoodIn wsX9_isAlternating wsX5_alternates := goodIn_r _ [5, 6, 7, 8, 9, 10, 11, 12, 13, 14, 15, 16, 17, 18, 19, 20, 21, 31, 32, 33] (by decide +kernel) (by decide +kernel)
set_option maxRecDepth 20000 in
theorem gX9_isAlternating_X5_alternates : GoodIn wsX9_isAlternating (va_wsS RX9 146 yX5_alternates wsX5_alternates) := goodIn_app (goodIn_of _ (by decide +kernel)) ggX9_isAlternating_X5_alternates
theorem dX9_isAlternating_0 : decode cX9_isAlternating 0 = .ok (.aload_n 0, 1) := by decide +kernel
theorem dX9_isAlternating_1 : decode cX9_isAlternating 1 = .ok (.getfield 26, 3) := by decide +kernel
theorem dX9_isAlternating_4 : decode cX9_isAlternating 4 = .ok (.invokestatic 146, 3) := by decide +kernel
theorem dX9_isAlternating_7 : decode cX9_isAlternating 7 = .ok (.ifCond .eq 7, 3) := by decide +kernel
theorem dX9_isAlternating_10 : decode cX9_isAlternating 10 = .ok (.iconst 1, 1) := by decide +kernel
theorem dX9_isAlternating_11 : decode cX9_isAlternating 11 = .ok (.goto 4, 3) := by decide +kernel
theorem dX9_isAlternating_14 : decode cX9_isAlternating 14 = .ok (.iconst 0, 1) := by decide +kernel
theorem dX9_isAlternating_15 : decode cX9_isAlternating 15 = .ok (.ireturn, 1) := by decide +kernel
set_option maxRecDepth 20000 in
theorem ggX9_crossingSign_X2_hasCrossing : GoodIn wsX9_crossingSign wsX2_hasCrossing := goodIn_r _ [7, 8, 50, 51, 52] (by decide +kernel) (by decide +kernel)
set_option maxRecDepth 20000 in
theorem gX9_crossingSign_X2_hasCrossing : GoodIn wsX9_crossingSign (wsV RX9 77 RX2 yX2_hasCrossing wsX2_hasCrossing) := goodIn_app (goodIn_of _ (by decide +kernel)) ggX9_crossingSign_X2_hasCrossing
set_option maxRecDepth 20000 in
theorem ggX9_crossingSign_X7_enteredEnds : GoodIn wsX9_crossingSign wsX7_enteredEnds := goodIn_r _ [12, 13, 14, 15, 6, 16, 17, 18, 19, 20, 8, 21, 22, 23, 24, 25, 26, 27, 28, 29, 30, 31, 32, 33, 34, 11, 35, 36, 37, 50, 51, 52] (by decide +kernel) (by decide +kernel)
set_option maxRecDepth 20000 in
theorem gX9_crossingSign_X7_enteredEnds : GoodIn wsX9_crossingSign (va_wsS RX9 92 yX7_enteredEnds wsX7_enteredEnds) := goodIn_app (goodIn_of _ (by decide +kernel)) ggX9_crossingSign_X7_enteredEnds
set_option maxRecDepth 20000 in
theorem ggX9_crossingSign_X7_sign : GoodIn wsX9_crossingSign wsX7_sign := goodIn_r _ [40, 30, 31, 32] (by decide +kernel) (by decide +kernel)
set_option maxRecDepth 20000 in
theorem gX9_crossingSign_X7_sign : GoodIn wsX9_crossingSign (va_wsS RX9 98 yX7_sign wsX7_sign) := goodIn_app (goodIn_of _ (by decide +kernel)) ggX9_crossingSign_X7_sign
theorem dX9_crossingSign_0 : decode cX9_crossingSign 0 = .ok (.aload_n 0, 1) := by decide +kernel
theorem dX9_crossingSign_1 : decode cX9_crossingSign 1 = .ok (.getfield 26, 3) := by decide +kernel
theorem dX9_crossingSign_4 : decode cX9_crossingSign 4 = .ok (.iload_n 1, 1) := by decide +kernel
theorem dX9_crossingSign_5 : decode cX9_crossingSign 5 = .ok (.invokevirtual 77, 3) := by decide +kernel
theorem dX9_crossingSign_8 : decode cX9_crossingSign 8 = .ok (.ifCond .ne 6, 3) := by decide +kernel
theorem dX9_crossingSign_11 : decode cX9_crossingSign 11 = .ok (.ldc 58, 2) := by decide +kernel
theorem dX9_crossingSign_13 : decode cX9_crossingSign 13 = .ok (.ireturn, 1) := by decide +kernel
theorem dX9_crossingSign_14 : decode cX9_crossingSign 14 = .ok (.iload_n 1, 1) := by decide +kernel
theorem dX9_crossingSign_15 : decode cX9_crossingSign 15 = .ok (.aload_n 0, 1) := by decide +kernel
theorem dX9_crossingSign_16 : decode cX9_crossingSign 16 = .ok (.getfield 26, 3) := by decide +kernel
theorem dX9_crossingSign_19 : decode cX9_crossingSign 19 = .ok (.invokestatic 92, 3) := by decide +kernel
theorem dX9_crossingSign_22 : decode cX9_crossingSign 22 = .ok (.invokestatic 98, 3) := by decide +kernel
theorem dX9_crossingSign_25 : decode cX9_crossingSign 25 = .ok (.ireturn, 1) := by decide +kernel
set_option maxRecDepth 20000 in
theorem ggX9_writhe_X7_signSum : GoodIn wsX9_writhe wsX7_signSum := goodIn_r _ [5, 6, 7, 8, 4, 9, 10, 11, 12, 13, 14, 15, 16, 17, 18, 19, 20, 21, 22, 23, 24, 25, 26, 27, 28, 29, 30, 31, 32, 33, 34, 35, 36, 37, 38, 39, 49, 50, 51] (by decide +kernel) (by decide +kernel)
set_option maxRecDepth 20000 in
theorem gX9_writhe_X7_signSum : GoodIn wsX9_writhe (va_wsS RX9 103 yX7_signSum wsX7_signSum) := goodIn_app (goodIn_of _ (by decide +kernel)) ggX9_writhe_X7_signSum
theorem dX9_writhe_0 : decode cX9_writhe 0 = .ok (.aload_n 0, 1) := by decide +kernel
theorem dX9_writhe_1 : decode cX9_writhe 1 = .ok (.getfield 26, 3) := by decide +kernel
theorem dX9_writhe_4 : decode cX9_writhe 4 = .ok (.invokestatic 103, 3) := by decide +kernel
theorem dX9_writhe_7 : decode cX9_writhe 7 = .ok (.ireturn, 1) := by decide +kernel
set_option maxRecDepth 20000 in
theorem ggX9_stateLoops_X0_loops : GoodIn wsX9_stateLoops wsX0_loops := goodIn_r _ [9, 10, 11, 12, 8, 13, 14, 15, 16, 17, 18, 19, 20, 21, 22, 23, 24, 25, 26, 27, 28, 29, 30, 31, 32, 33, 34, 35, 36, 37, 38, 39, 40, 41, 42, 43, 44, 57, 58, 59, 60, 61, 54, 55, 56] (by decide +kernel) (by decide +kernel)
set_option maxRecDepth 20000 in
theorem gX9_stateLoops_X0_loops : GoodIn wsX9_stateLoops (wsV RX9 150 RX0 yX0_loops wsX0_loops) := goodIn_app (goodIn_of _ (by decide +kernel)) ggX9_stateLoops_X0_loops
theorem dX9_stateLoops_0 : decode cX9_stateLoops 0 = .ok (.iload_n 1, 1) := by decide +kernel
theorem dX9_stateLoops_1 : decode cX9_stateLoops 1 = .ok (.ifCond .lt 16, 3) := by decide +kernel
theorem dX9_stateLoops_4 : decode cX9_stateLoops 4 = .ok (.iload_n 1, 1) := by decide +kernel
theorem dX9_stateLoops_5 : decode cX9_stateLoops 5 = .ok (.iconst 1, 1) := by decide +kernel
theorem dX9_stateLoops_6 : decode cX9_stateLoops 6 = .ok (.aload_n 0, 1) := by decide +kernel
theorem dX9_stateLoops_7 : decode cX9_stateLoops 7 = .ok (.getfield 26, 3) := by decide +kernel
theorem dX9_stateLoops_10 : decode cX9_stateLoops 10 = .ok (.getfield 74, 3) := by decide +kernel
theorem dX9_stateLoops_13 : decode cX9_stateLoops 13 = .ok (.ishl, 1) := by decide +kernel
theorem dX9_stateLoops_14 : decode cX9_stateLoops 14 = .ok (.if_icmp .lt 6, 3) := by decide +kernel
theorem dX9_stateLoops_17 : decode cX9_stateLoops 17 = .ok (.ldc 58, 2) := by decide +kernel
theorem dX9_stateLoops_19 : decode cX9_stateLoops 19 = .ok (.ireturn, 1) := by decide +kernel
theorem dX9_stateLoops_20 : decode cX9_stateLoops 20 = .ok (.aload_n 0, 1) := by decide +kernel
theorem dX9_stateLoops_21 : decode cX9_stateLoops 21 = .ok (.getfield 43, 3) := by decide +kernel
theorem dX9_stateLoops_24 : decode cX9_stateLoops 24 = .ok (.aload_n 0, 1) := by decide +kernel
theorem dX9_stateLoops_25 : decode cX9_stateLoops 25 = .ok (.getfield 26, 3) := by decide +kernel
theorem dX9_stateLoops_28 : decode cX9_stateLoops 28 = .ok (.iload_n 1, 1) := by decide +kernel
theorem dX9_stateLoops_29 : decode cX9_stateLoops 29 = .ok (.invokevirtual 150, 3) := by decide +kernel
theorem dX9_stateLoops_32 : decode cX9_stateLoops 32 = .ok (.ireturn, 1) := by decide +kernel
set_option maxRecDepth 20000 in
theorem ggX9_coefficient_X9_isExponent : GoodIn wsX9_coefficient wsX9_isExponent := goodIn_r _ [7] (by decide +kernel) (by decide +kernel)
set_option maxRecDepth 20000 in
theorem gX9_coefficient_X9_isExponent : GoodIn wsX9_coefficient (va_wsS RX9 153 yX9_isExponent wsX9_isExponent) := goodIn_app (goodIn_of _ (by decide +kernel)) ggX9_coefficient_X9_isExponent
set_option maxRecDepth 20000 in
theorem ggX9_coefficient_X0_prepare : GoodIn wsX9_coefficient wsX0_prepare := goodIn_r _ [12, 13, 14, 15, 16, 17, 11, 18, 19, 20, 21, 22, 23, 24, 25, 26, 27, 28, 29, 30, 31, 32, 33, 34, 35, 36, 37, 38, 39, 40, 41, 42, 43, 44, 45, 46, 6, 47, 48, 49, 50, 51, 52, 53, 54, 55, 56, 57, 58, 59, 60, 61, 62, 63, 64, 65, 66, 67, 68, 69, 70, 71, 72, 73, 74, 75, 76, 77, 78, 79, 80, 81, 92, 93, 94, 95, 96, 97, 98, 99] (by decide +kernel) (by decide +kernel)
set_option maxRecDepth 20000 in
theorem gX9_coefficient_X0_prepare : GoodIn wsX9_coefficient (wsV RX9 156 RX0 yX0_prepare wsX0_prepare) := goodIn_app (goodIn_of _ (by decide +kernel)) ggX9_coefficient_X0_prepare
set_option maxRecDepth 20000 in
theorem ggX9_coefficient_X0_at : GoodIn wsX9_coefficient wsX0_at := goodIn_r _ [77, 68, 92, 93, 94, 95, 96] (by decide +kernel) (by decide +kernel)
set_option maxRecDepth 20000 in
theorem gX9_coefficient_X0_at : GoodIn wsX9_coefficient (wsV RX9 159 RX0 yX0_at wsX0_at) := goodIn_app (goodIn_of _ (by decide +kernel)) ggX9_coefficient_X0_at
theorem dX9_coefficient_0 : decode cX9_coefficient 0 = .ok (.iload_n 1, 1) := by decide +kernel
theorem dX9_coefficient_1 : decode cX9_coefficient 1 = .ok (.invokestatic 153, 3) := by decide +kernel
theorem dX9_coefficient_4 : decode cX9_coefficient 4 = .ok (.ifCond .ne 6, 3) := by decide +kernel
theorem dX9_coefficient_7 : decode cX9_coefficient 7 = .ok (.ldc 58, 2) := by decide +kernel
theorem dX9_coefficient_9 : decode cX9_coefficient 9 = .ok (.ireturn, 1) := by decide +kernel
theorem dX9_coefficient_10 : decode cX9_coefficient 10 = .ok (.aload_n 0, 1) := by decide +kernel
theorem dX9_coefficient_11 : decode cX9_coefficient 11 = .ok (.getfield 43, 3) := by decide +kernel
theorem dX9_coefficient_14 : decode cX9_coefficient 14 = .ok (.aload_n 0, 1) := by decide +kernel
theorem dX9_coefficient_15 : decode cX9_coefficient 15 = .ok (.getfield 26, 3) := by decide +kernel
theorem dX9_coefficient_18 : decode cX9_coefficient 18 = .ok (.invokevirtual 156, 3) := by decide +kernel
theorem dX9_coefficient_21 : decode cX9_coefficient 21 = .ok (.aload_n 0, 1) := by decide +kernel
theorem dX9_coefficient_22 : decode cX9_coefficient 22 = .ok (.getfield 43, 3) := by decide +kernel
theorem dX9_coefficient_25 : decode cX9_coefficient 25 = .ok (.iload_n 1, 1) := by decide +kernel
theorem dX9_coefficient_26 : decode cX9_coefficient 26 = .ok (.invokevirtual 159, 3) := by decide +kernel
theorem dX9_coefficient_29 : decode cX9_coefficient 29 = .ok (.ireturn, 1) := by decide +kernel
set_option maxRecDepth 20000 in
theorem ggX9_normalizedCoefficient_X9_isExponent : GoodIn wsX9_normalizedCoefficient wsX9_isExponent := goodIn_r _ [7] (by decide +kernel) (by decide +kernel)
set_option maxRecDepth 20000 in
theorem gX9_normalizedCoefficient_X9_isExponent : GoodIn wsX9_normalizedCoefficient (va_wsS RX9 153 yX9_isExponent wsX9_isExponent) := goodIn_app (goodIn_of _ (by decide +kernel)) ggX9_normalizedCoefficient_X9_isExponent
set_option maxRecDepth 20000 in
theorem ggX9_normalizedCoefficient_X0_prepare : GoodIn wsX9_normalizedCoefficient wsX0_prepare := goodIn_r _ [12, 13, 14, 15, 16, 17, 11, 18, 19, 20, 21, 22, 23, 24, 25, 26, 27, 28, 29, 30, 31, 32, 33, 34, 35, 36, 37, 38, 39, 40, 41, 42, 43, 44, 45, 46, 6, 47, 48, 49, 50, 51, 52, 53, 54, 55, 56, 57, 58, 59, 60, 61, 62, 63, 64, 65, 66, 67, 68, 69, 70, 71, 72, 73, 74, 75, 76, 77, 78, 79, 80, 81, 111, 112, 113, 114, 115, 116, 117, 118] (by decide +kernel) (by decide +kernel)
set_option maxRecDepth 20000 in
theorem gX9_normalizedCoefficient_X0_prepare : GoodIn wsX9_normalizedCoefficient (wsV RX9 156 RX0 yX0_prepare wsX0_prepare) := goodIn_app (goodIn_of _ (by decide +kernel)) ggX9_normalizedCoefficient_X0_prepare
set_option maxRecDepth 20000 in
theorem ggX9_normalizedCoefficient_X7_signSum : GoodIn wsX9_normalizedCoefficient wsX7_signSum := goodIn_r _ [85, 86, 87, 88, 84, 89, 90, 91, 92, 23, 93, 30, 31, 32, 33, 34, 25, 26, 27, 28, 29, 94, 21, 22, 24, 46, 6, 47, 95, 96, 97, 52, 53, 98, 99, 100, 116, 117, 118] (by decide +kernel) (by decide +kernel)
set_option maxRecDepth 20000 in
theorem gX9_normalizedCoefficient_X7_signSum : GoodIn wsX9_normalizedCoefficient (va_wsS RX9 103 yX7_signSum wsX7_signSum) := goodIn_app (goodIn_of _ (by decide +kernel)) ggX9_normalizedCoefficient_X7_signSum
set_option maxRecDepth 20000 in
theorem ggX9_normalizedCoefficient_X0_at : GoodIn wsX9_normalizedCoefficient wsX0_at := goodIn_r _ [77, 68, 111, 112, 113, 114, 115] (by decide +kernel) (by decide +kernel)
set_option maxRecDepth 20000 in
theorem gX9_normalizedCoefficient_X0_at : GoodIn wsX9_normalizedCoefficient (wsV RX9 159 RX0 yX0_at wsX0_at) := goodIn_app (goodIn_of _ (by decide +kernel)) ggX9_normalizedCoefficient_X0_at
theorem dX9_normalizedCoefficient_0 : decode cX9_normalizedCoefficient 0 = .ok (.iload_n 1, 1) := by decide +kernel
theorem dX9_normalizedCoefficient_1 : decode cX9_normalizedCoefficient 1 = .ok (.invokestatic 153, 3) := by decide +kernel
theorem dX9_normalizedCoefficient_4 : decode cX9_normalizedCoefficient 4 = .ok (.ifCond .ne 6, 3) := by decide +kernel
theorem dX9_normalizedCoefficient_7 : decode cX9_normalizedCoefficient 7 = .ok (.ldc 58, 2) := by decide +kernel
theorem dX9_normalizedCoefficient_9 : decode cX9_normalizedCoefficient 9 = .ok (.ireturn, 1) := by decide +kernel
theorem dX9_normalizedCoefficient_10 : decode cX9_normalizedCoefficient 10 = .ok (.aload_n 0, 1) := by decide +kernel
theorem dX9_normalizedCoefficient_11 : decode cX9_normalizedCoefficient 11 = .ok (.getfield 43, 3) := by decide +kernel
theorem dX9_normalizedCoefficient_14 : decode cX9_normalizedCoefficient 14 = .ok (.aload_n 0, 1) := by decide +kernel
theorem dX9_normalizedCoefficient_15 : decode cX9_normalizedCoefficient 15 = .ok (.getfield 26, 3) := by decide +kernel
theorem dX9_normalizedCoefficient_18 : decode cX9_normalizedCoefficient 18 = .ok (.invokevirtual 156, 3) := by decide +kernel
theorem dX9_normalizedCoefficient_21 : decode cX9_normalizedCoefficient 21 = .ok (.aload_n 0, 1) := by decide +kernel
theorem dX9_normalizedCoefficient_22 : decode cX9_normalizedCoefficient 22 = .ok (.getfield 26, 3) := by decide +kernel
theorem dX9_normalizedCoefficient_25 : decode cX9_normalizedCoefficient 25 = .ok (.invokestatic 103, 3) := by decide +kernel
theorem dX9_normalizedCoefficient_28 : decode cX9_normalizedCoefficient 28 = .ok (.istore_n 2, 1) := by decide +kernel
theorem dX9_normalizedCoefficient_29 : decode cX9_normalizedCoefficient 29 = .ok (.aload_n 0, 1) := by decide +kernel
theorem dX9_normalizedCoefficient_30 : decode cX9_normalizedCoefficient 30 = .ok (.getfield 43, 3) := by decide +kernel
theorem dX9_normalizedCoefficient_33 : decode cX9_normalizedCoefficient 33 = .ok (.iload_n 1, 1) := by decide +kernel
theorem dX9_normalizedCoefficient_34 : decode cX9_normalizedCoefficient 34 = .ok (.iconst 3, 1) := by decide +kernel
theorem dX9_normalizedCoefficient_35 : decode cX9_normalizedCoefficient 35 = .ok (.iload_n 2, 1) := by decide +kernel
theorem dX9_normalizedCoefficient_36 : decode cX9_normalizedCoefficient 36 = .ok (.imul, 1) := by decide +kernel
theorem dX9_normalizedCoefficient_37 : decode cX9_normalizedCoefficient 37 = .ok (.iadd, 1) := by decide +kernel
theorem dX9_normalizedCoefficient_38 : decode cX9_normalizedCoefficient 38 = .ok (.invokevirtual 159, 3) := by decide +kernel
theorem dX9_normalizedCoefficient_41 : decode cX9_normalizedCoefficient 41 = .ok (.istore_n 3, 1) := by decide +kernel
theorem dX9_normalizedCoefficient_42 : decode cX9_normalizedCoefficient 42 = .ok (.iload_n 2, 1) := by decide +kernel
theorem dX9_normalizedCoefficient_43 : decode cX9_normalizedCoefficient 43 = .ok (.iconst 1, 1) := by decide +kernel
theorem dX9_normalizedCoefficient_44 : decode cX9_normalizedCoefficient 44 = .ok (.iand, 1) := by decide +kernel
theorem dX9_normalizedCoefficient_45 : decode cX9_normalizedCoefficient 45 = .ok (.ifCond .ne 7, 3) := by decide +kernel
theorem dX9_normalizedCoefficient_48 : decode cX9_normalizedCoefficient 48 = .ok (.iload_n 3, 1) := by decide +kernel
theorem dX9_normalizedCoefficient_49 : decode cX9_normalizedCoefficient 49 = .ok (.goto 5, 3) := by decide +kernel
theorem dX9_normalizedCoefficient_52 : decode cX9_normalizedCoefficient 52 = .ok (.iload_n 3, 1) := by decide +kernel
theorem dX9_normalizedCoefficient_53 : decode cX9_normalizedCoefficient 53 = .ok (.ineg, 1) := by decide +kernel
theorem dX9_normalizedCoefficient_54 : decode cX9_normalizedCoefficient 54 = .ok (.ireturn, 1) := by decide +kernel
set_option maxRecDepth 20000 in
theorem ggX9_lowestExponent_X0_prepare : GoodIn wsX9_lowestExponent wsX0_prepare := goodIn_r _ [7, 8, 9, 10, 11, 12, 6, 13, 14, 15, 16, 17, 18, 19, 20, 21, 22, 23, 24, 25, 26, 27, 28, 29, 30, 31, 32, 33, 34, 35, 36, 37, 38, 39, 40, 41, 42, 43, 44, 45, 46, 47, 48, 49, 50, 51, 52, 53, 54, 55, 56, 57, 58, 59, 60, 61, 62, 63, 64, 65, 66, 67, 68, 69, 70, 71, 72, 73, 74, 75, 76, 77, 92, 93, 94, 95, 96, 97, 98, 99] (by decide +kernel) (by decide +kernel)
set_option maxRecDepth 20000 in
theorem gX9_lowestExponent_X0_prepare : GoodIn wsX9_lowestExponent (wsV RX9 156 RX0 yX0_prepare wsX0_prepare) := goodIn_app (goodIn_of _ (by decide +kernel)) ggX9_lowestExponent_X0_prepare
set_option maxRecDepth 20000 in
theorem ggX9_lowestExponent_X0_lowest : GoodIn wsX9_lowestExponent wsX0_lowest := goodIn_r _ [81, 82, 70, 71, 72, 6, 73, 64, 92, 93, 94, 95, 96] (by decide +kernel) (by decide +kernel)
set_option maxRecDepth 20000 in
theorem gX9_lowestExponent_X0_lowest : GoodIn wsX9_lowestExponent (wsV RX9 162 RX0 yX0_lowest wsX0_lowest) := goodIn_app (goodIn_of _ (by decide +kernel)) ggX9_lowestExponent_X0_lowest
theorem dX9_lowestExponent_0 : decode cX9_lowestExponent 0 = .ok (.aload_n 0, 1) := by decide +kernel
theorem dX9_lowestExponent_1 : decode cX9_lowestExponent 1 = .ok (.getfield 43, 3) := by decide +kernel
theorem dX9_lowestExponent_4 : decode cX9_lowestExponent 4 = .ok (.aload_n 0, 1) := by decide +kernel
theorem dX9_lowestExponent_5 : decode cX9_lowestExponent 5 = .ok (.getfield 26, 3) := by decide +kernel
theorem dX9_lowestExponent_8 : decode cX9_lowestExponent 8 = .ok (.invokevirtual 156, 3) := by decide +kernel
theorem dX9_lowestExponent_11 : decode cX9_lowestExponent 11 = .ok (.aload_n 0, 1) := by decide +kernel
theorem dX9_lowestExponent_12 : decode cX9_lowestExponent 12 = .ok (.getfield 43, 3) := by decide +kernel
theorem dX9_lowestExponent_15 : decode cX9_lowestExponent 15 = .ok (.invokevirtual 162, 3) := by decide +kernel
theorem dX9_lowestExponent_18 : decode cX9_lowestExponent 18 = .ok (.ireturn, 1) := by decide +kernel
set_option maxRecDepth 20000 in
theorem ggX9_highestExponent_X0_prepare : GoodIn wsX9_highestExponent wsX0_prepare := goodIn_r _ [7, 8, 9, 10, 11, 12, 6, 13, 14, 15, 16, 17, 18, 19, 20, 21, 22, 23, 24, 25, 26, 27, 28, 29, 30, 31, 32, 33, 34, 35, 36, 37, 38, 39, 40, 41, 42, 43, 44, 45, 46, 47, 48, 49, 50, 51, 52, 53, 54, 55, 56, 57, 58, 59, 60, 61, 62, 63, 64, 65, 66, 67, 68, 69, 70, 71, 72, 73, 74, 75, 76, 77, 92, 93, 94, 95, 96, 97, 98, 99] (by decide +kernel) (by decide +kernel)
set_option maxRecDepth 20000 in
theorem gX9_highestExponent_X0_prepare : GoodIn wsX9_highestExponent (wsV RX9 156 RX0 yX0_prepare wsX0_prepare) := goodIn_app (goodIn_of _ (by decide +kernel)) ggX9_highestExponent_X0_prepare
set_option maxRecDepth 20000 in
theorem ggX9_highestExponent_X0_highest : GoodIn wsX9_highestExponent wsX0_highest := goodIn_r _ [81, 82, 70, 71, 72, 6, 73, 64, 92, 93, 94, 95, 96] (by decide +kernel) (by decide +kernel)
set_option maxRecDepth 20000 in
theorem gX9_highestExponent_X0_highest : GoodIn wsX9_highestExponent (wsV RX9 165 RX0 yX0_highest wsX0_highest) := goodIn_app (goodIn_of _ (by decide +kernel)) ggX9_highestExponent_X0_highest
theorem dX9_highestExponent_0 : decode cX9_highestExponent 0 = .ok (.aload_n 0, 1) := by decide +kernel
theorem dX9_highestExponent_1 : decode cX9_highestExponent 1 = .ok (.getfield 43, 3) := by decide +kernel
theorem dX9_highestExponent_4 : decode cX9_highestExponent 4 = .ok (.aload_n 0, 1) := by decide +kernel
theorem dX9_highestExponent_5 : decode cX9_highestExponent 5 = .ok (.getfield 26, 3) := by decide +kernel
theorem dX9_highestExponent_8 : decode cX9_highestExponent 8 = .ok (.invokevirtual 156, 3) := by decide +kernel
theorem dX9_highestExponent_11 : decode cX9_highestExponent 11 = .ok (.aload_n 0, 1) := by decide +kernel
theorem dX9_highestExponent_12 : decode cX9_highestExponent 12 = .ok (.getfield 43, 3) := by decide +kernel
theorem dX9_highestExponent_15 : decode cX9_highestExponent 15 = .ok (.invokevirtual 165, 3) := by decide +kernel
theorem dX9_highestExponent_18 : decode cX9_highestExponent 18 = .ok (.ireturn, 1) := by decide +kernel
set_option maxRecDepth 20000 in
theorem ggX9_determinant_X0_prepare : GoodIn wsX9_determinant wsX0_prepare := goodIn_r _ [7, 8, 9, 10, 11, 12, 6, 13, 14, 15, 16, 17, 18, 19, 20, 21, 22, 23, 24, 25, 26, 27, 28, 29, 30, 31, 32, 33, 34, 35, 36, 37, 38, 39, 40, 41, 42, 43, 44, 45, 46, 47, 48, 49, 50, 51, 52, 53, 54, 55, 56, 57, 58, 59, 60, 61, 62, 63, 64, 65, 66, 67, 68, 69, 70, 71, 72, 73, 74, 75, 76, 77, 100, 101, 102, 103, 104, 105, 106, 107] (by decide +kernel) (by decide +kernel)
set_option maxRecDepth 20000 in
theorem gX9_determinant_X0_prepare : GoodIn wsX9_determinant (wsV RX9 156 RX0 yX0_prepare wsX0_prepare) := goodIn_app (goodIn_of _ (by decide +kernel)) ggX9_determinant_X0_prepare
set_option maxRecDepth 20000 in
theorem ggX9_determinant_X0_alternatingSum : GoodIn wsX9_determinant wsX0_alternatingSum := goodIn_r _ [81, 82, 83, 84, 85, 86, 87, 88, 89, 6, 90, 70, 71, 72, 73, 64, 100, 101, 102, 103, 104] (by decide +kernel) (by decide +kernel)
set_option maxRecDepth 20000 in
theorem gX9_determinant_X0_alternatingSum : GoodIn wsX9_determinant (wsV RX9 168 RX0 yX0_alternatingSum wsX0_alternatingSum) := goodIn_app (goodIn_of _ (by decide +kernel)) ggX9_determinant_X0_alternatingSum
theorem dX9_determinant_0 : decode cX9_determinant 0 = .ok (.aload_n 0, 1) := by decide +kernel
theorem dX9_determinant_1 : decode cX9_determinant 1 = .ok (.getfield 43, 3) := by decide +kernel
theorem dX9_determinant_4 : decode cX9_determinant 4 = .ok (.aload_n 0, 1) := by decide +kernel
theorem dX9_determinant_5 : decode cX9_determinant 5 = .ok (.getfield 26, 3) := by decide +kernel
theorem dX9_determinant_8 : decode cX9_determinant 8 = .ok (.invokevirtual 156, 3) := by decide +kernel
theorem dX9_determinant_11 : decode cX9_determinant 11 = .ok (.aload_n 0, 1) := by decide +kernel
theorem dX9_determinant_12 : decode cX9_determinant 12 = .ok (.getfield 43, 3) := by decide +kernel
theorem dX9_determinant_15 : decode cX9_determinant 15 = .ok (.invokevirtual 168, 3) := by decide +kernel
theorem dX9_determinant_18 : decode cX9_determinant 18 = .ok (.ireturn, 1) := by decide +kernel
set_option maxRecDepth 20000 in
theorem ggX9_colouringDimension_X1_dimension : GoodIn wsX9_colouringDimension wsX1_dimension := goodIn_r _ [8, 9, 10, 11, 12, 13, 7, 14, 15, 16, 17, 18, 19, 20, 21, 22, 23, 24, 25, 26, 27, 28, 29, 30, 31, 32, 33, 34, 35, 36, 37, 38, 39, 40, 41, 42, 43, 44, 45, 46, 47, 48, 49, 50, 51, 52, 53, 54, 55, 56, 57, 58, 59, 60, 61, 62, 63, 64, 65, 66, 67, 68, 69, 70, 71, 72, 73, 74, 75, 76, 77, 78, 79, 80, 81, 82, 83, 84, 85, 86, 87, 97, 98, 99, 100, 101] (by decide +kernel) (by decide +kernel)
set_option maxRecDepth 20000 in
theorem gX9_colouringDimension_X1_dimension : GoodIn wsX9_colouringDimension (wsV RX9 171 RX1 yX1_dimension wsX1_dimension) := goodIn_app (goodIn_of _ (by decide +kernel)) ggX9_colouringDimension_X1_dimension
theorem dX9_colouringDimension_0 : decode cX9_colouringDimension 0 = .ok (.iload_n 1, 1) := by decide +kernel
theorem dX9_colouringDimension_1 : decode cX9_colouringDimension 1 = .ok (.iconst 3, 1) := by decide +kernel
theorem dX9_colouringDimension_2 : decode cX9_colouringDimension 2 = .ok (.if_icmp .eq 23, 3) := by decide +kernel
theorem dX9_colouringDimension_5 : decode cX9_colouringDimension 5 = .ok (.iload_n 1, 1) := by decide +kernel
theorem dX9_colouringDimension_6 : decode cX9_colouringDimension 6 = .ok (.iconst 5, 1) := by decide +kernel
theorem dX9_colouringDimension_7 : decode cX9_colouringDimension 7 = .ok (.if_icmp .eq 18, 3) := by decide +kernel
theorem dX9_colouringDimension_10 : decode cX9_colouringDimension 10 = .ok (.iload_n 1, 1) := by decide +kernel
theorem dX9_colouringDimension_11 : decode cX9_colouringDimension 11 = .ok (.bipush 7, 2) := by decide +kernel
theorem dX9_colouringDimension_13 : decode cX9_colouringDimension 13 = .ok (.if_icmp .eq 12, 3) := by decide +kernel
theorem dX9_colouringDimension_16 : decode cX9_colouringDimension 16 = .ok (.iload_n 1, 1) := by decide +kernel
theorem dX9_colouringDimension_17 : decode cX9_colouringDimension 17 = .ok (.bipush 11, 2) := by decide +kernel
theorem dX9_colouringDimension_19 : decode cX9_colouringDimension 19 = .ok (.if_icmp .eq 6, 3) := by decide +kernel
theorem dX9_colouringDimension_22 : decode cX9_colouringDimension 22 = .ok (.ldc 58, 2) := by decide +kernel
theorem dX9_colouringDimension_24 : decode cX9_colouringDimension 24 = .ok (.ireturn, 1) := by decide +kernel
theorem dX9_colouringDimension_25 : decode cX9_colouringDimension 25 = .ok (.aload_n 0, 1) := by decide +kernel
theorem dX9_colouringDimension_26 : decode cX9_colouringDimension 26 = .ok (.getfield 50, 3) := by decide +kernel
theorem dX9_colouringDimension_29 : decode cX9_colouringDimension 29 = .ok (.aload_n 0, 1) := by decide +kernel
theorem dX9_colouringDimension_30 : decode cX9_colouringDimension 30 = .ok (.getfield 26, 3) := by decide +kernel
theorem dX9_colouringDimension_33 : decode cX9_colouringDimension 33 = .ok (.iload_n 1, 1) := by decide +kernel
theorem dX9_colouringDimension_34 : decode cX9_colouringDimension 34 = .ok (.invokevirtual 171, 3) := by decide +kernel
theorem dX9_colouringDimension_37 : decode cX9_colouringDimension 37 = .ok (.ireturn, 1) := by decide +kernel
set_option maxRecDepth 20000 in
theorem ggX9_undo_X6_fetch : GoodIn wsX9_undo wsX6_fetch := goodIn_r _ [11, 12, 13, 14, 15, 16, 17, 10, 18, 19, 20, 21, 22, 23, 24, 25, 41, 42, 43, 44, 45] (by decide +kernel) (by decide +kernel)
set_option maxRecDepth 20000 in
theorem gX9_undo_X6_fetch : GoodIn wsX9_undo (wsV RX9 180 RX6 yX6_fetch wsX6_fetch) := goodIn_app (goodIn_of _ (by decide +kernel)) ggX9_undo_X6_fetch
set_option maxRecDepth 20000 in
theorem ggX9_undo_X0_forget : GoodIn wsX9_undo wsX0_forget := goodIn_r _ [30, 31, 46, 47, 48, 49, 50] (by decide +kernel) (by decide +kernel)
set_option maxRecDepth 20000 in
theorem gX9_undo_X0_forget : GoodIn wsX9_undo (wsV RX9 184 RX0 yX0_forget wsX0_forget) := goodIn_app (goodIn_of _ (by decide +kernel)) ggX9_undo_X0_forget
theorem dX9_undo_0 : decode cX9_undo 0 = .ok (.aload_n 0, 1) := by decide +kernel
theorem dX9_undo_1 : decode cX9_undo 1 = .ok (.getfield 174, 3) := by decide +kernel
theorem dX9_undo_4 : decode cX9_undo 4 = .ok (.ifCond .ne 6, 3) := by decide +kernel
theorem dX9_undo_7 : decode cX9_undo 7 = .ok (.ldc 102, 2) := by decide +kernel
theorem dX9_undo_9 : decode cX9_undo 9 = .ok (.ireturn, 1) := by decide +kernel
theorem dX9_undo_10 : decode cX9_undo 10 = .ok (.aload_n 0, 1) := by decide +kernel
theorem dX9_undo_11 : decode cX9_undo 11 = .ok (.getfield 36, 3) := by decide +kernel
theorem dX9_undo_14 : decode cX9_undo 14 = .ok (.aload_n 0, 1) := by decide +kernel
theorem dX9_undo_15 : decode cX9_undo 15 = .ok (.getfield 177, 3) := by decide +kernel
theorem dX9_undo_18 : decode cX9_undo 18 = .ok (.aload_n 0, 1) := by decide +kernel
theorem dX9_undo_19 : decode cX9_undo 19 = .ok (.getfield 26, 3) := by decide +kernel
theorem dX9_undo_22 : decode cX9_undo 22 = .ok (.invokevirtual 180, 3) := by decide +kernel
theorem dX9_undo_25 : decode cX9_undo 25 = .ok (.aload_n 0, 1) := by decide +kernel
theorem dX9_undo_26 : decode cX9_undo 26 = .ok (.getfield 43, 3) := by decide +kernel
theorem dX9_undo_29 : decode cX9_undo 29 = .ok (.invokevirtual 184, 3) := by decide +kernel
theorem dX9_undo_32 : decode cX9_undo 32 = .ok (.aload_n 0, 1) := by decide +kernel
theorem dX9_undo_33 : decode cX9_undo 33 = .ok (.aload_n 0, 1) := by decide +kernel
theorem dX9_undo_34 : decode cX9_undo 34 = .ok (.getfield 177, 3) := by decide +kernel
theorem dX9_undo_37 : decode cX9_undo 37 = .ok (.bipush 8, 2) := by decide +kernel
theorem dX9_undo_39 : decode cX9_undo 39 = .ok (.iadd, 1) := by decide +kernel
theorem dX9_undo_40 : decode cX9_undo 40 = .ok (.iconst 1, 1) := by decide +kernel
theorem dX9_undo_41 : decode cX9_undo 41 = .ok (.isub, 1) := by decide +kernel
theorem dX9_undo_42 : decode cX9_undo 42 = .ok (.bipush 8, 2) := by decide +kernel
theorem dX9_undo_44 : decode cX9_undo 44 = .ok (.irem, 1) := by decide +kernel
theorem dX9_undo_45 : decode cX9_undo 45 = .ok (.putfield 177, 3) := by decide +kernel
theorem dX9_undo_48 : decode cX9_undo 48 = .ok (.aload_n 0, 1) := by decide +kernel
theorem dX9_undo_49 : decode cX9_undo 49 = .ok (.dup, 1) := by decide +kernel
theorem dX9_undo_50 : decode cX9_undo 50 = .ok (.getfield 174, 3) := by decide +kernel
theorem dX9_undo_53 : decode cX9_undo 53 = .ok (.iconst 1, 1) := by decide +kernel
theorem dX9_undo_54 : decode cX9_undo 54 = .ok (.isub, 1) := by decide +kernel
theorem dX9_undo_55 : decode cX9_undo 55 = .ok (.putfield 174, 3) := by decide +kernel
theorem dX9_undo_58 : decode cX9_undo 58 = .ok (.aload_n 0, 1) := by decide +kernel
theorem dX9_undo_59 : decode cX9_undo 59 = .ok (.getfield 174, 3) := by decide +kernel
theorem dX9_undo_62 : decode cX9_undo 62 = .ok (.ireturn, 1) := by decide +kernel
theorem dX9_undoDepth_0 : decode cX9_undoDepth 0 = .ok (.aload_n 0, 1) := by decide +kernel
theorem dX9_undoDepth_1 : decode cX9_undoDepth 1 = .ok (.getfield 174, 3) := by decide +kernel
theorem dX9_undoDepth_4 : decode cX9_undoDepth 4 = .ok (.ireturn, 1) := by decide +kernel
set_option maxRecDepth 20000 in
theorem ggX9_save_X9_isSlot : GoodIn wsX9_save wsX9_isSlot := goodIn_r _ [8] (by decide +kernel) (by decide +kernel)
set_option maxRecDepth 20000 in
theorem gX9_save_X9_isSlot : GoodIn wsX9_save (va_wsS RX9 187 yX9_isSlot wsX9_isSlot) := goodIn_app (goodIn_of _ (by decide +kernel)) ggX9_save_X9_isSlot
set_option maxRecDepth 20000 in
theorem ggX9_save_X6_keep : GoodIn wsX9_save wsX6_keep := goodIn_r _ [13, 14, 15, 16, 17, 18, 19, 20, 21, 22, 23, 36, 37, 33, 34, 35] (by decide +kernel) (by decide +kernel)
set_option maxRecDepth 20000 in
theorem gX9_save_X6_keep : GoodIn wsX9_save (wsV RX9 190 RX6 yX6_keep wsX6_keep) := goodIn_app (goodIn_of _ (by decide +kernel)) ggX9_save_X6_keep
theorem dX9_save_0 : decode cX9_save 0 = .ok (.iload_n 1, 1) := by decide +kernel
theorem dX9_save_1 : decode cX9_save 1 = .ok (.invokestatic 187, 3) := by decide +kernel
theorem dX9_save_4 : decode cX9_save 4 = .ok (.ifCond .ne 6, 3) := by decide +kernel
theorem dX9_save_7 : decode cX9_save 7 = .ok (.ldc 58, 2) := by decide +kernel
theorem dX9_save_9 : decode cX9_save 9 = .ok (.ireturn, 1) := by decide +kernel
theorem dX9_save_10 : decode cX9_save 10 = .ok (.aload_n 0, 1) := by decide +kernel
theorem dX9_save_11 : decode cX9_save 11 = .ok (.getfield 36, 3) := by decide +kernel
theorem dX9_save_14 : decode cX9_save 14 = .ok (.bipush 8, 2) := by decide +kernel
theorem dX9_save_16 : decode cX9_save 16 = .ok (.iload_n 1, 1) := by decide +kernel
theorem dX9_save_17 : decode cX9_save 17 = .ok (.iadd, 1) := by decide +kernel
theorem dX9_save_18 : decode cX9_save 18 = .ok (.aload_n 0, 1) := by decide +kernel
theorem dX9_save_19 : decode cX9_save 19 = .ok (.getfield 26, 3) := by decide +kernel
theorem dX9_save_22 : decode cX9_save 22 = .ok (.invokevirtual 190, 3) := by decide +kernel
theorem dX9_save_25 : decode cX9_save 25 = .ok (.aload_n 0, 1) := by decide +kernel
theorem dX9_save_26 : decode cX9_save 26 = .ok (.getfield 26, 3) := by decide +kernel
theorem dX9_save_29 : decode cX9_save 29 = .ok (.getfield 74, 3) := by decide +kernel
theorem dX9_save_32 : decode cX9_save 32 = .ok (.ireturn, 1) := by decide +kernel
set_option maxRecDepth 20000 in
theorem ggX9_restore_X9_isSlot : GoodIn wsX9_restore wsX9_isSlot := goodIn_r _ [11] (by decide +kernel) (by decide +kernel)
set_option maxRecDepth 20000 in
theorem gX9_restore_X9_isSlot : GoodIn wsX9_restore (va_wsS RX9 187 yX9_isSlot wsX9_isSlot) := goodIn_app (goodIn_of _ (by decide +kernel)) ggX9_restore_X9_isSlot
set_option maxRecDepth 20000 in
theorem ggX9_restore_X6_holds : GoodIn wsX9_restore wsX6_holds := goodIn_r _ [16, 17, 50, 51] (by decide +kernel) (by decide +kernel)
set_option maxRecDepth 20000 in
theorem gX9_restore_X6_holds : GoodIn wsX9_restore (wsV RX9 193 RX6 yX6_holds wsX6_holds) := goodIn_app (goodIn_of _ (by decide +kernel)) ggX9_restore_X6_holds
set_option maxRecDepth 20000 in
theorem ggX9_restore_X6_fetch : GoodIn wsX9_restore wsX6_fetch := goodIn_r _ [21, 22, 23, 24, 25, 13, 14, 15, 16, 17, 26, 27, 28, 29, 30, 31, 50, 51, 47, 48, 49] (by decide +kernel) (by decide +kernel)
set_option maxRecDepth 20000 in
theorem gX9_restore_X6_fetch : GoodIn wsX9_restore (wsV RX9 180 RX6 yX6_fetch wsX6_fetch) := goodIn_app (goodIn_of _ (by decide +kernel)) ggX9_restore_X6_fetch
set_option maxRecDepth 20000 in
theorem ggX9_restore_X0_forget : GoodIn wsX9_restore wsX0_forget := goodIn_r _ [36, 37, 52, 53, 54, 55, 56] (by decide +kernel) (by decide +kernel)
set_option maxRecDepth 20000 in
theorem gX9_restore_X0_forget : GoodIn wsX9_restore (wsV RX9 184 RX0 yX0_forget wsX0_forget) := goodIn_app (goodIn_of _ (by decide +kernel)) ggX9_restore_X0_forget
theorem dX9_restore_0 : decode cX9_restore 0 = .ok (.iload_n 1, 1) := by decide +kernel
theorem dX9_restore_1 : decode cX9_restore 1 = .ok (.invokestatic 187, 3) := by decide +kernel
theorem dX9_restore_4 : decode cX9_restore 4 = .ok (.ifCond .ne 6, 3) := by decide +kernel
theorem dX9_restore_7 : decode cX9_restore 7 = .ok (.ldc 58, 2) := by decide +kernel
theorem dX9_restore_9 : decode cX9_restore 9 = .ok (.ireturn, 1) := by decide +kernel
theorem dX9_restore_10 : decode cX9_restore 10 = .ok (.aload_n 0, 1) := by decide +kernel
theorem dX9_restore_11 : decode cX9_restore 11 = .ok (.getfield 36, 3) := by decide +kernel
theorem dX9_restore_14 : decode cX9_restore 14 = .ok (.bipush 8, 2) := by decide +kernel
theorem dX9_restore_16 : decode cX9_restore 16 = .ok (.iload_n 1, 1) := by decide +kernel
theorem dX9_restore_17 : decode cX9_restore 17 = .ok (.iadd, 1) := by decide +kernel
theorem dX9_restore_18 : decode cX9_restore 18 = .ok (.invokevirtual 193, 3) := by decide +kernel
theorem dX9_restore_21 : decode cX9_restore 21 = .ok (.ifCond .ne 6, 3) := by decide +kernel
theorem dX9_restore_24 : decode cX9_restore 24 = .ok (.ldc 102, 2) := by decide +kernel
theorem dX9_restore_26 : decode cX9_restore 26 = .ok (.ireturn, 1) := by decide +kernel
theorem dX9_restore_27 : decode cX9_restore 27 = .ok (.aload_n 0, 1) := by decide +kernel
theorem dX9_restore_28 : decode cX9_restore 28 = .ok (.getfield 36, 3) := by decide +kernel
theorem dX9_restore_31 : decode cX9_restore 31 = .ok (.bipush 8, 2) := by decide +kernel
theorem dX9_restore_33 : decode cX9_restore 33 = .ok (.iload_n 1, 1) := by decide +kernel
theorem dX9_restore_34 : decode cX9_restore 34 = .ok (.iadd, 1) := by decide +kernel
theorem dX9_restore_35 : decode cX9_restore 35 = .ok (.aload_n 0, 1) := by decide +kernel
theorem dX9_restore_36 : decode cX9_restore 36 = .ok (.getfield 26, 3) := by decide +kernel
theorem dX9_restore_39 : decode cX9_restore 39 = .ok (.invokevirtual 180, 3) := by decide +kernel
theorem dX9_restore_42 : decode cX9_restore 42 = .ok (.aload_n 0, 1) := by decide +kernel
theorem dX9_restore_43 : decode cX9_restore 43 = .ok (.getfield 43, 3) := by decide +kernel
theorem dX9_restore_46 : decode cX9_restore 46 = .ok (.invokevirtual 184, 3) := by decide +kernel
theorem dX9_restore_49 : decode cX9_restore 49 = .ok (.aload_n 0, 1) := by decide +kernel
theorem dX9_restore_50 : decode cX9_restore 50 = .ok (.iconst 0, 1) := by decide +kernel
theorem dX9_restore_51 : decode cX9_restore 51 = .ok (.putfield 174, 3) := by decide +kernel
theorem dX9_restore_54 : decode cX9_restore 54 = .ok (.aload_n 0, 1) := by decide +kernel
theorem dX9_restore_55 : decode cX9_restore 55 = .ok (.getfield 26, 3) := by decide +kernel
theorem dX9_restore_58 : decode cX9_restore 58 = .ok (.getfield 74, 3) := by decide +kernel
theorem dX9_restore_61 : decode cX9_restore 61 = .ok (.ireturn, 1) := by decide +kernel
theorem dX9_isExponent_0 : decode cX9_isExponent 0 = .ok (.iload_n 0, 1) := by decide +kernel
theorem dX9_isExponent_1 : decode cX9_isExponent 1 = .ok (.bipush (-60), 2) := by decide +kernel
theorem dX9_isExponent_3 : decode cX9_isExponent 3 = .ok (.if_icmp .lt 13, 3) := by decide +kernel
theorem dX9_isExponent_6 : decode cX9_isExponent 6 = .ok (.iload_n 0, 1) := by decide +kernel
theorem dX9_isExponent_7 : decode cX9_isExponent 7 = .ok (.bipush 60, 2) := by decide +kernel
theorem dX9_isExponent_9 : decode cX9_isExponent 9 = .ok (.if_icmp .gt 7, 3) := by decide +kernel
theorem dX9_isExponent_12 : decode cX9_isExponent 12 = .ok (.iconst 1, 1) := by decide +kernel
theorem dX9_isExponent_13 : decode cX9_isExponent 13 = .ok (.goto 4, 3) := by decide +kernel
theorem dX9_isExponent_16 : decode cX9_isExponent 16 = .ok (.iconst 0, 1) := by decide +kernel
theorem dX9_isExponent_17 : decode cX9_isExponent 17 = .ok (.ireturn, 1) := by decide +kernel
theorem dX9_isSlot_0 : decode cX9_isSlot 0 = .ok (.iload_n 0, 1) := by decide +kernel
theorem dX9_isSlot_1 : decode cX9_isSlot 1 = .ok (.ifCond .lt 12, 3) := by decide +kernel
theorem dX9_isSlot_4 : decode cX9_isSlot 4 = .ok (.iload_n 0, 1) := by decide +kernel
theorem dX9_isSlot_5 : decode cX9_isSlot 5 = .ok (.iconst 2, 1) := by decide +kernel
theorem dX9_isSlot_6 : decode cX9_isSlot 6 = .ok (.if_icmp .ge 7, 3) := by decide +kernel
theorem dX9_isSlot_9 : decode cX9_isSlot 9 = .ok (.iconst 1, 1) := by decide +kernel
theorem dX9_isSlot_10 : decode cX9_isSlot 10 = .ok (.goto 4, 3) := by decide +kernel
theorem dX9_isSlot_13 : decode cX9_isSlot 13 = .ok (.iconst 0, 1) := by decide +kernel
theorem dX9_isSlot_14 : decode cX9_isSlot 14 = .ok (.ireturn, 1) := by decide +kernel
set_option maxRecDepth 20000 in
theorem ggX9_finishRemoval_X9_becomeDraft : GoodIn wsX9_finishRemoval wsX9_becomeDraft := goodIn_r _ [10, 11, 12, 4, 13, 14, 15, 16, 17, 1, 18, 19, 20, 21, 22, 23, 24, 25, 26, 27, 28, 29, 30, 31, 32, 33, 34, 35, 36, 37, 38, 39, 40, 41, 42, 43, 44, 45, 46, 47, 48, 49, 50, 51, 52, 53, 54, 58, 59, 55, 56, 57, 60, 61, 62, 63, 64] (by decide +kernel) (by decide +kernel)
set_option maxRecDepth 20000 in
theorem gX9_finishRemoval_X9_becomeDraft : GoodIn wsX9_finishRemoval (wsV RX9 71 RX9 yX9_becomeDraft wsX9_becomeDraft) := goodIn_app (goodIn_of _ (by decide +kernel)) ggX9_finishRemoval_X9_becomeDraft
theorem dX9_finishRemoval_0 : decode cX9_finishRemoval 0 = .ok (.aload_n 0, 1) := by decide +kernel
theorem dX9_finishRemoval_1 : decode cX9_finishRemoval 1 = .ok (.getfield 30, 3) := by decide +kernel
theorem dX9_finishRemoval_4 : decode cX9_finishRemoval 4 = .ok (.getfield 54, 3) := by decide +kernel
theorem dX9_finishRemoval_7 : decode cX9_finishRemoval 7 = .ok (.iconst 4, 1) := by decide +kernel
theorem dX9_finishRemoval_8 : decode cX9_finishRemoval 8 = .ok (.if_icmp .le 6, 3) := by decide +kernel
theorem dX9_finishRemoval_11 : decode cX9_finishRemoval 11 = .ok (.ldc 62, 2) := by decide +kernel
theorem dX9_finishRemoval_13 : decode cX9_finishRemoval 13 = .ok (.ireturn, 1) := by decide +kernel
theorem dX9_finishRemoval_14 : decode cX9_finishRemoval 14 = .ok (.aload_n 0, 1) := by decide +kernel
theorem dX9_finishRemoval_15 : decode cX9_finishRemoval 15 = .ok (.invokevirtual 71, 3) := by decide +kernel
theorem dX9_finishRemoval_18 : decode cX9_finishRemoval 18 = .ok (.aload_n 0, 1) := by decide +kernel
theorem dX9_finishRemoval_19 : decode cX9_finishRemoval 19 = .ok (.getfield 26, 3) := by decide +kernel
theorem dX9_finishRemoval_22 : decode cX9_finishRemoval 22 = .ok (.getfield 74, 3) := by decide +kernel
theorem dX9_finishRemoval_25 : decode cX9_finishRemoval 25 = .ok (.ireturn, 1) := by decide +kernel
set_option maxRecDepth 20000 in
theorem ggX9_becomeDraft_X6_keep : GoodIn wsX9_becomeDraft wsX6_keep := goodIn_r _ [15, 16, 17, 18, 19, 20, 21, 22, 23, 24, 25, 47, 48, 49, 50, 51] (by decide +kernel) (by decide +kernel)
set_option maxRecDepth 20000 in
theorem gX9_becomeDraft_X6_keep : GoodIn wsX9_becomeDraft (wsV RX9 190 RX6 yX6_keep wsX6_keep) := goodIn_app (goodIn_of _ (by decide +kernel)) ggX9_becomeDraft_X6_keep
set_option maxRecDepth 20000 in
theorem ggX9_becomeDraft_X2_copyFrom : GoodIn wsX9_becomeDraft wsX2_copyFrom := goodIn_r _ [29, 30, 31, 25, 49, 50, 51] (by decide +kernel) (by decide +kernel)
set_option maxRecDepth 20000 in
theorem gX9_becomeDraft_X2_copyFrom : GoodIn wsX9_becomeDraft (wsV RX9 85 RX2 yX2_copyFrom wsX2_copyFrom) := goodIn_app (goodIn_of _ (by decide +kernel)) ggX9_becomeDraft_X2_copyFrom
set_option maxRecDepth 20000 in
theorem ggX9_becomeDraft_X0_forget : GoodIn wsX9_becomeDraft wsX0_forget := goodIn_r _ [36, 37, 52, 53, 54, 55, 56] (by decide +kernel) (by decide +kernel)
set_option maxRecDepth 20000 in
theorem gX9_becomeDraft_X0_forget : GoodIn wsX9_becomeDraft (wsV RX9 184 RX0 yX0_forget wsX0_forget) := goodIn_app (goodIn_of _ (by decide +kernel)) ggX9_becomeDraft_X0_forget
theorem dX9_becomeDraft_0 : decode cX9_becomeDraft 0 = .ok (.aload_n 0, 1) := by decide +kernel
theorem dX9_becomeDraft_1 : decode cX9_becomeDraft 1 = .ok (.aload_n 0, 1) := by decide +kernel
theorem dX9_becomeDraft_2 : decode cX9_becomeDraft 2 = .ok (.getfield 177, 3) := by decide +kernel
theorem dX9_becomeDraft_5 : decode cX9_becomeDraft 5 = .ok (.iconst 1, 1) := by decide +kernel
theorem dX9_becomeDraft_6 : decode cX9_becomeDraft 6 = .ok (.iadd, 1) := by decide +kernel
theorem dX9_becomeDraft_7 : decode cX9_becomeDraft 7 = .ok (.bipush 8, 2) := by decide +kernel
theorem dX9_becomeDraft_9 : decode cX9_becomeDraft 9 = .ok (.irem, 1) := by decide +kernel
theorem dX9_becomeDraft_10 : decode cX9_becomeDraft 10 = .ok (.putfield 177, 3) := by decide +kernel
theorem dX9_becomeDraft_13 : decode cX9_becomeDraft 13 = .ok (.aload_n 0, 1) := by decide +kernel
theorem dX9_becomeDraft_14 : decode cX9_becomeDraft 14 = .ok (.getfield 36, 3) := by decide +kernel
theorem dX9_becomeDraft_17 : decode cX9_becomeDraft 17 = .ok (.aload_n 0, 1) := by decide +kernel
theorem dX9_becomeDraft_18 : decode cX9_becomeDraft 18 = .ok (.getfield 177, 3) := by decide +kernel
theorem dX9_becomeDraft_21 : decode cX9_becomeDraft 21 = .ok (.aload_n 0, 1) := by decide +kernel
theorem dX9_becomeDraft_22 : decode cX9_becomeDraft 22 = .ok (.getfield 26, 3) := by decide +kernel
theorem dX9_becomeDraft_25 : decode cX9_becomeDraft 25 = .ok (.invokevirtual 190, 3) := by decide +kernel
theorem dX9_becomeDraft_28 : decode cX9_becomeDraft 28 = .ok (.aload_n 0, 1) := by decide +kernel
theorem dX9_becomeDraft_29 : decode cX9_becomeDraft 29 = .ok (.aload_n 0, 1) := by decide +kernel
theorem dX9_becomeDraft_30 : decode cX9_becomeDraft 30 = .ok (.getfield 174, 3) := by decide +kernel
theorem dX9_becomeDraft_33 : decode cX9_becomeDraft 33 = .ok (.iconst 1, 1) := by decide +kernel
theorem dX9_becomeDraft_34 : decode cX9_becomeDraft 34 = .ok (.iadd, 1) := by decide +kernel
theorem dX9_becomeDraft_35 : decode cX9_becomeDraft 35 = .ok (.bipush 8, 2) := by decide +kernel
theorem dX9_becomeDraft_37 : decode cX9_becomeDraft 37 = .ok (.invokestatic 196, 3) := by decide +kernel
theorem dX9_becomeDraft_40 : decode cX9_becomeDraft 40 = .ok (.putfield 174, 3) := by decide +kernel
theorem dX9_becomeDraft_43 : decode cX9_becomeDraft 43 = .ok (.aload_n 0, 1) := by decide +kernel
theorem dX9_becomeDraft_44 : decode cX9_becomeDraft 44 = .ok (.getfield 26, 3) := by decide +kernel
theorem dX9_becomeDraft_47 : decode cX9_becomeDraft 47 = .ok (.aload_n 0, 1) := by decide +kernel
theorem dX9_becomeDraft_48 : decode cX9_becomeDraft 48 = .ok (.getfield 30, 3) := by decide +kernel
theorem dX9_becomeDraft_51 : decode cX9_becomeDraft 51 = .ok (.invokevirtual 85, 3) := by decide +kernel
theorem dX9_becomeDraft_54 : decode cX9_becomeDraft 54 = .ok (.aload_n 0, 1) := by decide +kernel
theorem dX9_becomeDraft_55 : decode cX9_becomeDraft 55 = .ok (.getfield 43, 3) := by decide +kernel
theorem dX9_becomeDraft_58 : decode cX9_becomeDraft 58 = .ok (.invokevirtual 184, 3) := by decide +kernel
theorem dX9_becomeDraft_61 : decode cX9_becomeDraft 61 = .ok (.return_, 1) := by decide +kernel
theorem dX9_bit_0 : decode cX9_bit 0 = .ok (.iconst 1, 1) := by decide +kernel
theorem dX9_bit_1 : decode cX9_bit 1 = .ok (.iload_n 0, 1) := by decide +kernel
theorem dX9_bit_2 : decode cX9_bit 2 = .ok (.ishl, 1) := by decide +kernel
theorem dX9_bit_3 : decode cX9_bit 3 = .ok (.ireturn, 1) := by decide +kernel
theorem dX9_contains_0 : decode cX9_contains 0 = .ok (.iload_n 0, 1) := by decide +kernel
theorem dX9_contains_1 : decode cX9_contains 1 = .ok (.iload_n 1, 1) := by decide +kernel
theorem dX9_contains_2 : decode cX9_contains 2 = .ok (.iushr, 1) := by decide +kernel
theorem dX9_contains_3 : decode cX9_contains 3 = .ok (.iconst 1, 1) := by decide +kernel
theorem dX9_contains_4 : decode cX9_contains 4 = .ok (.iand, 1) := by decide +kernel
theorem dX9_contains_5 : decode cX9_contains 5 = .ok (.ifCond .eq 7, 3) := by decide +kernel
theorem dX9_contains_8 : decode cX9_contains 8 = .ok (.iconst 1, 1) := by decide +kernel
theorem dX9_contains_9 : decode cX9_contains 9 = .ok (.goto 4, 3) := by decide +kernel
theorem dX9_contains_12 : decode cX9_contains 12 = .ok (.iconst 0, 1) := by decide +kernel
theorem dX9_contains_13 : decode cX9_contains 13 = .ok (.ireturn, 1) := by decide +kernel
theorem dX10_init_0 : decode cX10_init 0 = .ok (.aload_n 0, 1) := by decide +kernel
theorem dX10_init_1 : decode cX10_init 1 = .ok (.invokespecial 1, 3) := by decide +kernel
theorem dX10_init_4 : decode cX10_init 4 = .ok (.aload_n 0, 1) := by decide +kernel
theorem dX10_init_5 : decode cX10_init 5 = .ok (.bipush 34, 2) := by decide +kernel
theorem dX10_init_7 : decode cX10_init 7 = .ok (.newarray .int, 2) := by decide +kernel
theorem dX10_init_9 : decode cX10_init 9 = .ok (.putfield 7, 3) := by decide +kernel
theorem dX10_init_12 : decode cX10_init 12 = .ok (.aload_n 0, 1) := by decide +kernel
theorem dX10_init_13 : decode cX10_init 13 = .ok (.sipush 272, 3) := by decide +kernel
theorem dX10_init_16 : decode cX10_init 16 = .ok (.newarray .int, 2) := by decide +kernel
theorem dX10_init_18 : decode cX10_init 18 = .ok (.putfield 13, 3) := by decide +kernel
theorem dX10_init_21 : decode cX10_init 21 = .ok (.aload_n 0, 1) := by decide +kernel
theorem dX10_init_22 : decode cX10_init 22 = .ok (.bipush 68, 2) := by decide +kernel
theorem dX10_init_24 : decode cX10_init 24 = .ok (.newarray .int, 2) := by decide +kernel
theorem dX10_init_26 : decode cX10_init 26 = .ok (.putfield 16, 3) := by decide +kernel
theorem dX10_init_29 : decode cX10_init 29 = .ok (.aload_n 0, 1) := by decide +kernel
theorem dX10_init_30 : decode cX10_init 30 = .ok (.iconst 2, 1) := by decide +kernel
theorem dX10_init_31 : decode cX10_init 31 = .ok (.newarray .boolean, 2) := by decide +kernel
theorem dX10_init_33 : decode cX10_init 33 = .ok (.putfield 19, 3) := by decide +kernel
theorem dX10_init_36 : decode cX10_init 36 = .ok (.aload_n 0, 1) := by decide +kernel
theorem dX10_init_37 : decode cX10_init 37 = .ok (.sipush 160, 3) := by decide +kernel
theorem dX10_init_40 : decode cX10_init 40 = .ok (.newarray .int, 2) := by decide +kernel
theorem dX10_init_42 : decode cX10_init 42 = .ok (.putfield 23, 3) := by decide +kernel
theorem dX10_init_45 : decode cX10_init 45 = .ok (.aload_n 0, 1) := by decide +kernel
theorem dX10_init_46 : decode cX10_init 46 = .ok (.bipush 34, 2) := by decide +kernel
theorem dX10_init_48 : decode cX10_init 48 = .ok (.newarray .int, 2) := by decide +kernel
theorem dX10_init_50 : decode cX10_init 50 = .ok (.putfield 26, 3) := by decide +kernel
theorem dX10_init_53 : decode cX10_init 53 = .ok (.aload_n 0, 1) := by decide +kernel
theorem dX10_init_54 : decode cX10_init 54 = .ok (.bipush 17, 2) := by decide +kernel
theorem dX10_init_56 : decode cX10_init 56 = .ok (.newarray .int, 2) := by decide +kernel
theorem dX10_init_58 : decode cX10_init 58 = .ok (.putfield 29, 3) := by decide +kernel
theorem dX10_init_61 : decode cX10_init 61 = .ok (.aload_n 0, 1) := by decide +kernel
theorem dX10_init_62 : decode cX10_init 62 = .ok (.bipush 16, 2) := by decide +kernel
theorem dX10_init_64 : decode cX10_init 64 = .ok (.newarray .int, 2) := by decide +kernel
theorem dX10_init_66 : decode cX10_init 66 = .ok (.putfield 32, 3) := by decide +kernel
theorem dX10_init_69 : decode cX10_init 69 = .ok (.aload_n 0, 1) := by decide +kernel
theorem dX10_init_70 : decode cX10_init 70 = .ok (.bipush 17, 2) := by decide +kernel
theorem dX10_init_72 : decode cX10_init 72 = .ok (.newarray .boolean, 2) := by decide +kernel
theorem dX10_init_74 : decode cX10_init 74 = .ok (.putfield 35, 3) := by decide +kernel
theorem dX10_init_77 : decode cX10_init 77 = .ok (.aload_n 0, 1) := by decide +kernel
theorem dX10_init_78 : decode cX10_init 78 = .ok (.bipush 34, 2) := by decide +kernel
theorem dX10_init_80 : decode cX10_init 80 = .ok (.newarray .int, 2) := by decide +kernel
theorem dX10_init_82 : decode cX10_init 82 = .ok (.putfield 38, 3) := by decide +kernel
theorem dX10_init_85 : decode cX10_init 85 = .ok (.aload_n 0, 1) := by decide +kernel
theorem dX10_init_86 : decode cX10_init 86 = .ok (.bipush 17, 2) := by decide +kernel
theorem dX10_init_88 : decode cX10_init 88 = .ok (.newarray .int, 2) := by decide +kernel
theorem dX10_init_90 : decode cX10_init 90 = .ok (.putfield 41, 3) := by decide +kernel
theorem dX10_init_93 : decode cX10_init 93 = .ok (.aload_n 0, 1) := by decide +kernel
theorem dX10_init_94 : decode cX10_init 94 = .ok (.bipush 32, 2) := by decide +kernel
theorem dX10_init_96 : decode cX10_init 96 = .ok (.newarray .boolean, 2) := by decide +kernel
theorem dX10_init_98 : decode cX10_init 98 = .ok (.putfield 44, 3) := by decide +kernel
theorem dX10_init_101 : decode cX10_init 101 = .ok (.aload_n 0, 1) := by decide +kernel
theorem dX10_init_102 : decode cX10_init 102 = .ok (.bipush 121, 2) := by decide +kernel
theorem dX10_init_104 : decode cX10_init 104 = .ok (.newarray .int, 2) := by decide +kernel
theorem dX10_init_106 : decode cX10_init 106 = .ok (.putfield 47, 3) := by decide +kernel
theorem dX10_init_109 : decode cX10_init 109 = .ok (.aload_n 0, 1) := by decide +kernel
theorem dX10_init_110 : decode cX10_init 110 = .ok (.sipush 136, 3) := by decide +kernel
theorem dX10_init_113 : decode cX10_init 113 = .ok (.newarray .int, 2) := by decide +kernel
theorem dX10_init_115 : decode cX10_init 115 = .ok (.putfield 50, 3) := by decide +kernel
theorem dX10_init_118 : decode cX10_init 118 = .ok (.aload_n 0, 1) := by decide +kernel
theorem dX10_init_119 : decode cX10_init 119 = .ok (.getfield 7, 3) := by decide +kernel
theorem dX10_init_122 : decode cX10_init 122 = .ok (.iconst 1, 1) := by decide +kernel
theorem dX10_init_123 : decode cX10_init 123 = .ok (.iconst 1, 1) := by decide +kernel
theorem dX10_init_124 : decode cX10_init 124 = .ok (.iastore, 1) := by decide +kernel
theorem dX10_init_125 : decode cX10_init 125 = .ok (.return_, 1) := by decide +kernel
theorem dX10_in_0 : decode cX10_in 0 = .ok (.iload_n 0, 1) := by decide +kernel
theorem dX10_in_1 : decode cX10_in 1 = .ok (.iload_n 1, 1) := by decide +kernel
theorem dX10_in_2 : decode cX10_in 2 = .ok (.if_icmp .lt 12, 3) := by decide +kernel
theorem dX10_in_5 : decode cX10_in 5 = .ok (.iload_n 0, 1) := by decide +kernel
theorem dX10_in_6 : decode cX10_in 6 = .ok (.iload_n 2, 1) := by decide +kernel
theorem dX10_in_7 : decode cX10_in 7 = .ok (.if_icmp .gt 7, 3) := by decide +kernel
theorem dX10_in_10 : decode cX10_in 10 = .ok (.iconst 1, 1) := by decide +kernel
theorem dX10_in_11 : decode cX10_in 11 = .ok (.goto 4, 3) := by decide +kernel
theorem dX10_in_14 : decode cX10_in 14 = .ok (.iconst 0, 1) := by decide +kernel
theorem dX10_in_15 : decode cX10_in 15 = .ok (.ireturn, 1) := by decide +kernel
theorem dX10_crossings_0 : decode cX10_crossings 0 = .ok (.aload_n 0, 1) := by decide +kernel
theorem dX10_crossings_1 : decode cX10_crossings 1 = .ok (.getfield 7, 3) := by decide +kernel
theorem dX10_crossings_4 : decode cX10_crossings 4 = .ok (.iconst 0, 1) := by decide +kernel
theorem dX10_crossings_5 : decode cX10_crossings 5 = .ok (.iaload, 1) := by decide +kernel
theorem dX10_crossings_6 : decode cX10_crossings 6 = .ok (.ireturn, 1) := by decide +kernel
theorem dX10_ends_0 : decode cX10_ends 0 = .ok (.iconst 4, 1) := by decide +kernel
theorem dX10_ends_1 : decode cX10_ends 1 = .ok (.aload_n 0, 1) := by decide +kernel
theorem dX10_ends_2 : decode cX10_ends 2 = .ok (.getfield 7, 3) := by decide +kernel
theorem dX10_ends_5 : decode cX10_ends 5 = .ok (.iconst 0, 1) := by decide +kernel
theorem dX10_ends_6 : decode cX10_ends 6 = .ok (.iaload, 1) := by decide +kernel
theorem dX10_ends_7 : decode cX10_ends 7 = .ok (.imul, 1) := by decide +kernel
theorem dX10_ends_8 : decode cX10_ends 8 = .ok (.ireturn, 1) := by decide +kernel
theorem dX10_arc_0 : decode cX10_arc 0 = .ok (.aload_n 0, 1) := by decide +kernel
theorem dX10_arc_1 : decode cX10_arc 1 = .ok (.getfield 7, 3) := by decide +kernel
theorem dX10_arc_4 : decode cX10_arc 4 = .ok (.iconst 2, 1) := by decide +kernel
theorem dX10_arc_5 : decode cX10_arc 5 = .ok (.iload_n 1, 1) := by decide +kernel
theorem dX10_arc_6 : decode cX10_arc 6 = .ok (.iadd, 1) := by decide +kernel
theorem dX10_arc_7 : decode cX10_arc 7 = .ok (.iaload, 1) := by decide +kernel
theorem dX10_arc_8 : decode cX10_arc 8 = .ok (.ireturn, 1) := by decide +kernel
theorem dX10_turn_0 : decode cX10_turn 0 = .ok (.iload_n 0, 1) := by decide +kernel
theorem dX10_turn_1 : decode cX10_turn 1 = .ok (.iconst 4, 1) := by decide +kernel
theorem dX10_turn_2 : decode cX10_turn 2 = .ok (.idiv, 1) := by decide +kernel
theorem dX10_turn_3 : decode cX10_turn 3 = .ok (.iconst 4, 1) := by decide +kernel
theorem dX10_turn_4 : decode cX10_turn 4 = .ok (.imul, 1) := by decide +kernel
theorem dX10_turn_5 : decode cX10_turn 5 = .ok (.iload_n 0, 1) := by decide +kernel
theorem dX10_turn_6 : decode cX10_turn 6 = .ok (.iload_n 1, 1) := by decide +kernel
theorem dX10_turn_7 : decode cX10_turn 7 = .ok (.iadd, 1) := by decide +kernel
theorem dX10_turn_8 : decode cX10_turn 8 = .ok (.iconst 4, 1) := by decide +kernel
theorem dX10_turn_9 : decode cX10_turn 9 = .ok (.irem, 1) := by decide +kernel
theorem dX10_turn_10 : decode cX10_turn 10 = .ok (.iadd, 1) := by decide +kernel
theorem dX10_turn_11 : decode cX10_turn 11 = .ok (.ireturn, 1) := by decide +kernel
set_option maxRecDepth 20000 in
theorem ggX10_other_X10_ends : GoodIn wsX10_other wsX10_ends := goodIn_r _ [5, 6, 11, 12, 13, 14, 15, 16, 17, 18, 19, 20, 21, 22, 23, 24, 25, 26, 27] (by decide +kernel) (by decide +kernel)
set_option maxRecDepth 20000 in
theorem gX10_other_X10_ends : GoodIn wsX10_other (wsV RX10 53 RX10 yX10_ends wsX10_ends) := goodIn_app (goodIn_of _ (by decide +kernel)) ggX10_other_X10_ends
set_option maxRecDepth 20000 in
theorem ggX10_other_X10_arc : GoodIn wsX10_other wsX10_arc := goodIn_r _ [10, 6, 11, 12, 13, 14, 15, 16, 17, 18, 19, 20, 21, 22, 23, 24, 25, 26, 27] (by decide +kernel) (by decide +kernel)
set_option maxRecDepth 20000 in
theorem gX10_other_X10_arc : GoodIn wsX10_other (wsV RX10 57 RX10 yX10_arc wsX10_arc) := goodIn_app (goodIn_of _ (by decide +kernel)) ggX10_other_X10_arc
theorem dX10_other_0 : decode cX10_other 0 = .ok (.iload_n 1, 1) := by decide +kernel
theorem dX10_other_1 : decode cX10_other 1 = .ok (.istore_n 2, 1) := by decide +kernel
theorem dX10_other_2 : decode cX10_other 2 = .ok (.iconst 0, 1) := by decide +kernel
theorem dX10_other_3 : decode cX10_other 3 = .ok (.istore_n 3, 1) := by decide +kernel
theorem dX10_other_4 : decode cX10_other 4 = .ok (.iload_n 3, 1) := by decide +kernel
theorem dX10_other_5 : decode cX10_other 5 = .ok (.aload_n 0, 1) := by decide +kernel
theorem dX10_other_6 : decode cX10_other 6 = .ok (.invokevirtual 53, 3) := by decide +kernel
theorem dX10_other_9 : decode cX10_other 9 = .ok (.if_icmp .ge 33, 3) := by decide +kernel
theorem dX10_other_12 : decode cX10_other 12 = .ok (.iload_n 3, 1) := by decide +kernel
theorem dX10_other_13 : decode cX10_other 13 = .ok (.iload_n 1, 1) := by decide +kernel
theorem dX10_other_14 : decode cX10_other 14 = .ok (.if_icmp .eq 20, 3) := by decide +kernel
theorem dX10_other_17 : decode cX10_other 17 = .ok (.aload_n 0, 1) := by decide +kernel
theorem dX10_other_18 : decode cX10_other 18 = .ok (.iload_n 3, 1) := by decide +kernel
theorem dX10_other_19 : decode cX10_other 19 = .ok (.invokevirtual 57, 3) := by decide +kernel
theorem dX10_other_22 : decode cX10_other 22 = .ok (.aload_n 0, 1) := by decide +kernel
theorem dX10_other_23 : decode cX10_other 23 = .ok (.iload_n 1, 1) := by decide +kernel
theorem dX10_other_24 : decode cX10_other 24 = .ok (.invokevirtual 57, 3) := by decide +kernel
theorem dX10_other_27 : decode cX10_other 27 = .ok (.if_icmp .ne 7, 3) := by decide +kernel
theorem dX10_other_30 : decode cX10_other 30 = .ok (.iload_n 3, 1) := by decide +kernel
theorem dX10_other_31 : decode cX10_other 31 = .ok (.goto 4, 3) := by decide +kernel
theorem dX10_other_34 : decode cX10_other 34 = .ok (.iload_n 2, 1) := by decide +kernel
theorem dX10_other_35 : decode cX10_other 35 = .ok (.istore_n 2, 1) := by decide +kernel
theorem dX10_other_36 : decode cX10_other 36 = .ok (.iinc 3 1, 3) := by decide +kernel
theorem dX10_other_39 : decode cX10_other 39 = .ok (.goto (-35), 3) := by decide +kernel
theorem dX10_other_42 : decode cX10_other 42 = .ok (.iload_n 2, 1) := by decide +kernel
theorem dX10_other_43 : decode cX10_other 43 = .ok (.ireturn, 1) := by decide +kernel
set_option maxRecDepth 20000 in
theorem ggX10_isCrossing_X10_crossings : GoodIn wsX10_isCrossing wsX10_crossings := goodIn_r _ [5, 6, 10, 11, 12, 13, 14, 15, 16, 17, 18, 19, 20, 21, 22, 23, 24, 25, 26] (by decide +kernel) (by decide +kernel)
set_option maxRecDepth 20000 in
theorem gX10_isCrossing_X10_crossings : GoodIn wsX10_isCrossing (wsV RX10 61 RX10 yX10_crossings wsX10_crossings) := goodIn_app (goodIn_of _ (by decide +kernel)) ggX10_isCrossing_X10_crossings
set_option maxRecDepth 20000 in
theorem ggX10_isCrossing_X10_in : GoodIn wsX10_isCrossing wsX10_in := goodIn_r _ [9] (by decide +kernel) (by decide +kernel)
set_option maxRecDepth 20000 in
theorem gX10_isCrossing_X10_in : GoodIn wsX10_isCrossing (va_wsS RX10 64 yX10_in wsX10_in) := goodIn_app (goodIn_of _ (by decide +kernel)) ggX10_isCrossing_X10_in
theorem dX10_isCrossing_0 : decode cX10_isCrossing 0 = .ok (.iload_n 1, 1) := by decide +kernel
theorem dX10_isCrossing_1 : decode cX10_isCrossing 1 = .ok (.iconst 0, 1) := by decide +kernel
theorem dX10_isCrossing_2 : decode cX10_isCrossing 2 = .ok (.aload_n 0, 1) := by decide +kernel
theorem dX10_isCrossing_3 : decode cX10_isCrossing 3 = .ok (.invokevirtual 61, 3) := by decide +kernel
theorem dX10_isCrossing_6 : decode cX10_isCrossing 6 = .ok (.iconst 1, 1) := by decide +kernel
theorem dX10_isCrossing_7 : decode cX10_isCrossing 7 = .ok (.isub, 1) := by decide +kernel
theorem dX10_isCrossing_8 : decode cX10_isCrossing 8 = .ok (.invokestatic 64, 3) := by decide +kernel
theorem dX10_isCrossing_11 : decode cX10_isCrossing 11 = .ok (.ireturn, 1) := by decide +kernel
set_option maxRecDepth 20000 in
theorem ggX10_append_X10_in : GoodIn wsX10_append wsX10_in := goodIn_r _ [8] (by decide +kernel) (by decide +kernel)
set_option maxRecDepth 20000 in
theorem gX10_append_X10_in : GoodIn wsX10_append (va_wsS RX10 64 yX10_in wsX10_in) := goodIn_app (goodIn_of _ (by decide +kernel)) ggX10_append_X10_in
theorem dX10_append_0 : decode cX10_append 0 = .ok (.iload_n 1, 1) := by decide +kernel
theorem dX10_append_1 : decode cX10_append 1 = .ok (.iconst 0, 1) := by decide +kernel
theorem dX10_append_2 : decode cX10_append 2 = .ok (.sipush 255, 3) := by decide +kernel
theorem dX10_append_5 : decode cX10_append 5 = .ok (.invokestatic 64, 3) := by decide +kernel
theorem dX10_append_8 : decode cX10_append 8 = .ok (.ifCond .ne 6, 3) := by decide +kernel
theorem dX10_append_11 : decode cX10_append 11 = .ok (.ldc 68, 2) := by decide +kernel
theorem dX10_append_13 : decode cX10_append 13 = .ok (.ireturn, 1) := by decide +kernel
theorem dX10_append_14 : decode cX10_append 14 = .ok (.aload_n 0, 1) := by decide +kernel
theorem dX10_append_15 : decode cX10_append 15 = .ok (.getfield 69, 3) := by decide +kernel
theorem dX10_append_18 : decode cX10_append 18 = .ok (.sipush 160, 3) := by decide +kernel
theorem dX10_append_21 : decode cX10_append 21 = .ok (.if_icmp .ne 6, 3) := by decide +kernel
theorem dX10_append_24 : decode cX10_append 24 = .ok (.ldc 73, 2) := by decide +kernel
theorem dX10_append_26 : decode cX10_append 26 = .ok (.ireturn, 1) := by decide +kernel
theorem dX10_append_27 : decode cX10_append 27 = .ok (.aload_n 0, 1) := by decide +kernel
theorem dX10_append_28 : decode cX10_append 28 = .ok (.getfield 23, 3) := by decide +kernel
theorem dX10_append_31 : decode cX10_append 31 = .ok (.aload_n 0, 1) := by decide +kernel
theorem dX10_append_32 : decode cX10_append 32 = .ok (.getfield 69, 3) := by decide +kernel
theorem dX10_append_35 : decode cX10_append 35 = .ok (.iload_n 1, 1) := by decide +kernel
theorem dX10_append_36 : decode cX10_append 36 = .ok (.iastore, 1) := by decide +kernel
theorem dX10_append_37 : decode cX10_append 37 = .ok (.aload_n 0, 1) := by decide +kernel
theorem dX10_append_38 : decode cX10_append 38 = .ok (.dup, 1) := by decide +kernel
theorem dX10_append_39 : decode cX10_append 39 = .ok (.getfield 69, 3) := by decide +kernel
theorem dX10_append_42 : decode cX10_append 42 = .ok (.iconst 1, 1) := by decide +kernel
theorem dX10_append_43 : decode cX10_append 43 = .ok (.iadd, 1) := by decide +kernel
theorem dX10_append_44 : decode cX10_append 44 = .ok (.putfield 69, 3) := by decide +kernel
theorem dX10_append_47 : decode cX10_append 47 = .ok (.aload_n 0, 1) := by decide +kernel
theorem dX10_append_48 : decode cX10_append 48 = .ok (.getfield 69, 3) := by decide +kernel
theorem dX10_append_51 : decode cX10_append 51 = .ok (.ireturn, 1) := by decide +kernel
theorem dX10_clearText_0 : decode cX10_clearText 0 = .ok (.aload_n 0, 1) := by decide +kernel
theorem dX10_clearText_1 : decode cX10_clearText 1 = .ok (.getfield 69, 3) := by decide +kernel
theorem dX10_clearText_4 : decode cX10_clearText 4 = .ok (.istore_n 1, 1) := by decide +kernel
theorem dX10_clearText_5 : decode cX10_clearText 5 = .ok (.aload_n 0, 1) := by decide +kernel
theorem dX10_clearText_6 : decode cX10_clearText 6 = .ok (.iconst 0, 1) := by decide +kernel
theorem dX10_clearText_7 : decode cX10_clearText 7 = .ok (.putfield 69, 3) := by decide +kernel
theorem dX10_clearText_10 : decode cX10_clearText 10 = .ok (.iload_n 1, 1) := by decide +kernel
theorem dX10_clearText_11 : decode cX10_clearText 11 = .ok (.ireturn, 1) := by decide +kernel
theorem dX10_skipSpaces_0 : decode cX10_skipSpaces 0 = .ok (.aload_n 0, 1) := by decide +kernel
theorem dX10_skipSpaces_1 : decode cX10_skipSpaces 1 = .ok (.getfield 74, 3) := by decide +kernel
theorem dX10_skipSpaces_4 : decode cX10_skipSpaces 4 = .ok (.aload_n 0, 1) := by decide +kernel
theorem dX10_skipSpaces_5 : decode cX10_skipSpaces 5 = .ok (.getfield 69, 3) := by decide +kernel
theorem dX10_skipSpaces_8 : decode cX10_skipSpaces 8 = .ok (.if_icmp .ge 30, 3) := by decide +kernel
theorem dX10_skipSpaces_11 : decode cX10_skipSpaces 11 = .ok (.aload_n 0, 1) := by decide +kernel
theorem dX10_skipSpaces_12 : decode cX10_skipSpaces 12 = .ok (.getfield 23, 3) := by decide +kernel
theorem dX10_skipSpaces_15 : decode cX10_skipSpaces 15 = .ok (.aload_n 0, 1) := by decide +kernel
theorem dX10_skipSpaces_16 : decode cX10_skipSpaces 16 = .ok (.getfield 74, 3) := by decide +kernel
theorem dX10_skipSpaces_19 : decode cX10_skipSpaces 19 = .ok (.iaload, 1) := by decide +kernel
theorem dX10_skipSpaces_20 : decode cX10_skipSpaces 20 = .ok (.bipush 32, 2) := by decide +kernel
theorem dX10_skipSpaces_22 : decode cX10_skipSpaces 22 = .ok (.if_icmp .ne 16, 3) := by decide +kernel
theorem dX10_skipSpaces_25 : decode cX10_skipSpaces 25 = .ok (.aload_n 0, 1) := by decide +kernel
theorem dX10_skipSpaces_26 : decode cX10_skipSpaces 26 = .ok (.dup, 1) := by decide +kernel
theorem dX10_skipSpaces_27 : decode cX10_skipSpaces 27 = .ok (.getfield 74, 3) := by decide +kernel
theorem dX10_skipSpaces_30 : decode cX10_skipSpaces 30 = .ok (.iconst 1, 1) := by decide +kernel
theorem dX10_skipSpaces_31 : decode cX10_skipSpaces 31 = .ok (.iadd, 1) := by decide +kernel
theorem dX10_skipSpaces_32 : decode cX10_skipSpaces 32 = .ok (.putfield 74, 3) := by decide +kernel
theorem dX10_skipSpaces_35 : decode cX10_skipSpaces 35 = .ok (.goto (-35), 3) := by decide +kernel
theorem dX10_skipSpaces_38 : decode cX10_skipSpaces 38 = .ok (.return_, 1) := by decide +kernel
theorem dX10_isAt_0 : decode cX10_isAt 0 = .ok (.aload_n 0, 1) := by decide +kernel
theorem dX10_isAt_1 : decode cX10_isAt 1 = .ok (.getfield 74, 3) := by decide +kernel
theorem dX10_isAt_4 : decode cX10_isAt 4 = .ok (.aload_n 0, 1) := by decide +kernel
theorem dX10_isAt_5 : decode cX10_isAt 5 = .ok (.getfield 69, 3) := by decide +kernel
theorem dX10_isAt_8 : decode cX10_isAt 8 = .ok (.if_icmp .ge 20, 3) := by decide +kernel
theorem dX10_isAt_11 : decode cX10_isAt 11 = .ok (.aload_n 0, 1) := by decide +kernel
theorem dX10_isAt_12 : decode cX10_isAt 12 = .ok (.getfield 23, 3) := by decide +kernel
theorem dX10_isAt_15 : decode cX10_isAt 15 = .ok (.aload_n 0, 1) := by decide +kernel
theorem dX10_isAt_16 : decode cX10_isAt 16 = .ok (.getfield 74, 3) := by decide +kernel
theorem dX10_isAt_19 : decode cX10_isAt 19 = .ok (.iaload, 1) := by decide +kernel
theorem dX10_isAt_20 : decode cX10_isAt 20 = .ok (.iload_n 1, 1) := by decide +kernel
theorem dX10_isAt_21 : decode cX10_isAt 21 = .ok (.if_icmp .ne 7, 3) := by decide +kernel
theorem dX10_isAt_24 : decode cX10_isAt 24 = .ok (.iconst 1, 1) := by decide +kernel
theorem dX10_isAt_25 : decode cX10_isAt 25 = .ok (.goto 4, 3) := by decide +kernel
theorem dX10_isAt_28 : decode cX10_isAt 28 = .ok (.iconst 0, 1) := by decide +kernel
theorem dX10_isAt_29 : decode cX10_isAt 29 = .ok (.ireturn, 1) := by decide +kernel
set_option maxRecDepth 20000 in
theorem ggX10_arcHere_X10_in : GoodIn wsX10_arcHere wsX10_in := goodIn_r _ [7] (by decide +kernel) (by decide +kernel)
set_option maxRecDepth 20000 in
theorem gX10_arcHere_X10_in : GoodIn wsX10_arcHere (va_wsS RX10 64 yX10_in wsX10_in) := goodIn_app (goodIn_of _ (by decide +kernel)) ggX10_arcHere_X10_in
theorem dX10_arcHere_0 : decode cX10_arcHere 0 = .ok (.iconst 0, 1) := by decide +kernel
theorem dX10_arcHere_1 : decode cX10_arcHere 1 = .ok (.istore_n 1, 1) := by decide +kernel
theorem dX10_arcHere_2 : decode cX10_arcHere 2 = .ok (.aload_n 0, 1) := by decide +kernel
theorem dX10_arcHere_3 : decode cX10_arcHere 3 = .ok (.getfield 74, 3) := by decide +kernel
theorem dX10_arcHere_6 : decode cX10_arcHere 6 = .ok (.istore_n 2, 1) := by decide +kernel
theorem dX10_arcHere_7 : decode cX10_arcHere 7 = .ok (.iload_n 2, 1) := by decide +kernel
theorem dX10_arcHere_8 : decode cX10_arcHere 8 = .ok (.aload_n 0, 1) := by decide +kernel
theorem dX10_arcHere_9 : decode cX10_arcHere 9 = .ok (.getfield 69, 3) := by decide +kernel
theorem dX10_arcHere_12 : decode cX10_arcHere 12 = .ok (.if_icmp .ge 50, 3) := by decide +kernel
theorem dX10_arcHere_15 : decode cX10_arcHere 15 = .ok (.aload_n 0, 1) := by decide +kernel
theorem dX10_arcHere_16 : decode cX10_arcHere 16 = .ok (.getfield 23, 3) := by decide +kernel
theorem dX10_arcHere_19 : decode cX10_arcHere 19 = .ok (.iload_n 2, 1) := by decide +kernel
theorem dX10_arcHere_20 : decode cX10_arcHere 20 = .ok (.iaload, 1) := by decide +kernel
theorem dX10_arcHere_21 : decode cX10_arcHere 21 = .ok (.bipush 48, 2) := by decide +kernel
theorem dX10_arcHere_23 : decode cX10_arcHere 23 = .ok (.bipush 57, 2) := by decide +kernel
theorem dX10_arcHere_25 : decode cX10_arcHere 25 = .ok (.invokestatic 64, 3) := by decide +kernel
theorem dX10_arcHere_28 : decode cX10_arcHere 28 = .ok (.ifCond .eq 34, 3) := by decide +kernel
theorem dX10_arcHere_31 : decode cX10_arcHere 31 = .ok (.iload_n 1, 1) := by decide +kernel
theorem dX10_arcHere_32 : decode cX10_arcHere 32 = .ok (.bipush 16, 2) := by decide +kernel
theorem dX10_arcHere_34 : decode cX10_arcHere 34 = .ok (.if_icmp .le 7, 3) := by decide +kernel
theorem dX10_arcHere_37 : decode cX10_arcHere 37 = .ok (.iload_n 1, 1) := by decide +kernel
theorem dX10_arcHere_38 : decode cX10_arcHere 38 = .ok (.goto 17, 3) := by decide +kernel
theorem dX10_arcHere_41 : decode cX10_arcHere 41 = .ok (.bipush 10, 2) := by decide +kernel
theorem dX10_arcHere_43 : decode cX10_arcHere 43 = .ok (.iload_n 1, 1) := by decide +kernel
theorem dX10_arcHere_44 : decode cX10_arcHere 44 = .ok (.imul, 1) := by decide +kernel
theorem dX10_arcHere_45 : decode cX10_arcHere 45 = .ok (.aload_n 0, 1) := by decide +kernel
theorem dX10_arcHere_46 : decode cX10_arcHere 46 = .ok (.getfield 23, 3) := by decide +kernel
theorem dX10_arcHere_49 : decode cX10_arcHere 49 = .ok (.iload_n 2, 1) := by decide +kernel
theorem dX10_arcHere_50 : decode cX10_arcHere 50 = .ok (.iaload, 1) := by decide +kernel
theorem dX10_arcHere_51 : decode cX10_arcHere 51 = .ok (.iadd, 1) := by decide +kernel
theorem dX10_arcHere_52 : decode cX10_arcHere 52 = .ok (.bipush 48, 2) := by decide +kernel
theorem dX10_arcHere_54 : decode cX10_arcHere 54 = .ok (.isub, 1) := by decide +kernel
theorem dX10_arcHere_55 : decode cX10_arcHere 55 = .ok (.istore_n 1, 1) := by decide +kernel
theorem dX10_arcHere_56 : decode cX10_arcHere 56 = .ok (.iinc 2 1, 3) := by decide +kernel
theorem dX10_arcHere_59 : decode cX10_arcHere 59 = .ok (.goto (-52), 3) := by decide +kernel
theorem dX10_arcHere_62 : decode cX10_arcHere 62 = .ok (.iload_n 2, 1) := by decide +kernel
theorem dX10_arcHere_63 : decode cX10_arcHere 63 = .ok (.aload_n 0, 1) := by decide +kernel
theorem dX10_arcHere_64 : decode cX10_arcHere 64 = .ok (.getfield 74, 3) := by decide +kernel
theorem dX10_arcHere_67 : decode cX10_arcHere 67 = .ok (.if_icmp .le 27, 3) := by decide +kernel
theorem dX10_arcHere_70 : decode cX10_arcHere 70 = .ok (.aload_n 0, 1) := by decide +kernel
theorem dX10_arcHere_71 : decode cX10_arcHere 71 = .ok (.getfield 23, 3) := by decide +kernel
theorem dX10_arcHere_74 : decode cX10_arcHere 74 = .ok (.aload_n 0, 1) := by decide +kernel
theorem dX10_arcHere_75 : decode cX10_arcHere 75 = .ok (.getfield 74, 3) := by decide +kernel
theorem dX10_arcHere_78 : decode cX10_arcHere 78 = .ok (.iaload, 1) := by decide +kernel
theorem dX10_arcHere_79 : decode cX10_arcHere 79 = .ok (.bipush 48, 2) := by decide +kernel
theorem dX10_arcHere_81 : decode cX10_arcHere 81 = .ok (.if_icmp .eq 13, 3) := by decide +kernel
theorem dX10_arcHere_84 : decode cX10_arcHere 84 = .ok (.iload_n 1, 1) := by decide +kernel
theorem dX10_arcHere_85 : decode cX10_arcHere 85 = .ok (.bipush 16, 2) := by decide +kernel
theorem dX10_arcHere_87 : decode cX10_arcHere 87 = .ok (.if_icmp .gt 7, 3) := by decide +kernel
theorem dX10_arcHere_90 : decode cX10_arcHere 90 = .ok (.iconst 1, 1) := by decide +kernel
theorem dX10_arcHere_91 : decode cX10_arcHere 91 = .ok (.goto 4, 3) := by decide +kernel
theorem dX10_arcHere_94 : decode cX10_arcHere 94 = .ok (.iconst 0, 1) := by decide +kernel
theorem dX10_arcHere_95 : decode cX10_arcHere 95 = .ok (.istore_n 3, 1) := by decide +kernel
theorem dX10_arcHere_96 : decode cX10_arcHere 96 = .ok (.iload_n 3, 1) := by decide +kernel
theorem dX10_arcHere_97 : decode cX10_arcHere 97 = .ok (.ifCond .eq 7, 3) := by decide +kernel
theorem dX10_arcHere_100 : decode cX10_arcHere 100 = .ok (.iload_n 1, 1) := by decide +kernel
theorem dX10_arcHere_101 : decode cX10_arcHere 101 = .ok (.goto 4, 3) := by decide +kernel
theorem dX10_arcHere_104 : decode cX10_arcHere 104 = .ok (.iconst 0, 1) := by decide +kernel
theorem dX10_arcHere_105 : decode cX10_arcHere 105 = .ok (.ireturn, 1) := by decide +kernel
set_option maxRecDepth 20000 in
theorem ggX10_readArc_X10_skipSpaces : GoodIn wsX10_readArc wsX10_skipSpaces := goodIn_r _ [10, 3, 4, 5, 18, 19, 20, 21, 22, 23, 24, 25, 26, 27, 28, 29, 30, 31, 32, 33, 34] (by decide +kernel) (by decide +kernel)
set_option maxRecDepth 20000 in
theorem gX10_readArc_X10_skipSpaces : GoodIn wsX10_readArc (wsV RX10 77 RX10 yX10_skipSpaces wsX10_skipSpaces) := goodIn_app (goodIn_of _ (by decide +kernel)) ggX10_readArc_X10_skipSpaces
set_option maxRecDepth 20000 in
theorem ggX10_readArc_X10_arcHere : GoodIn wsX10_readArc wsX10_arcHere := goodIn_r _ [14, 3, 4, 5, 15, 16, 9, 17, 18, 19, 20, 21, 22, 23, 24, 25, 26, 27, 28, 29, 30, 31, 32, 33, 34] (by decide +kernel) (by decide +kernel)
set_option maxRecDepth 20000 in
theorem gX10_readArc_X10_arcHere : GoodIn wsX10_readArc (wsV RX10 80 RX10 yX10_arcHere wsX10_arcHere) := goodIn_app (goodIn_of _ (by decide +kernel)) ggX10_readArc_X10_arcHere
set_option maxRecDepth 20000 in
theorem ggX10_readArc_X10_in : GoodIn wsX10_readArc wsX10_in := goodIn_r _ [17] (by decide +kernel) (by decide +kernel)
set_option maxRecDepth 20000 in
theorem gX10_readArc_X10_in : GoodIn wsX10_readArc (va_wsS RX10 64 yX10_in wsX10_in) := goodIn_app (goodIn_of _ (by decide +kernel)) ggX10_readArc_X10_in
theorem dX10_readArc_0 : decode cX10_readArc 0 = .ok (.aload_n 0, 1) := by decide +kernel
theorem dX10_readArc_1 : decode cX10_readArc 1 = .ok (.invokevirtual 77, 3) := by decide +kernel
theorem dX10_readArc_4 : decode cX10_readArc 4 = .ok (.aload_n 0, 1) := by decide +kernel
theorem dX10_readArc_5 : decode cX10_readArc 5 = .ok (.invokevirtual 80, 3) := by decide +kernel
theorem dX10_readArc_8 : decode cX10_readArc 8 = .ok (.istore_n 2, 1) := by decide +kernel
theorem dX10_readArc_9 : decode cX10_readArc 9 = .ok (.iload_n 2, 1) := by decide +kernel
theorem dX10_readArc_10 : decode cX10_readArc 10 = .ok (.ifCond .eq 13, 3) := by decide +kernel
theorem dX10_readArc_13 : decode cX10_readArc 13 = .ok (.aload_n 0, 1) := by decide +kernel
theorem dX10_readArc_14 : decode cX10_readArc 14 = .ok (.getfield 29, 3) := by decide +kernel
theorem dX10_readArc_17 : decode cX10_readArc 17 = .ok (.iload_n 2, 1) := by decide +kernel
theorem dX10_readArc_18 : decode cX10_readArc 18 = .ok (.iaload, 1) := by decide +kernel
theorem dX10_readArc_19 : decode cX10_readArc 19 = .ok (.iconst 2, 1) := by decide +kernel
theorem dX10_readArc_20 : decode cX10_readArc 20 = .ok (.if_icmp .ne 5, 3) := by decide +kernel
theorem dX10_readArc_23 : decode cX10_readArc 23 = .ok (.iconst 0, 1) := by decide +kernel
theorem dX10_readArc_24 : decode cX10_readArc 24 = .ok (.ireturn, 1) := by decide +kernel
theorem dX10_readArc_25 : decode cX10_readArc 25 = .ok (.aload_n 0, 1) := by decide +kernel
theorem dX10_readArc_26 : decode cX10_readArc 26 = .ok (.getfield 29, 3) := by decide +kernel
theorem dX10_readArc_29 : decode cX10_readArc 29 = .ok (.iload_n 2, 1) := by decide +kernel
theorem dX10_readArc_30 : decode cX10_readArc 30 = .ok (.dup2, 1) := by decide +kernel
theorem dX10_readArc_31 : decode cX10_readArc 31 = .ok (.iaload, 1) := by decide +kernel
theorem dX10_readArc_32 : decode cX10_readArc 32 = .ok (.iconst 1, 1) := by decide +kernel
theorem dX10_readArc_33 : decode cX10_readArc 33 = .ok (.iadd, 1) := by decide +kernel
theorem dX10_readArc_34 : decode cX10_readArc 34 = .ok (.iastore, 1) := by decide +kernel
theorem dX10_readArc_35 : decode cX10_readArc 35 = .ok (.aload_n 0, 1) := by decide +kernel
theorem dX10_readArc_36 : decode cX10_readArc 36 = .ok (.getfield 26, 3) := by decide +kernel
theorem dX10_readArc_39 : decode cX10_readArc 39 = .ok (.iload_n 1, 1) := by decide +kernel
theorem dX10_readArc_40 : decode cX10_readArc 40 = .ok (.iload_n 2, 1) := by decide +kernel
theorem dX10_readArc_41 : decode cX10_readArc 41 = .ok (.iastore, 1) := by decide +kernel
theorem dX10_readArc_42 : decode cX10_readArc 42 = .ok (.aload_n 0, 1) := by decide +kernel
theorem dX10_readArc_43 : decode cX10_readArc 43 = .ok (.getfield 74, 3) := by decide +kernel
theorem dX10_readArc_46 : decode cX10_readArc 46 = .ok (.aload_n 0, 1) := by decide +kernel
theorem dX10_readArc_47 : decode cX10_readArc 47 = .ok (.getfield 69, 3) := by decide +kernel
theorem dX10_readArc_50 : decode cX10_readArc 50 = .ok (.if_icmp .ge 35, 3) := by decide +kernel
theorem dX10_readArc_53 : decode cX10_readArc 53 = .ok (.aload_n 0, 1) := by decide +kernel
theorem dX10_readArc_54 : decode cX10_readArc 54 = .ok (.getfield 23, 3) := by decide +kernel
theorem dX10_readArc_57 : decode cX10_readArc 57 = .ok (.aload_n 0, 1) := by decide +kernel
theorem dX10_readArc_58 : decode cX10_readArc 58 = .ok (.getfield 74, 3) := by decide +kernel
theorem dX10_readArc_61 : decode cX10_readArc 61 = .ok (.iaload, 1) := by decide +kernel
theorem dX10_readArc_62 : decode cX10_readArc 62 = .ok (.bipush 48, 2) := by decide +kernel
theorem dX10_readArc_64 : decode cX10_readArc 64 = .ok (.bipush 57, 2) := by decide +kernel
theorem dX10_readArc_66 : decode cX10_readArc 66 = .ok (.invokestatic 64, 3) := by decide +kernel
theorem dX10_readArc_69 : decode cX10_readArc 69 = .ok (.ifCond .eq 16, 3) := by decide +kernel
theorem dX10_readArc_72 : decode cX10_readArc 72 = .ok (.aload_n 0, 1) := by decide +kernel
theorem dX10_readArc_73 : decode cX10_readArc 73 = .ok (.dup, 1) := by decide +kernel
theorem dX10_readArc_74 : decode cX10_readArc 74 = .ok (.getfield 74, 3) := by decide +kernel
theorem dX10_readArc_77 : decode cX10_readArc 77 = .ok (.iconst 1, 1) := by decide +kernel
theorem dX10_readArc_78 : decode cX10_readArc 78 = .ok (.iadd, 1) := by decide +kernel
theorem dX10_readArc_79 : decode cX10_readArc 79 = .ok (.putfield 74, 3) := by decide +kernel
theorem dX10_readArc_82 : decode cX10_readArc 82 = .ok (.goto (-40), 3) := by decide +kernel
theorem dX10_readArc_85 : decode cX10_readArc 85 = .ok (.iconst 1, 1) := by decide +kernel
theorem dX10_readArc_86 : decode cX10_readArc 86 = .ok (.ireturn, 1) := by decide +kernel
set_option maxRecDepth 20000 in
theorem ggX10_readStatement_X10_isAt : GoodIn wsX10_readStatement wsX10_isAt := goodIn_r _ [7, 2, 8, 9, 26, 27, 28, 29, 30, 31, 32, 33, 34, 35, 36, 37, 38, 39, 40, 41, 42] (by decide +kernel) (by decide +kernel)
set_option maxRecDepth 20000 in
theorem gX10_readStatement_X10_isAt : GoodIn wsX10_readStatement (wsV RX10 83 RX10 yX10_isAt wsX10_isAt) := goodIn_app (goodIn_of _ (by decide +kernel)) ggX10_readStatement_X10_isAt
set_option maxRecDepth 20000 in
theorem ggX10_readStatement_X10_readArc : GoodIn wsX10_readStatement wsX10_readArc := goodIn_r _ [13, 14, 1, 2, 8, 9, 15, 16, 17, 6, 18, 19, 20, 21, 22, 23, 24, 25, 26, 27, 28, 29, 30, 31, 32, 33, 34, 35, 36, 37, 38, 39, 40, 41, 42] (by decide +kernel) (by decide +kernel)
set_option maxRecDepth 20000 in
theorem gX10_readStatement_X10_readArc : GoodIn wsX10_readStatement (wsV RX10 87 RX10 yX10_readArc wsX10_readArc) := goodIn_app (goodIn_of _ (by decide +kernel)) ggX10_readStatement_X10_readArc
set_option maxRecDepth 20000 in
theorem ggX10_readStatement_X10_skipSpaces : GoodIn wsX10_readStatement wsX10_skipSpaces := goodIn_r _ [18, 2, 8, 9, 26, 27, 28, 29, 30, 31, 32, 33, 34, 35, 36, 37, 38, 39, 40, 41, 42] (by decide +kernel) (by decide +kernel)
set_option maxRecDepth 20000 in
theorem gX10_readStatement_X10_skipSpaces : GoodIn wsX10_readStatement (wsV RX10 77 RX10 yX10_skipSpaces wsX10_skipSpaces) := goodIn_app (goodIn_of _ (by decide +kernel)) ggX10_readStatement_X10_skipSpaces
theorem dX10_readStatement_0 : decode cX10_readStatement 0 = .ok (.aload_n 0, 1) := by decide +kernel
theorem dX10_readStatement_1 : decode cX10_readStatement 1 = .ok (.bipush 120, 2) := by decide +kernel
theorem dX10_readStatement_3 : decode cX10_readStatement 3 = .ok (.invokevirtual 83, 3) := by decide +kernel
theorem dX10_readStatement_6 : decode cX10_readStatement 6 = .ok (.ifCond .eq 71, 3) := by decide +kernel
theorem dX10_readStatement_9 : decode cX10_readStatement 9 = .ok (.aload_n 0, 1) := by decide +kernel
theorem dX10_readStatement_10 : decode cX10_readStatement 10 = .ok (.getfield 26, 3) := by decide +kernel
theorem dX10_readStatement_13 : decode cX10_readStatement 13 = .ok (.iconst 0, 1) := by decide +kernel
theorem dX10_readStatement_14 : decode cX10_readStatement 14 = .ok (.iaload, 1) := by decide +kernel
theorem dX10_readStatement_15 : decode cX10_readStatement 15 = .ok (.bipush 8, 2) := by decide +kernel
theorem dX10_readStatement_17 : decode cX10_readStatement 17 = .ok (.if_icmp .ge 60, 3) := by decide +kernel
theorem dX10_readStatement_20 : decode cX10_readStatement 20 = .ok (.aload_n 0, 1) := by decide +kernel
theorem dX10_readStatement_21 : decode cX10_readStatement 21 = .ok (.dup, 1) := by decide +kernel
theorem dX10_readStatement_22 : decode cX10_readStatement 22 = .ok (.getfield 74, 3) := by decide +kernel
theorem dX10_readStatement_25 : decode cX10_readStatement 25 = .ok (.iconst 1, 1) := by decide +kernel
theorem dX10_readStatement_26 : decode cX10_readStatement 26 = .ok (.iadd, 1) := by decide +kernel
theorem dX10_readStatement_27 : decode cX10_readStatement 27 = .ok (.putfield 74, 3) := by decide +kernel
theorem dX10_readStatement_30 : decode cX10_readStatement 30 = .ok (.iconst 0, 1) := by decide +kernel
theorem dX10_readStatement_31 : decode cX10_readStatement 31 = .ok (.istore_n 1, 1) := by decide +kernel
theorem dX10_readStatement_32 : decode cX10_readStatement 32 = .ok (.iload_n 1, 1) := by decide +kernel
theorem dX10_readStatement_33 : decode cX10_readStatement 33 = .ok (.iconst 4, 1) := by decide +kernel
theorem dX10_readStatement_34 : decode cX10_readStatement 34 = .ok (.if_icmp .ge 30, 3) := by decide +kernel
theorem dX10_readStatement_37 : decode cX10_readStatement 37 = .ok (.aload_n 0, 1) := by decide +kernel
theorem dX10_readStatement_38 : decode cX10_readStatement 38 = .ok (.iconst 2, 1) := by decide +kernel
theorem dX10_readStatement_39 : decode cX10_readStatement 39 = .ok (.iconst 4, 1) := by decide +kernel
theorem dX10_readStatement_40 : decode cX10_readStatement 40 = .ok (.aload_n 0, 1) := by decide +kernel
theorem dX10_readStatement_41 : decode cX10_readStatement 41 = .ok (.getfield 26, 3) := by decide +kernel
theorem dX10_readStatement_44 : decode cX10_readStatement 44 = .ok (.iconst 0, 1) := by decide +kernel
theorem dX10_readStatement_45 : decode cX10_readStatement 45 = .ok (.iaload, 1) := by decide +kernel
theorem dX10_readStatement_46 : decode cX10_readStatement 46 = .ok (.imul, 1) := by decide +kernel
theorem dX10_readStatement_47 : decode cX10_readStatement 47 = .ok (.iadd, 1) := by decide +kernel
theorem dX10_readStatement_48 : decode cX10_readStatement 48 = .ok (.iload_n 1, 1) := by decide +kernel
theorem dX10_readStatement_49 : decode cX10_readStatement 49 = .ok (.iadd, 1) := by decide +kernel
theorem dX10_readStatement_50 : decode cX10_readStatement 50 = .ok (.invokevirtual 87, 3) := by decide +kernel
theorem dX10_readStatement_53 : decode cX10_readStatement 53 = .ok (.ifCond .ne 5, 3) := by decide +kernel
theorem dX10_readStatement_56 : decode cX10_readStatement 56 = .ok (.iconst 0, 1) := by decide +kernel
theorem dX10_readStatement_57 : decode cX10_readStatement 57 = .ok (.ireturn, 1) := by decide +kernel
theorem dX10_readStatement_58 : decode cX10_readStatement 58 = .ok (.iinc 1 1, 3) := by decide +kernel
theorem dX10_readStatement_61 : decode cX10_readStatement 61 = .ok (.goto (-29), 3) := by decide +kernel
theorem dX10_readStatement_64 : decode cX10_readStatement 64 = .ok (.aload_n 0, 1) := by decide +kernel
theorem dX10_readStatement_65 : decode cX10_readStatement 65 = .ok (.getfield 26, 3) := by decide +kernel
theorem dX10_readStatement_68 : decode cX10_readStatement 68 = .ok (.iconst 0, 1) := by decide +kernel
theorem dX10_readStatement_69 : decode cX10_readStatement 69 = .ok (.dup2, 1) := by decide +kernel
theorem dX10_readStatement_70 : decode cX10_readStatement 70 = .ok (.iaload, 1) := by decide +kernel
theorem dX10_readStatement_71 : decode cX10_readStatement 71 = .ok (.iconst 1, 1) := by decide +kernel
theorem dX10_readStatement_72 : decode cX10_readStatement 72 = .ok (.iadd, 1) := by decide +kernel
theorem dX10_readStatement_73 : decode cX10_readStatement 73 = .ok (.iastore, 1) := by decide +kernel
theorem dX10_readStatement_74 : decode cX10_readStatement 74 = .ok (.goto 47, 3) := by decide +kernel
theorem dX10_readStatement_77 : decode cX10_readStatement 77 = .ok (.aload_n 0, 1) := by decide +kernel
theorem dX10_readStatement_78 : decode cX10_readStatement 78 = .ok (.bipush 111, 2) := by decide +kernel
theorem dX10_readStatement_80 : decode cX10_readStatement 80 = .ok (.invokevirtual 83, 3) := by decide +kernel
theorem dX10_readStatement_83 : decode cX10_readStatement 83 = .ok (.ifCond .eq 36, 3) := by decide +kernel
theorem dX10_readStatement_86 : decode cX10_readStatement 86 = .ok (.aload_n 0, 1) := by decide +kernel
theorem dX10_readStatement_87 : decode cX10_readStatement 87 = .ok (.getfield 26, 3) := by decide +kernel
theorem dX10_readStatement_90 : decode cX10_readStatement 90 = .ok (.iconst 1, 1) := by decide +kernel
theorem dX10_readStatement_91 : decode cX10_readStatement 91 = .ok (.iaload, 1) := by decide +kernel
theorem dX10_readStatement_92 : decode cX10_readStatement 92 = .ok (.iconst 4, 1) := by decide +kernel
theorem dX10_readStatement_93 : decode cX10_readStatement 93 = .ok (.if_icmp .ge 26, 3) := by decide +kernel
theorem dX10_readStatement_96 : decode cX10_readStatement 96 = .ok (.aload_n 0, 1) := by decide +kernel
theorem dX10_readStatement_97 : decode cX10_readStatement 97 = .ok (.dup, 1) := by decide +kernel
theorem dX10_readStatement_98 : decode cX10_readStatement 98 = .ok (.getfield 74, 3) := by decide +kernel
theorem dX10_readStatement_101 : decode cX10_readStatement 101 = .ok (.iconst 1, 1) := by decide +kernel
theorem dX10_readStatement_102 : decode cX10_readStatement 102 = .ok (.iadd, 1) := by decide +kernel
theorem dX10_readStatement_103 : decode cX10_readStatement 103 = .ok (.putfield 74, 3) := by decide +kernel
theorem dX10_readStatement_106 : decode cX10_readStatement 106 = .ok (.aload_n 0, 1) := by decide +kernel
theorem dX10_readStatement_107 : decode cX10_readStatement 107 = .ok (.getfield 26, 3) := by decide +kernel
theorem dX10_readStatement_110 : decode cX10_readStatement 110 = .ok (.iconst 1, 1) := by decide +kernel
theorem dX10_readStatement_111 : decode cX10_readStatement 111 = .ok (.dup2, 1) := by decide +kernel
theorem dX10_readStatement_112 : decode cX10_readStatement 112 = .ok (.iaload, 1) := by decide +kernel
theorem dX10_readStatement_113 : decode cX10_readStatement 113 = .ok (.iconst 1, 1) := by decide +kernel
theorem dX10_readStatement_114 : decode cX10_readStatement 114 = .ok (.iadd, 1) := by decide +kernel
theorem dX10_readStatement_115 : decode cX10_readStatement 115 = .ok (.iastore, 1) := by decide +kernel
theorem dX10_readStatement_116 : decode cX10_readStatement 116 = .ok (.goto 5, 3) := by decide +kernel
theorem dX10_readStatement_119 : decode cX10_readStatement 119 = .ok (.iconst 0, 1) := by decide +kernel
theorem dX10_readStatement_120 : decode cX10_readStatement 120 = .ok (.ireturn, 1) := by decide +kernel
theorem dX10_readStatement_121 : decode cX10_readStatement 121 = .ok (.aload_n 0, 1) := by decide +kernel
theorem dX10_readStatement_122 : decode cX10_readStatement 122 = .ok (.invokevirtual 77, 3) := by decide +kernel
theorem dX10_readStatement_125 : decode cX10_readStatement 125 = .ok (.aload_n 0, 1) := by decide +kernel
theorem dX10_readStatement_126 : decode cX10_readStatement 126 = .ok (.bipush 59, 2) := by decide +kernel
theorem dX10_readStatement_128 : decode cX10_readStatement 128 = .ok (.invokevirtual 83, 3) := by decide +kernel
theorem dX10_readStatement_131 : decode cX10_readStatement 131 = .ok (.ifCond .ne 5, 3) := by decide +kernel
theorem dX10_readStatement_134 : decode cX10_readStatement 134 = .ok (.iconst 0, 1) := by decide +kernel
theorem dX10_readStatement_135 : decode cX10_readStatement 135 = .ok (.ireturn, 1) := by decide +kernel
theorem dX10_readStatement_136 : decode cX10_readStatement 136 = .ok (.aload_n 0, 1) := by decide +kernel
theorem dX10_readStatement_137 : decode cX10_readStatement 137 = .ok (.dup, 1) := by decide +kernel
theorem dX10_readStatement_138 : decode cX10_readStatement 138 = .ok (.getfield 74, 3) := by decide +kernel
theorem dX10_readStatement_141 : decode cX10_readStatement 141 = .ok (.iconst 1, 1) := by decide +kernel
theorem dX10_readStatement_142 : decode cX10_readStatement 142 = .ok (.iadd, 1) := by decide +kernel
theorem dX10_readStatement_143 : decode cX10_readStatement 143 = .ok (.putfield 74, 3) := by decide +kernel
theorem dX10_readStatement_146 : decode cX10_readStatement 146 = .ok (.iconst 1, 1) := by decide +kernel
theorem dX10_readStatement_147 : decode cX10_readStatement 147 = .ok (.ireturn, 1) := by decide +kernel
set_option maxRecDepth 20000 in
theorem ggX10_readText_X10_skipSpaces : GoodIn wsX10_readText wsX10_skipSpaces := goodIn_r _ [9, 1, 4, 10, 30, 31, 32, 33, 34, 35, 36, 37, 38, 39, 40, 41, 42, 43, 44, 45, 46] (by decide +kernel) (by decide +kernel)
set_option maxRecDepth 20000 in
theorem gX10_readText_X10_skipSpaces : GoodIn wsX10_readText (wsV RX10 77 RX10 yX10_skipSpaces wsX10_skipSpaces) := goodIn_app (goodIn_of _ (by decide +kernel)) ggX10_readText_X10_skipSpaces
set_option maxRecDepth 20000 in
theorem ggX10_readText_X10_readStatement : GoodIn wsX10_readText wsX10_readStatement := goodIn_r _ [14, 2, 1, 15, 16, 17, 8, 18, 4, 10, 19, 20, 21, 22, 3, 5, 6, 7, 9, 23, 24, 25, 26, 27, 28, 29, 30, 31, 32, 33, 34, 35, 36, 37, 38, 39, 40, 41, 42, 43, 44, 45, 46] (by decide +kernel) (by decide +kernel)
set_option maxRecDepth 20000 in
theorem gX10_readText_X10_readStatement : GoodIn wsX10_readText (wsV RX10 90 RX10 yX10_readStatement wsX10_readStatement) := goodIn_app (goodIn_of _ (by decide +kernel)) ggX10_readText_X10_readStatement
theorem dX10_readText_0 : decode cX10_readText 0 = .ok (.aload_n 0, 1) := by decide +kernel
theorem dX10_readText_1 : decode cX10_readText 1 = .ok (.iconst 0, 1) := by decide +kernel
theorem dX10_readText_2 : decode cX10_readText 2 = .ok (.putfield 74, 3) := by decide +kernel
theorem dX10_readText_5 : decode cX10_readText 5 = .ok (.iconst 0, 1) := by decide +kernel
theorem dX10_readText_6 : decode cX10_readText 6 = .ok (.istore_n 1, 1) := by decide +kernel
theorem dX10_readText_7 : decode cX10_readText 7 = .ok (.iload_n 1, 1) := by decide +kernel
theorem dX10_readText_8 : decode cX10_readText 8 = .ok (.bipush 34, 2) := by decide +kernel
theorem dX10_readText_10 : decode cX10_readText 10 = .ok (.if_icmp .ge 16, 3) := by decide +kernel
theorem dX10_readText_13 : decode cX10_readText 13 = .ok (.aload_n 0, 1) := by decide +kernel
theorem dX10_readText_14 : decode cX10_readText 14 = .ok (.getfield 26, 3) := by decide +kernel
theorem dX10_readText_17 : decode cX10_readText 17 = .ok (.iload_n 1, 1) := by decide +kernel
theorem dX10_readText_18 : decode cX10_readText 18 = .ok (.iconst 0, 1) := by decide +kernel
theorem dX10_readText_19 : decode cX10_readText 19 = .ok (.iastore, 1) := by decide +kernel
theorem dX10_readText_20 : decode cX10_readText 20 = .ok (.iinc 1 1, 3) := by decide +kernel
theorem dX10_readText_23 : decode cX10_readText 23 = .ok (.goto (-16), 3) := by decide +kernel
theorem dX10_readText_26 : decode cX10_readText 26 = .ok (.iconst 0, 1) := by decide +kernel
theorem dX10_readText_27 : decode cX10_readText 27 = .ok (.istore_n 1, 1) := by decide +kernel
theorem dX10_readText_28 : decode cX10_readText 28 = .ok (.iload_n 1, 1) := by decide +kernel
theorem dX10_readText_29 : decode cX10_readText 29 = .ok (.bipush 16, 2) := by decide +kernel
theorem dX10_readText_31 : decode cX10_readText 31 = .ok (.if_icmp .gt 16, 3) := by decide +kernel
theorem dX10_readText_34 : decode cX10_readText 34 = .ok (.aload_n 0, 1) := by decide +kernel
theorem dX10_readText_35 : decode cX10_readText 35 = .ok (.getfield 29, 3) := by decide +kernel
theorem dX10_readText_38 : decode cX10_readText 38 = .ok (.iload_n 1, 1) := by decide +kernel
theorem dX10_readText_39 : decode cX10_readText 39 = .ok (.iconst 0, 1) := by decide +kernel
theorem dX10_readText_40 : decode cX10_readText 40 = .ok (.iastore, 1) := by decide +kernel
theorem dX10_readText_41 : decode cX10_readText 41 = .ok (.iinc 1 1, 3) := by decide +kernel
theorem dX10_readText_44 : decode cX10_readText 44 = .ok (.goto (-16), 3) := by decide +kernel
theorem dX10_readText_47 : decode cX10_readText 47 = .ok (.aload_n 0, 1) := by decide +kernel
theorem dX10_readText_48 : decode cX10_readText 48 = .ok (.invokevirtual 77, 3) := by decide +kernel
theorem dX10_readText_51 : decode cX10_readText 51 = .ok (.iconst 0, 1) := by decide +kernel
theorem dX10_readText_52 : decode cX10_readText 52 = .ok (.istore_n 1, 1) := by decide +kernel
theorem dX10_readText_53 : decode cX10_readText 53 = .ok (.aload_n 0, 1) := by decide +kernel
theorem dX10_readText_54 : decode cX10_readText 54 = .ok (.getfield 74, 3) := by decide +kernel
theorem dX10_readText_57 : decode cX10_readText 57 = .ok (.aload_n 0, 1) := by decide +kernel
theorem dX10_readText_58 : decode cX10_readText 58 = .ok (.getfield 69, 3) := by decide +kernel
theorem dX10_readText_61 : decode cX10_readText 61 = .ok (.if_icmp .ge 24, 3) := by decide +kernel
theorem dX10_readText_64 : decode cX10_readText 64 = .ok (.aload_n 0, 1) := by decide +kernel
theorem dX10_readText_65 : decode cX10_readText 65 = .ok (.invokevirtual 90, 3) := by decide +kernel
theorem dX10_readText_68 : decode cX10_readText 68 = .ok (.ifCond .ne 8, 3) := by decide +kernel
theorem dX10_readText_71 : decode cX10_readText 71 = .ok (.aload_n 0, 1) := by decide +kernel
theorem dX10_readText_72 : decode cX10_readText 72 = .ok (.getfield 74, 3) := by decide +kernel
theorem dX10_readText_75 : decode cX10_readText 75 = .ok (.ireturn, 1) := by decide +kernel
theorem dX10_readText_76 : decode cX10_readText 76 = .ok (.iconst 1, 1) := by decide +kernel
theorem dX10_readText_77 : decode cX10_readText 77 = .ok (.istore_n 1, 1) := by decide +kernel
theorem dX10_readText_78 : decode cX10_readText 78 = .ok (.aload_n 0, 1) := by decide +kernel
theorem dX10_readText_79 : decode cX10_readText 79 = .ok (.invokevirtual 77, 3) := by decide +kernel
theorem dX10_readText_82 : decode cX10_readText 82 = .ok (.goto (-29), 3) := by decide +kernel
theorem dX10_readText_85 : decode cX10_readText 85 = .ok (.iload_n 1, 1) := by decide +kernel
theorem dX10_readText_86 : decode cX10_readText 86 = .ok (.istore_n 2, 1) := by decide +kernel
theorem dX10_readText_87 : decode cX10_readText 87 = .ok (.iconst 1, 1) := by decide +kernel
theorem dX10_readText_88 : decode cX10_readText 88 = .ok (.istore_n 3, 1) := by decide +kernel
theorem dX10_readText_89 : decode cX10_readText 89 = .ok (.iload_n 3, 1) := by decide +kernel
theorem dX10_readText_90 : decode cX10_readText 90 = .ok (.bipush 16, 2) := by decide +kernel
theorem dX10_readText_92 : decode cX10_readText 92 = .ok (.if_icmp .gt 29, 3) := by decide +kernel
theorem dX10_readText_95 : decode cX10_readText 95 = .ok (.iload_n 2, 1) := by decide +kernel
theorem dX10_readText_96 : decode cX10_readText 96 = .ok (.ifCond .eq 17, 3) := by decide +kernel
theorem dX10_readText_99 : decode cX10_readText 99 = .ok (.aload_n 0, 1) := by decide +kernel
theorem dX10_readText_100 : decode cX10_readText 100 = .ok (.getfield 29, 3) := by decide +kernel
theorem dX10_readText_103 : decode cX10_readText 103 = .ok (.iload_n 3, 1) := by decide +kernel
theorem dX10_readText_104 : decode cX10_readText 104 = .ok (.iaload, 1) := by decide +kernel
theorem dX10_readText_105 : decode cX10_readText 105 = .ok (.iconst 1, 1) := by decide +kernel
theorem dX10_readText_106 : decode cX10_readText 106 = .ok (.if_icmp .eq 7, 3) := by decide +kernel
theorem dX10_readText_109 : decode cX10_readText 109 = .ok (.iconst 1, 1) := by decide +kernel
theorem dX10_readText_110 : decode cX10_readText 110 = .ok (.goto 4, 3) := by decide +kernel
theorem dX10_readText_113 : decode cX10_readText 113 = .ok (.iconst 0, 1) := by decide +kernel
theorem dX10_readText_114 : decode cX10_readText 114 = .ok (.istore_n 2, 1) := by decide +kernel
theorem dX10_readText_115 : decode cX10_readText 115 = .ok (.iinc 3 1, 3) := by decide +kernel
theorem dX10_readText_118 : decode cX10_readText 118 = .ok (.goto (-29), 3) := by decide +kernel
theorem dX10_readText_121 : decode cX10_readText 121 = .ok (.iload_n 2, 1) := by decide +kernel
theorem dX10_readText_122 : decode cX10_readText 122 = .ok (.ifCond .eq 7, 3) := by decide +kernel
theorem dX10_readText_125 : decode cX10_readText 125 = .ok (.iconst (-1), 1) := by decide +kernel
theorem dX10_readText_126 : decode cX10_readText 126 = .ok (.goto 7, 3) := by decide +kernel
theorem dX10_readText_129 : decode cX10_readText 129 = .ok (.aload_n 0, 1) := by decide +kernel
theorem dX10_readText_130 : decode cX10_readText 130 = .ok (.getfield 69, 3) := by decide +kernel
theorem dX10_readText_133 : decode cX10_readText 133 = .ok (.ireturn, 1) := by decide +kernel
theorem dX10_remember_0 : decode cX10_remember 0 = .ok (.aload_n 0, 1) := by decide +kernel
theorem dX10_remember_1 : decode cX10_remember 1 = .ok (.getfield 94, 3) := by decide +kernel
theorem dX10_remember_4 : decode cX10_remember 4 = .ok (.bipush 8, 2) := by decide +kernel
theorem dX10_remember_6 : decode cX10_remember 6 = .ok (.if_icmp .ne 43, 3) := by decide +kernel
theorem dX10_remember_9 : decode cX10_remember 9 = .ok (.iconst 0, 1) := by decide +kernel
theorem dX10_remember_10 : decode cX10_remember 10 = .ok (.istore_n 1, 1) := by decide +kernel
theorem dX10_remember_11 : decode cX10_remember 11 = .ok (.iload_n 1, 1) := by decide +kernel
theorem dX10_remember_12 : decode cX10_remember 12 = .ok (.sipush 238, 3) := by decide +kernel
theorem dX10_remember_15 : decode cX10_remember 15 = .ok (.if_icmp .ge 24, 3) := by decide +kernel
theorem dX10_remember_18 : decode cX10_remember 18 = .ok (.aload_n 0, 1) := by decide +kernel
theorem dX10_remember_19 : decode cX10_remember 19 = .ok (.getfield 13, 3) := by decide +kernel
theorem dX10_remember_22 : decode cX10_remember 22 = .ok (.iload_n 1, 1) := by decide +kernel
theorem dX10_remember_23 : decode cX10_remember 23 = .ok (.aload_n 0, 1) := by decide +kernel
theorem dX10_remember_24 : decode cX10_remember 24 = .ok (.getfield 13, 3) := by decide +kernel
theorem dX10_remember_27 : decode cX10_remember 27 = .ok (.iload_n 1, 1) := by decide +kernel
theorem dX10_remember_28 : decode cX10_remember 28 = .ok (.bipush 34, 2) := by decide +kernel
theorem dX10_remember_30 : decode cX10_remember 30 = .ok (.iadd, 1) := by decide +kernel
theorem dX10_remember_31 : decode cX10_remember 31 = .ok (.iaload, 1) := by decide +kernel
theorem dX10_remember_32 : decode cX10_remember 32 = .ok (.iastore, 1) := by decide +kernel
theorem dX10_remember_33 : decode cX10_remember 33 = .ok (.iinc 1 1, 3) := by decide +kernel
theorem dX10_remember_36 : decode cX10_remember 36 = .ok (.goto (-25), 3) := by decide +kernel
theorem dX10_remember_39 : decode cX10_remember 39 = .ok (.aload_n 0, 1) := by decide +kernel
theorem dX10_remember_40 : decode cX10_remember 40 = .ok (.dup, 1) := by decide +kernel
theorem dX10_remember_41 : decode cX10_remember 41 = .ok (.getfield 94, 3) := by decide +kernel
theorem dX10_remember_44 : decode cX10_remember 44 = .ok (.iconst 1, 1) := by decide +kernel
theorem dX10_remember_45 : decode cX10_remember 45 = .ok (.isub, 1) := by decide +kernel
theorem dX10_remember_46 : decode cX10_remember 46 = .ok (.putfield 94, 3) := by decide +kernel
theorem dX10_remember_49 : decode cX10_remember 49 = .ok (.iconst 0, 1) := by decide +kernel
theorem dX10_remember_50 : decode cX10_remember 50 = .ok (.istore_n 1, 1) := by decide +kernel
theorem dX10_remember_51 : decode cX10_remember 51 = .ok (.iload_n 1, 1) := by decide +kernel
theorem dX10_remember_52 : decode cX10_remember 52 = .ok (.bipush 34, 2) := by decide +kernel
theorem dX10_remember_54 : decode cX10_remember 54 = .ok (.if_icmp .ge 29, 3) := by decide +kernel
theorem dX10_remember_57 : decode cX10_remember 57 = .ok (.aload_n 0, 1) := by decide +kernel
theorem dX10_remember_58 : decode cX10_remember 58 = .ok (.getfield 13, 3) := by decide +kernel
theorem dX10_remember_61 : decode cX10_remember 61 = .ok (.bipush 34, 2) := by decide +kernel
theorem dX10_remember_63 : decode cX10_remember 63 = .ok (.aload_n 0, 1) := by decide +kernel
theorem dX10_remember_64 : decode cX10_remember 64 = .ok (.getfield 94, 3) := by decide +kernel
theorem dX10_remember_67 : decode cX10_remember 67 = .ok (.imul, 1) := by decide +kernel
theorem dX10_remember_68 : decode cX10_remember 68 = .ok (.iload_n 1, 1) := by decide +kernel
theorem dX10_remember_69 : decode cX10_remember 69 = .ok (.iadd, 1) := by decide +kernel
theorem dX10_remember_70 : decode cX10_remember 70 = .ok (.aload_n 0, 1) := by decide +kernel
theorem dX10_remember_71 : decode cX10_remember 71 = .ok (.getfield 7, 3) := by decide +kernel
theorem dX10_remember_74 : decode cX10_remember 74 = .ok (.iload_n 1, 1) := by decide +kernel
theorem dX10_remember_75 : decode cX10_remember 75 = .ok (.iaload, 1) := by decide +kernel
theorem dX10_remember_76 : decode cX10_remember 76 = .ok (.iastore, 1) := by decide +kernel
theorem dX10_remember_77 : decode cX10_remember 77 = .ok (.iinc 1 1, 3) := by decide +kernel
theorem dX10_remember_80 : decode cX10_remember 80 = .ok (.goto (-29), 3) := by decide +kernel
theorem dX10_remember_83 : decode cX10_remember 83 = .ok (.aload_n 0, 1) := by decide +kernel
theorem dX10_remember_84 : decode cX10_remember 84 = .ok (.dup, 1) := by decide +kernel
theorem dX10_remember_85 : decode cX10_remember 85 = .ok (.getfield 94, 3) := by decide +kernel
theorem dX10_remember_88 : decode cX10_remember 88 = .ok (.iconst 1, 1) := by decide +kernel
theorem dX10_remember_89 : decode cX10_remember 89 = .ok (.iadd, 1) := by decide +kernel
theorem dX10_remember_90 : decode cX10_remember 90 = .ok (.putfield 94, 3) := by decide +kernel
theorem dX10_remember_93 : decode cX10_remember 93 = .ok (.return_, 1) := by decide +kernel
theorem dX10_become_0 : decode cX10_become 0 = .ok (.iconst 0, 1) := by decide +kernel
theorem dX10_become_1 : decode cX10_become 1 = .ok (.istore_n 3, 1) := by decide +kernel
theorem dX10_become_2 : decode cX10_become 2 = .ok (.iload_n 3, 1) := by decide +kernel
theorem dX10_become_3 : decode cX10_become 3 = .ok (.bipush 34, 2) := by decide +kernel
theorem dX10_become_5 : decode cX10_become 5 = .ok (.if_icmp .ge 20, 3) := by decide +kernel
theorem dX10_become_8 : decode cX10_become 8 = .ok (.aload_n 0, 1) := by decide +kernel
theorem dX10_become_9 : decode cX10_become 9 = .ok (.getfield 7, 3) := by decide +kernel
theorem dX10_become_12 : decode cX10_become 12 = .ok (.iload_n 3, 1) := by decide +kernel
theorem dX10_become_13 : decode cX10_become 13 = .ok (.aload_n 1, 1) := by decide +kernel
theorem dX10_become_14 : decode cX10_become 14 = .ok (.iload_n 2, 1) := by decide +kernel
theorem dX10_become_15 : decode cX10_become 15 = .ok (.iload_n 3, 1) := by decide +kernel
theorem dX10_become_16 : decode cX10_become 16 = .ok (.iadd, 1) := by decide +kernel
theorem dX10_become_17 : decode cX10_become 17 = .ok (.iaload, 1) := by decide +kernel
theorem dX10_become_18 : decode cX10_become 18 = .ok (.iastore, 1) := by decide +kernel
theorem dX10_become_19 : decode cX10_become 19 = .ok (.iinc 3 1, 3) := by decide +kernel
theorem dX10_become_22 : decode cX10_become 22 = .ok (.goto (-20), 3) := by decide +kernel
theorem dX10_become_25 : decode cX10_become 25 = .ok (.return_, 1) := by decide +kernel
set_option maxRecDepth 20000 in
theorem ggX10_load_X10_readText : GoodIn wsX10_load wsX10_readText := goodIn_r _ [7, 8, 1, 9, 2, 10, 11, 12, 6, 13, 14, 15, 16, 17, 18, 19, 20, 21, 22, 23, 24, 25, 26, 27, 28, 29, 30, 31, 32, 33, 49, 50, 51, 52, 53, 54, 55, 56, 57, 58, 59, 60, 61, 62, 63, 64, 65] (by decide +kernel) (by decide +kernel)
set_option maxRecDepth 20000 in
theorem gX10_load_X10_readText : GoodIn wsX10_load (wsV RX10 97 RX10 yX10_readText wsX10_readText) := goodIn_app (goodIn_of _ (by decide +kernel)) ggX10_load_X10_readText
set_option maxRecDepth 20000 in
theorem ggX10_load_X10_remember : GoodIn wsX10_load wsX10_remember := goodIn_r _ [37, 38, 39, 40, 49, 50, 51, 52, 53, 54, 55, 56, 57, 58, 59, 60, 61, 62, 63, 64, 65] (by decide +kernel) (by decide +kernel)
set_option maxRecDepth 20000 in
theorem gX10_load_X10_remember : GoodIn wsX10_load (wsV RX10 100 RX10 yX10_remember wsX10_remember) := goodIn_app (goodIn_of _ (by decide +kernel)) ggX10_load_X10_remember
set_option maxRecDepth 20000 in
theorem ggX10_load_X10_become : GoodIn wsX10_load wsX10_become := goodIn_r _ [44, 40, 49, 50, 51, 52, 53, 54, 55, 56, 57, 58, 59, 60, 61, 62, 63, 64, 65] (by decide +kernel) (by decide +kernel)
set_option maxRecDepth 20000 in
theorem gX10_load_X10_become : GoodIn wsX10_load (wsV RX10 103 RX10 yX10_become wsX10_become) := goodIn_app (goodIn_of _ (by decide +kernel)) ggX10_load_X10_become
set_option maxRecDepth 20000 in
theorem ggX10_load_X10_crossings : GoodIn wsX10_load wsX10_crossings := goodIn_r _ [48, 40, 49, 50, 51, 52, 53, 54, 55, 56, 57, 58, 59, 60, 61, 62, 63, 64, 65] (by decide +kernel) (by decide +kernel)
set_option maxRecDepth 20000 in
theorem gX10_load_X10_crossings : GoodIn wsX10_load (wsV RX10 61 RX10 yX10_crossings wsX10_crossings) := goodIn_app (goodIn_of _ (by decide +kernel)) ggX10_load_X10_crossings
