theorem inlX0 : ∀ w ∈ wsX00, w ∈ wsL_law := fun _ h => List.mem_append_left _ (List.mem_append_left _ (List.mem_append_right _ h))
theorem inX0 : ∀ w ∈ wsX00, w ∈ lw_tbl := fun w h => wsL_law_in w (inlX0 w h)
theorem inlX1 : ∀ w ∈ wsX10, w ∈ wsL_law := fun _ h => List.mem_append_left _ (List.mem_append_right _ h)
theorem inX1 : ∀ w ∈ wsX10, w ∈ lw_tbl := fun w h => wsL_law_in w (inlX1 w h)
theorem inlX2 : ∀ w ∈ wsX20, w ∈ wsL_law := fun _ h => List.mem_append_left _ (List.mem_append_left _ (List.mem_append_left _ (List.mem_append_left _ (List.mem_append_right _ h))))
theorem inX2 : ∀ w ∈ wsX20, w ∈ lw_tbl := fun w h => wsL_law_in w (inlX2 w h)
theorem inX3 : ∀ w ∈ wsX30, w ∈ lw_tbl := by decide +kernel
theorem inlX4 : ∀ w ∈ wsX40, w ∈ wsL_law := fun _ h => List.mem_append_left _ (List.mem_append_left _ (List.mem_append_left _ (List.mem_append_left _ (List.mem_append_left _ (List.mem_append_right _ h)))))
theorem inX4 : ∀ w ∈ wsX40, w ∈ lw_tbl := fun w h => wsL_law_in w (inlX4 w h)
theorem inX5 : ∀ w ∈ wsX50, w ∈ lw_tbl := by decide +kernel
theorem inlX6 : ∀ w ∈ wsX60, w ∈ wsL_law := fun _ h => List.mem_append_left _ (List.mem_append_left _ (List.mem_append_left _ (List.mem_append_right _ h)))
theorem inX6 : ∀ w ∈ wsX60, w ∈ lw_tbl := fun w h => wsL_law_in w (inlX6 w h)
theorem inX7 : ∀ w ∈ wsX70, w ∈ lw_tbl := by decide +kernel
theorem inlX8 : ∀ w ∈ wsX80, w ∈ wsL_law := fun _ h => List.mem_append_left _ (List.mem_append_left _ (List.mem_append_left _ (List.mem_append_left _ (List.mem_append_left _ (List.mem_append_left _ (List.mem_append_right _ h))))))
theorem inX8 : ∀ w ∈ wsX80, w ∈ lw_tbl := fun w h => wsL_law_in w (inlX8 w h)
theorem inlX9 : ∀ w ∈ wsX90, w ∈ wsL_law := fun _ h => List.mem_append_left _ (List.mem_append_left _ (List.mem_append_left _ (List.mem_append_left _ (List.mem_append_left _ (List.mem_append_left _ (List.mem_append_left _ (List.mem_append_right _ h)))))))
theorem inX9 : ∀ w ∈ wsX90, w ∈ lw_tbl := fun w h => wsL_law_in w (inlX9 w h)
theorem inX10 : ∀ w ∈ wsX100, w ∈ lw_tbl := by decide +kernel
theorem inJ6 : ∀ w ∈ wsJ60, w ∈ lw_tbl := by decide +kernel
theorem inJ9 : ∀ w ∈ wsJ90, w ∈ lw_tbl := by decide +kernel
theorem dX0_init_0 : decode cX0_init 0 = .ok (.aload_n 0, 1) := by decide +kernel
theorem dX0_init_1 : decode cX0_init 1 = .ok (.invokespecial 5, 3) := by decide +kernel
theorem dX0_init_4 : decode cX0_init 4 = .ok (.aload_n 0, 1) := by decide +kernel
theorem dX0_init_5 : decode cX0_init 5 = .ok (.bipush 32, 2) := by decide +kernel
theorem dX0_init_7 : decode cX0_init 7 = .ok (.newarray .int, 2) := by decide +kernel
theorem dX0_init_9 : decode cX0_init 9 = .ok (.putfield 11, 3) := by decide +kernel
theorem dX0_init_12 : decode cX0_init 12 = .ok (.aload_n 0, 1) := by decide +kernel
theorem dX0_init_13 : decode cX0_init 13 = .ok (.sipush 189, 3) := by decide +kernel
theorem dX0_init_16 : decode cX0_init 16 = .ok (.newarray .int, 2) := by decide +kernel
theorem dX0_init_18 : decode cX0_init 18 = .ok (.putfield 15, 3) := by decide +kernel
theorem dX0_init_21 : decode cX0_init 21 = .ok (.aload_n 0, 1) := by decide +kernel
theorem dX0_init_22 : decode cX0_init 22 = .ok (.bipush 121, 2) := by decide +kernel
theorem dX0_init_24 : decode cX0_init 24 = .ok (.newarray .int, 2) := by decide +kernel
theorem dX0_init_26 : decode cX0_init 26 = .ok (.putfield 18, 3) := by decide +kernel
theorem dX0_init_29 : decode cX0_init 29 = .ok (.aload_n 0, 1) := by decide +kernel
theorem dX0_init_30 : decode cX0_init 30 = .ok (.bipush 121, 2) := by decide +kernel
theorem dX0_init_32 : decode cX0_init 32 = .ok (.newarray .int, 2) := by decide +kernel
theorem dX0_init_34 : decode cX0_init 34 = .ok (.putfield 21, 3) := by decide +kernel
theorem dX0_init_37 : decode cX0_init 37 = .ok (.return_, 1) := by decide +kernel
theorem dX0_forget_0 : decode cX0_forget 0 = .ok (.aload_n 0, 1) := by decide +kernel
theorem dX0_forget_1 : decode cX0_forget 1 = .ok (.iconst 0, 1) := by decide +kernel
theorem dX0_forget_2 : decode cX0_forget 2 = .ok (.putfield 24, 3) := by decide +kernel
theorem dX0_forget_5 : decode cX0_forget 5 = .ok (.return_, 1) := by decide +kernel
theorem dX0_at_0 : decode cX0_at 0 = .ok (.iload_n 1, 1) := by decide +kernel
theorem dX0_at_1 : decode cX0_at 1 = .ok (.bipush 60, 2) := by decide +kernel
theorem dX0_at_3 : decode cX0_at 3 = .ok (.iadd, 1) := by decide +kernel
theorem dX0_at_4 : decode cX0_at 4 = .ok (.istore_n 2, 1) := by decide +kernel
theorem dX0_at_5 : decode cX0_at 5 = .ok (.iload_n 2, 1) := by decide +kernel
theorem dX0_at_6 : decode cX0_at 6 = .ok (.ifCond .lt 18, 3) := by decide +kernel
theorem dX0_at_9 : decode cX0_at 9 = .ok (.iload_n 2, 1) := by decide +kernel
theorem dX0_at_10 : decode cX0_at 10 = .ok (.bipush 121, 2) := by decide +kernel
theorem dX0_at_12 : decode cX0_at 12 = .ok (.if_icmp .ge 12, 3) := by decide +kernel
theorem dX0_at_15 : decode cX0_at 15 = .ok (.aload_n 0, 1) := by decide +kernel
theorem dX0_at_16 : decode cX0_at 16 = .ok (.getfield 18, 3) := by decide +kernel
theorem dX0_at_19 : decode cX0_at 19 = .ok (.iload_n 2, 1) := by decide +kernel
theorem dX0_at_20 : decode cX0_at 20 = .ok (.iaload, 1) := by decide +kernel
theorem dX0_at_21 : decode cX0_at 21 = .ok (.goto 4, 3) := by decide +kernel
theorem dX0_at_24 : decode cX0_at 24 = .ok (.iconst 0, 1) := by decide +kernel
theorem dX0_at_25 : decode cX0_at 25 = .ok (.ireturn, 1) := by decide +kernel
set_option maxRecDepth 20000 in
theorem ggX0_lowest_X0_at : GoodIn wsX0_lowest wsX0_at := goodIn_r _ [6, 7, 8, 9, 10, 11, 12] (by decide +kernel) (by decide +kernel)
set_option maxRecDepth 20000 in
theorem gX0_lowest_X0_at : GoodIn wsX0_lowest (wsV RX0 28 RX0 yX0_at wsX0_at) := goodIn_app (goodIn_of _ (by decide +kernel)) ggX0_lowest_X0_at
theorem dX0_lowest_0 : decode cX0_lowest 0 = .ok (.bipush (-60), 2) := by decide +kernel
theorem dX0_lowest_2 : decode cX0_lowest 2 = .ok (.istore_n 1, 1) := by decide +kernel
theorem dX0_lowest_3 : decode cX0_lowest 3 = .ok (.iload_n 1, 1) := by decide +kernel
theorem dX0_lowest_4 : decode cX0_lowest 4 = .ok (.bipush 60, 2) := by decide +kernel
theorem dX0_lowest_6 : decode cX0_lowest 6 = .ok (.if_icmp .gt 19, 3) := by decide +kernel
theorem dX0_lowest_9 : decode cX0_lowest 9 = .ok (.aload_n 0, 1) := by decide +kernel
theorem dX0_lowest_10 : decode cX0_lowest 10 = .ok (.iload_n 1, 1) := by decide +kernel
theorem dX0_lowest_11 : decode cX0_lowest 11 = .ok (.invokevirtual 28, 3) := by decide +kernel
theorem dX0_lowest_14 : decode cX0_lowest 14 = .ok (.ifCond .eq 5, 3) := by decide +kernel
theorem dX0_lowest_17 : decode cX0_lowest 17 = .ok (.iload_n 1, 1) := by decide +kernel
theorem dX0_lowest_18 : decode cX0_lowest 18 = .ok (.ireturn, 1) := by decide +kernel
theorem dX0_lowest_19 : decode cX0_lowest 19 = .ok (.iinc 1 1, 3) := by decide +kernel
theorem dX0_lowest_22 : decode cX0_lowest 22 = .ok (.goto (-19), 3) := by decide +kernel
theorem dX0_lowest_25 : decode cX0_lowest 25 = .ok (.ldc 32, 2) := by decide +kernel
theorem dX0_lowest_27 : decode cX0_lowest 27 = .ok (.ireturn, 1) := by decide +kernel
set_option maxRecDepth 20000 in
theorem ggX0_highest_X0_at : GoodIn wsX0_highest wsX0_at := goodIn_r _ [6, 7, 8, 9, 10, 11, 12] (by decide +kernel) (by decide +kernel)
set_option maxRecDepth 20000 in
theorem gX0_highest_X0_at : GoodIn wsX0_highest (wsV RX0 28 RX0 yX0_at wsX0_at) := goodIn_app (goodIn_of _ (by decide +kernel)) ggX0_highest_X0_at
theorem dX0_highest_0 : decode cX0_highest 0 = .ok (.bipush 60, 2) := by decide +kernel
theorem dX0_highest_2 : decode cX0_highest 2 = .ok (.istore_n 1, 1) := by decide +kernel
theorem dX0_highest_3 : decode cX0_highest 3 = .ok (.iload_n 1, 1) := by decide +kernel
theorem dX0_highest_4 : decode cX0_highest 4 = .ok (.bipush (-60), 2) := by decide +kernel
theorem dX0_highest_6 : decode cX0_highest 6 = .ok (.if_icmp .lt 19, 3) := by decide +kernel
theorem dX0_highest_9 : decode cX0_highest 9 = .ok (.aload_n 0, 1) := by decide +kernel
theorem dX0_highest_10 : decode cX0_highest 10 = .ok (.iload_n 1, 1) := by decide +kernel
theorem dX0_highest_11 : decode cX0_highest 11 = .ok (.invokevirtual 28, 3) := by decide +kernel
theorem dX0_highest_14 : decode cX0_highest 14 = .ok (.ifCond .eq 5, 3) := by decide +kernel
theorem dX0_highest_17 : decode cX0_highest 17 = .ok (.iload_n 1, 1) := by decide +kernel
theorem dX0_highest_18 : decode cX0_highest 18 = .ok (.ireturn, 1) := by decide +kernel
theorem dX0_highest_19 : decode cX0_highest 19 = .ok (.iinc 1 (-1), 3) := by decide +kernel
theorem dX0_highest_22 : decode cX0_highest 22 = .ok (.goto (-19), 3) := by decide +kernel
theorem dX0_highest_25 : decode cX0_highest 25 = .ok (.ldc 32, 2) := by decide +kernel
theorem dX0_highest_27 : decode cX0_highest 27 = .ok (.ireturn, 1) := by decide +kernel
set_option maxRecDepth 20000 in
theorem ggX0_alternatingSum_X0_lowest : GoodIn wsX0_alternatingSum wsX0_lowest := goodIn_r _ [10, 1, 11, 12, 13, 9, 14, 15, 16, 17, 18, 19, 20] (by decide +kernel) (by decide +kernel)
set_option maxRecDepth 20000 in
theorem gX0_alternatingSum_X0_lowest : GoodIn wsX0_alternatingSum (wsV RX0 33 RX0 yX0_lowest wsX0_lowest) := goodIn_app (goodIn_of _ (by decide +kernel)) ggX0_alternatingSum_X0_lowest
set_option maxRecDepth 20000 in
theorem ggX0_alternatingSum_X0_at : GoodIn wsX0_alternatingSum wsX0_at := goodIn_r _ [14, 15, 16, 17, 18, 19, 20] (by decide +kernel) (by decide +kernel)
set_option maxRecDepth 20000 in
theorem gX0_alternatingSum_X0_at : GoodIn wsX0_alternatingSum (wsV RX0 28 RX0 yX0_at wsX0_at) := goodIn_app (goodIn_of _ (by decide +kernel)) ggX0_alternatingSum_X0_at
theorem dX0_alternatingSum_0 : decode cX0_alternatingSum 0 = .ok (.aload_n 0, 1) := by decide +kernel
theorem dX0_alternatingSum_1 : decode cX0_alternatingSum 1 = .ok (.invokevirtual 33, 3) := by decide +kernel
theorem dX0_alternatingSum_4 : decode cX0_alternatingSum 4 = .ok (.istore_n 1, 1) := by decide +kernel
theorem dX0_alternatingSum_5 : decode cX0_alternatingSum 5 = .ok (.iload_n 1, 1) := by decide +kernel
theorem dX0_alternatingSum_6 : decode cX0_alternatingSum 6 = .ok (.ldc 32, 2) := by decide +kernel
theorem dX0_alternatingSum_8 : decode cX0_alternatingSum 8 = .ok (.if_icmp .ne 5, 3) := by decide +kernel
theorem dX0_alternatingSum_11 : decode cX0_alternatingSum 11 = .ok (.iconst 0, 1) := by decide +kernel
theorem dX0_alternatingSum_12 : decode cX0_alternatingSum 12 = .ok (.ireturn, 1) := by decide +kernel
theorem dX0_alternatingSum_13 : decode cX0_alternatingSum 13 = .ok (.iconst 0, 1) := by decide +kernel
theorem dX0_alternatingSum_14 : decode cX0_alternatingSum 14 = .ok (.istore_n 2, 1) := by decide +kernel
theorem dX0_alternatingSum_15 : decode cX0_alternatingSum 15 = .ok (.iconst 1, 1) := by decide +kernel
theorem dX0_alternatingSum_16 : decode cX0_alternatingSum 16 = .ok (.istore_n 3, 1) := by decide +kernel
theorem dX0_alternatingSum_17 : decode cX0_alternatingSum 17 = .ok (.iload_n 1, 1) := by decide +kernel
theorem dX0_alternatingSum_18 : decode cX0_alternatingSum 18 = .ok (.istore 4, 2) := by decide +kernel
theorem dX0_alternatingSum_20 : decode cX0_alternatingSum 20 = .ok (.iload 4, 2) := by decide +kernel
theorem dX0_alternatingSum_22 : decode cX0_alternatingSum 22 = .ok (.bipush 60, 2) := by decide +kernel
theorem dX0_alternatingSum_24 : decode cX0_alternatingSum 24 = .ok (.if_icmp .gt 23, 3) := by decide +kernel
theorem dX0_alternatingSum_27 : decode cX0_alternatingSum 27 = .ok (.iload_n 2, 1) := by decide +kernel
theorem dX0_alternatingSum_28 : decode cX0_alternatingSum 28 = .ok (.iload_n 3, 1) := by decide +kernel
theorem dX0_alternatingSum_29 : decode cX0_alternatingSum 29 = .ok (.aload_n 0, 1) := by decide +kernel
theorem dX0_alternatingSum_30 : decode cX0_alternatingSum 30 = .ok (.iload 4, 2) := by decide +kernel
theorem dX0_alternatingSum_32 : decode cX0_alternatingSum 32 = .ok (.invokevirtual 28, 3) := by decide +kernel
theorem dX0_alternatingSum_35 : decode cX0_alternatingSum 35 = .ok (.imul, 1) := by decide +kernel
theorem dX0_alternatingSum_36 : decode cX0_alternatingSum 36 = .ok (.iadd, 1) := by decide +kernel
theorem dX0_alternatingSum_37 : decode cX0_alternatingSum 37 = .ok (.istore_n 2, 1) := by decide +kernel
theorem dX0_alternatingSum_38 : decode cX0_alternatingSum 38 = .ok (.iload_n 3, 1) := by decide +kernel
theorem dX0_alternatingSum_39 : decode cX0_alternatingSum 39 = .ok (.ineg, 1) := by decide +kernel
theorem dX0_alternatingSum_40 : decode cX0_alternatingSum 40 = .ok (.istore_n 3, 1) := by decide +kernel
theorem dX0_alternatingSum_41 : decode cX0_alternatingSum 41 = .ok (.iinc 4 4, 3) := by decide +kernel
theorem dX0_alternatingSum_44 : decode cX0_alternatingSum 44 = .ok (.goto (-24), 3) := by decide +kernel
theorem dX0_alternatingSum_47 : decode cX0_alternatingSum 47 = .ok (.iload_n 2, 1) := by decide +kernel
theorem dX0_alternatingSum_48 : decode cX0_alternatingSum 48 = .ok (.invokestatic 37, 3) := by decide +kernel
theorem dX0_alternatingSum_51 : decode cX0_alternatingSum 51 = .ok (.ireturn, 1) := by decide +kernel
set_option maxRecDepth 20000 in
theorem ggX0_loops_X0_noteOtherEnds : GoodIn wsX0_loops wsX0_noteOtherEnds := goodIn_r _ [5, 6, 7, 8, 9, 10, 11, 12, 13, 14, 15, 16, 17, 18, 19, 20, 21, 37, 38, 39, 40, 41, 42, 43, 44] (by decide +kernel) (by decide +kernel)
set_option maxRecDepth 20000 in
theorem gX0_loops_X0_noteOtherEnds : GoodIn wsX0_loops (wsV RX0 42 RX0 yX0_noteOtherEnds wsX0_noteOtherEnds) := goodIn_app (goodIn_of _ (by decide +kernel)) ggX0_loops_X0_noteOtherEnds
set_option maxRecDepth 20000 in
theorem ggX0_loops_X0_countLoops : GoodIn wsX0_loops wsX0_countLoops := goodIn_r _ [25, 26, 27, 18, 19, 10, 20, 21, 28, 29, 30, 31, 32, 33, 4, 34, 6, 35, 36, 42, 43, 44, 37, 38, 39, 40, 41] (by decide +kernel) (by decide +kernel)
set_option maxRecDepth 20000 in
theorem gX0_loops_X0_countLoops : GoodIn wsX0_loops (wsV RX0 46 RX0 yX0_countLoops wsX0_countLoops) := goodIn_app (goodIn_of _ (by decide +kernel)) ggX0_loops_X0_countLoops
theorem dX0_loops_0 : decode cX0_loops 0 = .ok (.aload_n 0, 1) := by decide +kernel
theorem dX0_loops_1 : decode cX0_loops 1 = .ok (.aload_n 1, 1) := by decide +kernel
theorem dX0_loops_2 : decode cX0_loops 2 = .ok (.invokevirtual 42, 3) := by decide +kernel
theorem dX0_loops_5 : decode cX0_loops 5 = .ok (.aload_n 0, 1) := by decide +kernel
theorem dX0_loops_6 : decode cX0_loops 6 = .ok (.aload_n 1, 1) := by decide +kernel
theorem dX0_loops_7 : decode cX0_loops 7 = .ok (.iload_n 2, 1) := by decide +kernel
theorem dX0_loops_8 : decode cX0_loops 8 = .ok (.invokevirtual 46, 3) := by decide +kernel
theorem dX0_loops_11 : decode cX0_loops 11 = .ok (.ireturn, 1) := by decide +kernel
set_option maxRecDepth 20000 in
theorem ggX0_prepare_X0_noteOtherEnds : GoodIn wsX0_prepare wsX0_noteOtherEnds := goodIn_r _ [7, 8, 9, 10, 11, 12, 13, 14, 15, 16, 17, 18, 19, 20, 21, 22, 23, 72, 73, 74, 75, 76, 77, 78, 79] (by decide +kernel) (by decide +kernel)
set_option maxRecDepth 20000 in
theorem gX0_prepare_X0_noteOtherEnds : GoodIn wsX0_prepare (wsV RX0 42 RX0 yX0_noteOtherEnds wsX0_noteOtherEnds) := goodIn_app (goodIn_of _ (by decide +kernel)) ggX0_prepare_X0_noteOtherEnds
set_option maxRecDepth 20000 in
theorem ggX0_prepare_X0_tallyStates : GoodIn wsX0_prepare wsX0_tallyStates := goodIn_r _ [27, 28, 2, 29, 30, 31, 6, 32, 33, 34, 20, 21, 12, 22, 23, 35, 36, 37, 38, 39, 40, 41, 8, 42, 43, 44, 45, 46, 47, 48, 49, 50, 51, 52, 53, 72, 73, 74, 75, 76, 77, 78, 79] (by decide +kernel) (by decide +kernel)
set_option maxRecDepth 20000 in
theorem gX0_prepare_X0_tallyStates : GoodIn wsX0_prepare (wsV RX0 50 RX0 yX0_tallyStates wsX0_tallyStates) := goodIn_app (goodIn_of _ (by decide +kernel)) ggX0_prepare_X0_tallyStates
set_option maxRecDepth 20000 in
theorem ggX0_prepare_X0_sumStates : GoodIn wsX0_prepare wsX0_sumStates := goodIn_r _ [57, 58, 59, 60, 61, 6, 62, 63, 64, 65, 66, 67, 51, 52, 53, 68, 69, 70, 71, 28, 72, 73, 74, 75, 76] (by decide +kernel) (by decide +kernel)
set_option maxRecDepth 20000 in
theorem gX0_prepare_X0_sumStates : GoodIn wsX0_prepare (wsV RX0 59 RX0 yX0_sumStates wsX0_sumStates) := goodIn_app (goodIn_of _ (by decide +kernel)) ggX0_prepare_X0_sumStates
theorem dX0_prepare_0 : decode cX0_prepare 0 = .ok (.aload_n 0, 1) := by decide +kernel
theorem dX0_prepare_1 : decode cX0_prepare 1 = .ok (.getfield 24, 3) := by decide +kernel
theorem dX0_prepare_4 : decode cX0_prepare 4 = .ok (.ifCond .eq 4, 3) := by decide +kernel
theorem dX0_prepare_7 : decode cX0_prepare 7 = .ok (.return_, 1) := by decide +kernel
theorem dX0_prepare_8 : decode cX0_prepare 8 = .ok (.aload_n 0, 1) := by decide +kernel
theorem dX0_prepare_9 : decode cX0_prepare 9 = .ok (.aload_n 1, 1) := by decide +kernel
theorem dX0_prepare_10 : decode cX0_prepare 10 = .ok (.invokevirtual 42, 3) := by decide +kernel
theorem dX0_prepare_13 : decode cX0_prepare 13 = .ok (.aload_n 0, 1) := by decide +kernel
theorem dX0_prepare_14 : decode cX0_prepare 14 = .ok (.aload_n 1, 1) := by decide +kernel
theorem dX0_prepare_15 : decode cX0_prepare 15 = .ok (.invokevirtual 50, 3) := by decide +kernel
theorem dX0_prepare_18 : decode cX0_prepare 18 = .ok (.aload_n 0, 1) := by decide +kernel
theorem dX0_prepare_19 : decode cX0_prepare 19 = .ok (.aload_n 1, 1) := by decide +kernel
theorem dX0_prepare_20 : decode cX0_prepare 20 = .ok (.getfield 53, 3) := by decide +kernel
theorem dX0_prepare_23 : decode cX0_prepare 23 = .ok (.invokevirtual 59, 3) := by decide +kernel
theorem dX0_prepare_26 : decode cX0_prepare 26 = .ok (.aload_n 0, 1) := by decide +kernel
theorem dX0_prepare_27 : decode cX0_prepare 27 = .ok (.iconst 1, 1) := by decide +kernel
theorem dX0_prepare_28 : decode cX0_prepare 28 = .ok (.putfield 24, 3) := by decide +kernel
theorem dX0_prepare_31 : decode cX0_prepare 31 = .ok (.return_, 1) := by decide +kernel
set_option maxRecDepth 20000 in
theorem ggX0_noteOtherEnds_X2_otherEnd : GoodIn wsX0_noteOtherEnds wsX2_otherEnd := goodIn_r _ [6, 7, 8, 9, 5, 10, 11, 12, 13, 14, 15, 16, 22, 23, 24] (by decide +kernel) (by decide +kernel)
set_option maxRecDepth 20000 in
theorem gX0_noteOtherEnds_X2_otherEnd : GoodIn wsX0_noteOtherEnds (wsV RX0 63 RX2 yX2_otherEnd wsX2_otherEnd) := goodIn_app (goodIn_of _ (by decide +kernel)) ggX0_noteOtherEnds_X2_otherEnd
theorem dX0_noteOtherEnds_0 : decode cX0_noteOtherEnds 0 = .ok (.iconst 0, 1) := by decide +kernel
theorem dX0_noteOtherEnds_1 : decode cX0_noteOtherEnds 1 = .ok (.istore_n 2, 1) := by decide +kernel
theorem dX0_noteOtherEnds_2 : decode cX0_noteOtherEnds 2 = .ok (.iload_n 2, 1) := by decide +kernel
theorem dX0_noteOtherEnds_3 : decode cX0_noteOtherEnds 3 = .ok (.bipush 32, 2) := by decide +kernel
theorem dX0_noteOtherEnds_5 : decode cX0_noteOtherEnds 5 = .ok (.if_icmp .ge 20, 3) := by decide +kernel
theorem dX0_noteOtherEnds_8 : decode cX0_noteOtherEnds 8 = .ok (.aload_n 0, 1) := by decide +kernel
theorem dX0_noteOtherEnds_9 : decode cX0_noteOtherEnds 9 = .ok (.getfield 11, 3) := by decide +kernel
theorem dX0_noteOtherEnds_12 : decode cX0_noteOtherEnds 12 = .ok (.iload_n 2, 1) := by decide +kernel
theorem dX0_noteOtherEnds_13 : decode cX0_noteOtherEnds 13 = .ok (.aload_n 1, 1) := by decide +kernel
theorem dX0_noteOtherEnds_14 : decode cX0_noteOtherEnds 14 = .ok (.iload_n 2, 1) := by decide +kernel
theorem dX0_noteOtherEnds_15 : decode cX0_noteOtherEnds 15 = .ok (.invokevirtual 63, 3) := by decide +kernel
theorem dX0_noteOtherEnds_18 : decode cX0_noteOtherEnds 18 = .ok (.iastore, 1) := by decide +kernel
theorem dX0_noteOtherEnds_19 : decode cX0_noteOtherEnds 19 = .ok (.iinc 2 1, 3) := by decide +kernel
theorem dX0_noteOtherEnds_22 : decode cX0_noteOtherEnds 22 = .ok (.goto (-20), 3) := by decide +kernel
theorem dX0_noteOtherEnds_25 : decode cX0_noteOtherEnds 25 = .ok (.return_, 1) := by decide +kernel
set_option maxRecDepth 20000 in
theorem ggX0_countLoops_X2_endCount : GoodIn wsX0_countLoops wsX2_endCount := goodIn_r _ [6, 7, 19, 20, 21] (by decide +kernel) (by decide +kernel)
set_option maxRecDepth 20000 in
theorem gX0_countLoops_X2_endCount : GoodIn wsX0_countLoops (wsV RX0 69 RX2 yX2_endCount wsX2_endCount) := goodIn_app (goodIn_of _ (by decide +kernel)) ggX0_countLoops_X2_endCount
set_option maxRecDepth 20000 in
theorem ggX0_countLoops_X9_contains : GoodIn wsX0_countLoops wsX9_contains := goodIn_r _ [10] (by decide +kernel) (by decide +kernel)
set_option maxRecDepth 20000 in
theorem gX0_countLoops_X9_contains_n72 : GoodIn wsX0_countLoops (wsX9_contains) := ggX0_countLoops_X9_contains
set_option maxRecDepth 20000 in
theorem ggX0_countLoops_X0_followLoop : GoodIn wsX0_countLoops wsX0_followLoop := goodIn_r _ [15, 16, 8, 9, 10, 17, 18, 22, 23, 24, 25, 26] (by decide +kernel) (by decide +kernel)
set_option maxRecDepth 20000 in
theorem gX0_countLoops_X0_followLoop : GoodIn wsX0_countLoops (wsV RX0 76 RX0 yX0_followLoop wsX0_followLoop) := goodIn_app (goodIn_of _ (by decide +kernel)) ggX0_countLoops_X0_followLoop
theorem dX0_countLoops_0 : decode cX0_countLoops 0 = .ok (.iconst 0, 1) := by decide +kernel
theorem dX0_countLoops_1 : decode cX0_countLoops 1 = .ok (.istore_n 3, 1) := by decide +kernel
theorem dX0_countLoops_2 : decode cX0_countLoops 2 = .ok (.aload_n 1, 1) := by decide +kernel
theorem dX0_countLoops_3 : decode cX0_countLoops 3 = .ok (.getfield 66, 3) := by decide +kernel
theorem dX0_countLoops_6 : decode cX0_countLoops 6 = .ok (.istore 4, 2) := by decide +kernel
theorem dX0_countLoops_8 : decode cX0_countLoops 8 = .ok (.aload_n 1, 1) := by decide +kernel
theorem dX0_countLoops_9 : decode cX0_countLoops 9 = .ok (.invokevirtual 69, 3) := by decide +kernel
theorem dX0_countLoops_12 : decode cX0_countLoops 12 = .ok (.istore 5, 2) := by decide +kernel
theorem dX0_countLoops_14 : decode cX0_countLoops 14 = .ok (.iconst 0, 1) := by decide +kernel
theorem dX0_countLoops_15 : decode cX0_countLoops 15 = .ok (.istore 6, 2) := by decide +kernel
theorem dX0_countLoops_17 : decode cX0_countLoops 17 = .ok (.iload 6, 2) := by decide +kernel
theorem dX0_countLoops_19 : decode cX0_countLoops 19 = .ok (.iload 5, 2) := by decide +kernel
theorem dX0_countLoops_21 : decode cX0_countLoops 21 = .ok (.if_icmp .ge 30, 3) := by decide +kernel
theorem dX0_countLoops_24 : decode cX0_countLoops 24 = .ok (.iload_n 3, 1) := by decide +kernel
theorem dX0_countLoops_25 : decode cX0_countLoops 25 = .ok (.iload 6, 2) := by decide +kernel
theorem dX0_countLoops_27 : decode cX0_countLoops 27 = .ok (.invokestatic 72, 3) := by decide +kernel
theorem dX0_countLoops_30 : decode cX0_countLoops 30 = .ok (.ifCond .ne 15, 3) := by decide +kernel
theorem dX0_countLoops_33 : decode cX0_countLoops 33 = .ok (.aload_n 0, 1) := by decide +kernel
theorem dX0_countLoops_34 : decode cX0_countLoops 34 = .ok (.iload 6, 2) := by decide +kernel
theorem dX0_countLoops_36 : decode cX0_countLoops 36 = .ok (.iload_n 2, 1) := by decide +kernel
theorem dX0_countLoops_37 : decode cX0_countLoops 37 = .ok (.iload_n 3, 1) := by decide +kernel
theorem dX0_countLoops_38 : decode cX0_countLoops 38 = .ok (.invokevirtual 76, 3) := by decide +kernel
theorem dX0_countLoops_41 : decode cX0_countLoops 41 = .ok (.istore_n 3, 1) := by decide +kernel
theorem dX0_countLoops_42 : decode cX0_countLoops 42 = .ok (.iinc 4 1, 3) := by decide +kernel
theorem dX0_countLoops_45 : decode cX0_countLoops 45 = .ok (.iinc 6 1, 3) := by decide +kernel
theorem dX0_countLoops_48 : decode cX0_countLoops 48 = .ok (.goto (-31), 3) := by decide +kernel
theorem dX0_countLoops_51 : decode cX0_countLoops 51 = .ok (.iload 4, 2) := by decide +kernel
theorem dX0_countLoops_53 : decode cX0_countLoops 53 = .ok (.ireturn, 1) := by decide +kernel
set_option maxRecDepth 20000 in
theorem ggX0_followLoop_X9_contains : GoodIn wsX0_followLoop wsX9_contains := goodIn_r _ [4] (by decide +kernel) (by decide +kernel)
set_option maxRecDepth 20000 in
theorem gX0_followLoop_X9_contains_n72 : GoodIn wsX0_followLoop (wsX9_contains) := ggX0_followLoop_X9_contains
set_option maxRecDepth 20000 in
theorem ggX0_followLoop_X9_bit : GoodIn wsX0_followLoop wsX9_bit := goodIn_r _ [6] (by decide +kernel) (by decide +kernel)
set_option maxRecDepth 20000 in
theorem gX0_followLoop_X9_bit_n80 : GoodIn wsX0_followLoop (wsX9_bit) := ggX0_followLoop_X9_bit
theorem dX0_followLoop_0 : decode cX0_followLoop 0 = .ok (.iload_n 3, 1) := by decide +kernel
theorem dX0_followLoop_1 : decode cX0_followLoop 1 = .ok (.istore 4, 2) := by decide +kernel
theorem dX0_followLoop_3 : decode cX0_followLoop 3 = .ok (.iload_n 1, 1) := by decide +kernel
theorem dX0_followLoop_4 : decode cX0_followLoop 4 = .ok (.istore 5, 2) := by decide +kernel
theorem dX0_followLoop_6 : decode cX0_followLoop 6 = .ok (.iconst 0, 1) := by decide +kernel
theorem dX0_followLoop_7 : decode cX0_followLoop 7 = .ok (.istore 6, 2) := by decide +kernel
theorem dX0_followLoop_9 : decode cX0_followLoop 9 = .ok (.iload 6, 2) := by decide +kernel
theorem dX0_followLoop_11 : decode cX0_followLoop 11 = .ok (.bipush 32, 2) := by decide +kernel
theorem dX0_followLoop_13 : decode cX0_followLoop 13 = .ok (.if_icmp .ge 84, 3) := by decide +kernel
theorem dX0_followLoop_16 : decode cX0_followLoop 16 = .ok (.iload 4, 2) := by decide +kernel
theorem dX0_followLoop_18 : decode cX0_followLoop 18 = .ok (.iload 5, 2) := by decide +kernel
theorem dX0_followLoop_20 : decode cX0_followLoop 20 = .ok (.invokestatic 72, 3) := by decide +kernel
theorem dX0_followLoop_23 : decode cX0_followLoop 23 = .ok (.ifCond .ne 74, 3) := by decide +kernel
theorem dX0_followLoop_26 : decode cX0_followLoop 26 = .ok (.iload_n 2, 1) := by decide +kernel
theorem dX0_followLoop_27 : decode cX0_followLoop 27 = .ok (.iload 5, 2) := by decide +kernel
theorem dX0_followLoop_29 : decode cX0_followLoop 29 = .ok (.iconst 2, 1) := by decide +kernel
theorem dX0_followLoop_30 : decode cX0_followLoop 30 = .ok (.ishr, 1) := by decide +kernel
theorem dX0_followLoop_31 : decode cX0_followLoop 31 = .ok (.invokestatic 72, 3) := by decide +kernel
theorem dX0_followLoop_34 : decode cX0_followLoop 34 = .ok (.ifCond .eq 10, 3) := by decide +kernel
theorem dX0_followLoop_37 : decode cX0_followLoop 37 = .ok (.iload 5, 2) := by decide +kernel
theorem dX0_followLoop_39 : decode cX0_followLoop 39 = .ok (.iconst 3, 1) := by decide +kernel
theorem dX0_followLoop_40 : decode cX0_followLoop 40 = .ok (.ixor, 1) := by decide +kernel
theorem dX0_followLoop_41 : decode cX0_followLoop 41 = .ok (.goto 7, 3) := by decide +kernel
theorem dX0_followLoop_44 : decode cX0_followLoop 44 = .ok (.iload 5, 2) := by decide +kernel
theorem dX0_followLoop_46 : decode cX0_followLoop 46 = .ok (.iconst 1, 1) := by decide +kernel
theorem dX0_followLoop_47 : decode cX0_followLoop 47 = .ok (.ixor, 1) := by decide +kernel
theorem dX0_followLoop_48 : decode cX0_followLoop 48 = .ok (.istore 7, 2) := by decide +kernel
theorem dX0_followLoop_50 : decode cX0_followLoop 50 = .ok (.iload 4, 2) := by decide +kernel
theorem dX0_followLoop_52 : decode cX0_followLoop 52 = .ok (.iload 5, 2) := by decide +kernel
theorem dX0_followLoop_54 : decode cX0_followLoop 54 = .ok (.invokestatic 80, 3) := by decide +kernel
theorem dX0_followLoop_57 : decode cX0_followLoop 57 = .ok (.iload 7, 2) := by decide +kernel
theorem dX0_followLoop_59 : decode cX0_followLoop 59 = .ok (.invokestatic 80, 3) := by decide +kernel
theorem dX0_followLoop_62 : decode cX0_followLoop 62 = .ok (.ior, 1) := by decide +kernel
theorem dX0_followLoop_63 : decode cX0_followLoop 63 = .ok (.ior, 1) := by decide +kernel
theorem dX0_followLoop_64 : decode cX0_followLoop 64 = .ok (.istore 4, 2) := by decide +kernel
theorem dX0_followLoop_66 : decode cX0_followLoop 66 = .ok (.iload 7, 2) := by decide +kernel
theorem dX0_followLoop_68 : decode cX0_followLoop 68 = .ok (.ifCond .lt 20, 3) := by decide +kernel
theorem dX0_followLoop_71 : decode cX0_followLoop 71 = .ok (.iload 7, 2) := by decide +kernel
theorem dX0_followLoop_73 : decode cX0_followLoop 73 = .ok (.bipush 32, 2) := by decide +kernel
theorem dX0_followLoop_75 : decode cX0_followLoop 75 = .ok (.if_icmp .ge 13, 3) := by decide +kernel
theorem dX0_followLoop_78 : decode cX0_followLoop 78 = .ok (.aload_n 0, 1) := by decide +kernel
theorem dX0_followLoop_79 : decode cX0_followLoop 79 = .ok (.getfield 11, 3) := by decide +kernel
theorem dX0_followLoop_82 : decode cX0_followLoop 82 = .ok (.iload 7, 2) := by decide +kernel
theorem dX0_followLoop_84 : decode cX0_followLoop 84 = .ok (.iaload, 1) := by decide +kernel
theorem dX0_followLoop_85 : decode cX0_followLoop 85 = .ok (.goto 4, 3) := by decide +kernel
theorem dX0_followLoop_88 : decode cX0_followLoop 88 = .ok (.iload_n 1, 1) := by decide +kernel
theorem dX0_followLoop_89 : decode cX0_followLoop 89 = .ok (.istore 5, 2) := by decide +kernel
theorem dX0_followLoop_91 : decode cX0_followLoop 91 = .ok (.iinc 6 1, 3) := by decide +kernel
theorem dX0_followLoop_94 : decode cX0_followLoop 94 = .ok (.goto (-85), 3) := by decide +kernel
theorem dX0_followLoop_97 : decode cX0_followLoop 97 = .ok (.iload 4, 2) := by decide +kernel
theorem dX0_followLoop_99 : decode cX0_followLoop 99 = .ok (.ireturn, 1) := by decide +kernel
theorem dX0_tallyIndex_0 : decode cX0_tallyIndex 0 = .ok (.iload_n 0, 1) := by decide +kernel
theorem dX0_tallyIndex_1 : decode cX0_tallyIndex 1 = .ok (.bipush 9, 2) := by decide +kernel
theorem dX0_tallyIndex_3 : decode cX0_tallyIndex 3 = .ok (.imul, 1) := by decide +kernel
theorem dX0_tallyIndex_4 : decode cX0_tallyIndex 4 = .ok (.iload_n 1, 1) := by decide +kernel
theorem dX0_tallyIndex_5 : decode cX0_tallyIndex 5 = .ok (.iadd, 1) := by decide +kernel
theorem dX0_tallyIndex_6 : decode cX0_tallyIndex 6 = .ok (.ireturn, 1) := by decide +kernel
set_option maxRecDepth 20000 in
theorem ggX0_tallyStates_X0_countLoops : GoodIn wsX0_tallyStates wsX0_countLoops := goodIn_r _ [7, 8, 9, 10, 11, 12, 13, 14, 15, 16, 17, 18, 19, 20, 6, 21, 22, 23, 24, 40, 41, 42, 35, 36, 37, 38, 39] (by decide +kernel) (by decide +kernel)
set_option maxRecDepth 20000 in
theorem gX0_tallyStates_X0_countLoops : GoodIn wsX0_tallyStates (wsV RX0 46 RX0 yX0_countLoops wsX0_countLoops) := goodIn_app (goodIn_of _ (by decide +kernel)) ggX0_tallyStates_X0_countLoops
set_option maxRecDepth 20000 in
theorem ggX0_tallyStates_J6_bitCount_0f7a4 : GoodIn wsX0_tallyStates wsJ6_bitCount_0f7a4 := goodIn_r _ [28, 29, 30, 31] (by decide +kernel) (by decide +kernel)
set_option maxRecDepth 20000 in
theorem gX0_tallyStates_J6_bitCount_0f7a4 : GoodIn wsX0_tallyStates (va_wsS RX0 83 yJ6_bitCount_0f7a4 wsJ6_bitCount_0f7a4) := goodIn_app (goodIn_of _ (by decide +kernel)) ggX0_tallyStates_J6_bitCount_0f7a4
set_option maxRecDepth 20000 in
theorem ggX0_tallyStates_X0_tallyIndex : GoodIn wsX0_tallyStates wsX0_tallyIndex := goodIn_r _ [34] (by decide +kernel) (by decide +kernel)
set_option maxRecDepth 20000 in
theorem gX0_tallyStates_X0_tallyIndex : GoodIn wsX0_tallyStates (va_wsS RX0 88 yX0_tallyIndex wsX0_tallyIndex) := goodIn_app (goodIn_of _ (by decide +kernel)) ggX0_tallyStates_X0_tallyIndex
theorem dX0_tallyStates_0 : decode cX0_tallyStates 0 = .ok (.iconst 0, 1) := by decide +kernel
theorem dX0_tallyStates_1 : decode cX0_tallyStates 1 = .ok (.istore_n 2, 1) := by decide +kernel
theorem dX0_tallyStates_2 : decode cX0_tallyStates 2 = .ok (.iload_n 2, 1) := by decide +kernel
theorem dX0_tallyStates_3 : decode cX0_tallyStates 3 = .ok (.sipush 189, 3) := by decide +kernel
theorem dX0_tallyStates_6 : decode cX0_tallyStates 6 = .ok (.if_icmp .ge 16, 3) := by decide +kernel
theorem dX0_tallyStates_9 : decode cX0_tallyStates 9 = .ok (.aload_n 0, 1) := by decide +kernel
theorem dX0_tallyStates_10 : decode cX0_tallyStates 10 = .ok (.getfield 15, 3) := by decide +kernel
theorem dX0_tallyStates_13 : decode cX0_tallyStates 13 = .ok (.iload_n 2, 1) := by decide +kernel
theorem dX0_tallyStates_14 : decode cX0_tallyStates 14 = .ok (.iconst 0, 1) := by decide +kernel
theorem dX0_tallyStates_15 : decode cX0_tallyStates 15 = .ok (.iastore, 1) := by decide +kernel
theorem dX0_tallyStates_16 : decode cX0_tallyStates 16 = .ok (.iinc 2 1, 3) := by decide +kernel
theorem dX0_tallyStates_19 : decode cX0_tallyStates 19 = .ok (.goto (-17), 3) := by decide +kernel
theorem dX0_tallyStates_22 : decode cX0_tallyStates 22 = .ok (.iconst 1, 1) := by decide +kernel
theorem dX0_tallyStates_23 : decode cX0_tallyStates 23 = .ok (.aload_n 1, 1) := by decide +kernel
theorem dX0_tallyStates_24 : decode cX0_tallyStates 24 = .ok (.getfield 53, 3) := by decide +kernel
theorem dX0_tallyStates_27 : decode cX0_tallyStates 27 = .ok (.ishl, 1) := by decide +kernel
theorem dX0_tallyStates_28 : decode cX0_tallyStates 28 = .ok (.istore_n 2, 1) := by decide +kernel
theorem dX0_tallyStates_29 : decode cX0_tallyStates 29 = .ok (.iconst 0, 1) := by decide +kernel
theorem dX0_tallyStates_30 : decode cX0_tallyStates 30 = .ok (.istore_n 3, 1) := by decide +kernel
theorem dX0_tallyStates_31 : decode cX0_tallyStates 31 = .ok (.iload_n 3, 1) := by decide +kernel
theorem dX0_tallyStates_32 : decode cX0_tallyStates 32 = .ok (.iload_n 2, 1) := by decide +kernel
theorem dX0_tallyStates_33 : decode cX0_tallyStates 33 = .ok (.if_icmp .ge 48, 3) := by decide +kernel
theorem dX0_tallyStates_36 : decode cX0_tallyStates 36 = .ok (.aload_n 0, 1) := by decide +kernel
theorem dX0_tallyStates_37 : decode cX0_tallyStates 37 = .ok (.aload_n 1, 1) := by decide +kernel
theorem dX0_tallyStates_38 : decode cX0_tallyStates 38 = .ok (.iload_n 3, 1) := by decide +kernel
theorem dX0_tallyStates_39 : decode cX0_tallyStates 39 = .ok (.invokevirtual 46, 3) := by decide +kernel
theorem dX0_tallyStates_42 : decode cX0_tallyStates 42 = .ok (.iload_n 3, 1) := by decide +kernel
theorem dX0_tallyStates_43 : decode cX0_tallyStates 43 = .ok (.invokestatic 83, 3) := by decide +kernel
theorem dX0_tallyStates_46 : decode cX0_tallyStates 46 = .ok (.invokestatic 88, 3) := by decide +kernel
theorem dX0_tallyStates_49 : decode cX0_tallyStates 49 = .ok (.istore 4, 2) := by decide +kernel
theorem dX0_tallyStates_51 : decode cX0_tallyStates 51 = .ok (.iload 4, 2) := by decide +kernel
theorem dX0_tallyStates_53 : decode cX0_tallyStates 53 = .ok (.ifCond .lt 22, 3) := by decide +kernel
theorem dX0_tallyStates_56 : decode cX0_tallyStates 56 = .ok (.iload 4, 2) := by decide +kernel
theorem dX0_tallyStates_58 : decode cX0_tallyStates 58 = .ok (.sipush 189, 3) := by decide +kernel
theorem dX0_tallyStates_61 : decode cX0_tallyStates 61 = .ok (.if_icmp .ge 14, 3) := by decide +kernel
theorem dX0_tallyStates_64 : decode cX0_tallyStates 64 = .ok (.aload_n 0, 1) := by decide +kernel
theorem dX0_tallyStates_65 : decode cX0_tallyStates 65 = .ok (.getfield 15, 3) := by decide +kernel
theorem dX0_tallyStates_68 : decode cX0_tallyStates 68 = .ok (.iload 4, 2) := by decide +kernel
theorem dX0_tallyStates_70 : decode cX0_tallyStates 70 = .ok (.dup2, 1) := by decide +kernel
theorem dX0_tallyStates_71 : decode cX0_tallyStates 71 = .ok (.iaload, 1) := by decide +kernel
theorem dX0_tallyStates_72 : decode cX0_tallyStates 72 = .ok (.iconst 1, 1) := by decide +kernel
theorem dX0_tallyStates_73 : decode cX0_tallyStates 73 = .ok (.iadd, 1) := by decide +kernel
theorem dX0_tallyStates_74 : decode cX0_tallyStates 74 = .ok (.iastore, 1) := by decide +kernel
theorem dX0_tallyStates_75 : decode cX0_tallyStates 75 = .ok (.iinc 3 1, 3) := by decide +kernel
theorem dX0_tallyStates_78 : decode cX0_tallyStates 78 = .ok (.goto (-47), 3) := by decide +kernel
theorem dX0_tallyStates_81 : decode cX0_tallyStates 81 = .ok (.return_, 1) := by decide +kernel
set_option maxRecDepth 20000 in
theorem ggX0_sumStates_X0_multiplyByD : GoodIn wsX0_sumStates wsX0_multiplyByD := goodIn_r _ [6, 7, 1, 8, 9, 10, 5, 11, 20, 21, 22, 23, 24] (by decide +kernel) (by decide +kernel)
set_option maxRecDepth 20000 in
theorem gX0_sumStates_X0_multiplyByD : GoodIn wsX0_sumStates (wsV RX0 92 RX0 yX0_multiplyByD wsX0_multiplyByD) := goodIn_app (goodIn_of _ (by decide +kernel)) ggX0_sumStates_X0_multiplyByD
set_option maxRecDepth 20000 in
theorem ggX0_sumStates_X0_tallyIndex : GoodIn wsX0_sumStates wsX0_tallyIndex := goodIn_r _ [14] (by decide +kernel) (by decide +kernel)
set_option maxRecDepth 20000 in
theorem gX0_sumStates_X0_tallyIndex : GoodIn wsX0_sumStates (va_wsS RX0 88 yX0_tallyIndex wsX0_tallyIndex) := goodIn_app (goodIn_of _ (by decide +kernel)) ggX0_sumStates_X0_tallyIndex
set_option maxRecDepth 20000 in
theorem ggX0_sumStates_X0_addTally : GoodIn wsX0_sumStates wsX0_addTally := goodIn_r _ [18, 1, 19, 20, 21, 22, 23, 24] (by decide +kernel) (by decide +kernel)
set_option maxRecDepth 20000 in
theorem gX0_sumStates_X0_addTally : GoodIn wsX0_sumStates (wsV RX0 95 RX0 yX0_addTally wsX0_addTally) := goodIn_app (goodIn_of _ (by decide +kernel)) ggX0_sumStates_X0_addTally
theorem dX0_sumStates_0 : decode cX0_sumStates 0 = .ok (.iconst 0, 1) := by decide +kernel
theorem dX0_sumStates_1 : decode cX0_sumStates 1 = .ok (.istore_n 2, 1) := by decide +kernel
theorem dX0_sumStates_2 : decode cX0_sumStates 2 = .ok (.iload_n 2, 1) := by decide +kernel
theorem dX0_sumStates_3 : decode cX0_sumStates 3 = .ok (.bipush 121, 2) := by decide +kernel
theorem dX0_sumStates_5 : decode cX0_sumStates 5 = .ok (.if_icmp .ge 16, 3) := by decide +kernel
theorem dX0_sumStates_8 : decode cX0_sumStates 8 = .ok (.aload_n 0, 1) := by decide +kernel
theorem dX0_sumStates_9 : decode cX0_sumStates 9 = .ok (.getfield 18, 3) := by decide +kernel
theorem dX0_sumStates_12 : decode cX0_sumStates 12 = .ok (.iload_n 2, 1) := by decide +kernel
theorem dX0_sumStates_13 : decode cX0_sumStates 13 = .ok (.iconst 0, 1) := by decide +kernel
theorem dX0_sumStates_14 : decode cX0_sumStates 14 = .ok (.iastore, 1) := by decide +kernel
theorem dX0_sumStates_15 : decode cX0_sumStates 15 = .ok (.iinc 2 1, 3) := by decide +kernel
theorem dX0_sumStates_18 : decode cX0_sumStates 18 = .ok (.goto (-16), 3) := by decide +kernel
theorem dX0_sumStates_21 : decode cX0_sumStates 21 = .ok (.bipush 20, 2) := by decide +kernel
theorem dX0_sumStates_23 : decode cX0_sumStates 23 = .ok (.istore_n 2, 1) := by decide +kernel
theorem dX0_sumStates_24 : decode cX0_sumStates 24 = .ok (.iload_n 2, 1) := by decide +kernel
theorem dX0_sumStates_25 : decode cX0_sumStates 25 = .ok (.iconst 1, 1) := by decide +kernel
theorem dX0_sumStates_26 : decode cX0_sumStates 26 = .ok (.if_icmp .lt 40, 3) := by decide +kernel
theorem dX0_sumStates_29 : decode cX0_sumStates 29 = .ok (.aload_n 0, 1) := by decide +kernel
theorem dX0_sumStates_30 : decode cX0_sumStates 30 = .ok (.invokevirtual 92, 3) := by decide +kernel
theorem dX0_sumStates_33 : decode cX0_sumStates 33 = .ok (.iconst 0, 1) := by decide +kernel
theorem dX0_sumStates_34 : decode cX0_sumStates 34 = .ok (.istore_n 3, 1) := by decide +kernel
theorem dX0_sumStates_35 : decode cX0_sumStates 35 = .ok (.iload_n 3, 1) := by decide +kernel
theorem dX0_sumStates_36 : decode cX0_sumStates 36 = .ok (.iload_n 1, 1) := by decide +kernel
theorem dX0_sumStates_37 : decode cX0_sumStates 37 = .ok (.if_icmp .gt 23, 3) := by decide +kernel
theorem dX0_sumStates_40 : decode cX0_sumStates 40 = .ok (.aload_n 0, 1) := by decide +kernel
theorem dX0_sumStates_41 : decode cX0_sumStates 41 = .ok (.iload_n 2, 1) := by decide +kernel
theorem dX0_sumStates_42 : decode cX0_sumStates 42 = .ok (.iload_n 3, 1) := by decide +kernel
theorem dX0_sumStates_43 : decode cX0_sumStates 43 = .ok (.invokestatic 88, 3) := by decide +kernel
theorem dX0_sumStates_46 : decode cX0_sumStates 46 = .ok (.iload_n 1, 1) := by decide +kernel
theorem dX0_sumStates_47 : decode cX0_sumStates 47 = .ok (.iconst 2, 1) := by decide +kernel
theorem dX0_sumStates_48 : decode cX0_sumStates 48 = .ok (.iload_n 3, 1) := by decide +kernel
theorem dX0_sumStates_49 : decode cX0_sumStates 49 = .ok (.imul, 1) := by decide +kernel
theorem dX0_sumStates_50 : decode cX0_sumStates 50 = .ok (.isub, 1) := by decide +kernel
theorem dX0_sumStates_51 : decode cX0_sumStates 51 = .ok (.invokevirtual 95, 3) := by decide +kernel
theorem dX0_sumStates_54 : decode cX0_sumStates 54 = .ok (.iinc 3 1, 3) := by decide +kernel
theorem dX0_sumStates_57 : decode cX0_sumStates 57 = .ok (.goto (-22), 3) := by decide +kernel
theorem dX0_sumStates_60 : decode cX0_sumStates 60 = .ok (.iinc 2 (-1), 3) := by decide +kernel
theorem dX0_sumStates_63 : decode cX0_sumStates 63 = .ok (.goto (-39), 3) := by decide +kernel
theorem dX0_sumStates_66 : decode cX0_sumStates 66 = .ok (.return_, 1) := by decide +kernel
theorem dX0_addTally_0 : decode cX0_addTally 0 = .ok (.iload_n 2, 1) := by decide +kernel
theorem dX0_addTally_1 : decode cX0_addTally 1 = .ok (.bipush 60, 2) := by decide +kernel
theorem dX0_addTally_3 : decode cX0_addTally 3 = .ok (.iadd, 1) := by decide +kernel
theorem dX0_addTally_4 : decode cX0_addTally 4 = .ok (.istore_n 3, 1) := by decide +kernel
theorem dX0_addTally_5 : decode cX0_addTally 5 = .ok (.iload_n 1, 1) := by decide +kernel
theorem dX0_addTally_6 : decode cX0_addTally 6 = .ok (.ifCond .lt 35, 3) := by decide +kernel
theorem dX0_addTally_9 : decode cX0_addTally 9 = .ok (.iload_n 1, 1) := by decide +kernel
theorem dX0_addTally_10 : decode cX0_addTally 10 = .ok (.sipush 189, 3) := by decide +kernel
theorem dX0_addTally_13 : decode cX0_addTally 13 = .ok (.if_icmp .ge 28, 3) := by decide +kernel
theorem dX0_addTally_16 : decode cX0_addTally 16 = .ok (.iload_n 3, 1) := by decide +kernel
theorem dX0_addTally_17 : decode cX0_addTally 17 = .ok (.ifCond .lt 24, 3) := by decide +kernel
theorem dX0_addTally_20 : decode cX0_addTally 20 = .ok (.iload_n 3, 1) := by decide +kernel
theorem dX0_addTally_21 : decode cX0_addTally 21 = .ok (.bipush 121, 2) := by decide +kernel
theorem dX0_addTally_23 : decode cX0_addTally 23 = .ok (.if_icmp .ge 18, 3) := by decide +kernel
theorem dX0_addTally_26 : decode cX0_addTally 26 = .ok (.aload_n 0, 1) := by decide +kernel
theorem dX0_addTally_27 : decode cX0_addTally 27 = .ok (.getfield 18, 3) := by decide +kernel
theorem dX0_addTally_30 : decode cX0_addTally 30 = .ok (.iload_n 3, 1) := by decide +kernel
theorem dX0_addTally_31 : decode cX0_addTally 31 = .ok (.dup2, 1) := by decide +kernel
theorem dX0_addTally_32 : decode cX0_addTally 32 = .ok (.iaload, 1) := by decide +kernel
theorem dX0_addTally_33 : decode cX0_addTally 33 = .ok (.aload_n 0, 1) := by decide +kernel
theorem dX0_addTally_34 : decode cX0_addTally 34 = .ok (.getfield 15, 3) := by decide +kernel
theorem dX0_addTally_37 : decode cX0_addTally 37 = .ok (.iload_n 1, 1) := by decide +kernel
theorem dX0_addTally_38 : decode cX0_addTally 38 = .ok (.iaload, 1) := by decide +kernel
theorem dX0_addTally_39 : decode cX0_addTally 39 = .ok (.iadd, 1) := by decide +kernel
theorem dX0_addTally_40 : decode cX0_addTally 40 = .ok (.iastore, 1) := by decide +kernel
theorem dX0_addTally_41 : decode cX0_addTally 41 = .ok (.return_, 1) := by decide +kernel
set_option maxRecDepth 20000 in
theorem ggX0_multiplyByD_X0_at : GoodIn wsX0_multiplyByD wsX0_at := goodIn_r _ [7, 2, 8, 9, 10, 11, 12] (by decide +kernel) (by decide +kernel)
set_option maxRecDepth 20000 in
theorem gX0_multiplyByD_X0_at : GoodIn wsX0_multiplyByD (wsV RX0 28 RX0 yX0_at wsX0_at) := goodIn_app (goodIn_of _ (by decide +kernel)) ggX0_multiplyByD_X0_at
theorem dX0_multiplyByD_0 : decode cX0_multiplyByD 0 = .ok (.iconst 0, 1) := by decide +kernel
theorem dX0_multiplyByD_1 : decode cX0_multiplyByD 1 = .ok (.istore_n 1, 1) := by decide +kernel
theorem dX0_multiplyByD_2 : decode cX0_multiplyByD 2 = .ok (.iload_n 1, 1) := by decide +kernel
theorem dX0_multiplyByD_3 : decode cX0_multiplyByD 3 = .ok (.bipush 121, 2) := by decide +kernel
theorem dX0_multiplyByD_5 : decode cX0_multiplyByD 5 = .ok (.if_icmp .ge 36, 3) := by decide +kernel
theorem dX0_multiplyByD_8 : decode cX0_multiplyByD 8 = .ok (.iload_n 1, 1) := by decide +kernel
theorem dX0_multiplyByD_9 : decode cX0_multiplyByD 9 = .ok (.bipush 60, 2) := by decide +kernel
theorem dX0_multiplyByD_11 : decode cX0_multiplyByD 11 = .ok (.isub, 1) := by decide +kernel
theorem dX0_multiplyByD_12 : decode cX0_multiplyByD 12 = .ok (.istore_n 2, 1) := by decide +kernel
theorem dX0_multiplyByD_13 : decode cX0_multiplyByD 13 = .ok (.aload_n 0, 1) := by decide +kernel
theorem dX0_multiplyByD_14 : decode cX0_multiplyByD 14 = .ok (.getfield 21, 3) := by decide +kernel
theorem dX0_multiplyByD_17 : decode cX0_multiplyByD 17 = .ok (.iload_n 1, 1) := by decide +kernel
theorem dX0_multiplyByD_18 : decode cX0_multiplyByD 18 = .ok (.aload_n 0, 1) := by decide +kernel
theorem dX0_multiplyByD_19 : decode cX0_multiplyByD 19 = .ok (.iload_n 2, 1) := by decide +kernel
theorem dX0_multiplyByD_20 : decode cX0_multiplyByD 20 = .ok (.iconst 2, 1) := by decide +kernel
theorem dX0_multiplyByD_21 : decode cX0_multiplyByD 21 = .ok (.isub, 1) := by decide +kernel
theorem dX0_multiplyByD_22 : decode cX0_multiplyByD 22 = .ok (.invokevirtual 28, 3) := by decide +kernel
theorem dX0_multiplyByD_25 : decode cX0_multiplyByD 25 = .ok (.ineg, 1) := by decide +kernel
theorem dX0_multiplyByD_26 : decode cX0_multiplyByD 26 = .ok (.aload_n 0, 1) := by decide +kernel
theorem dX0_multiplyByD_27 : decode cX0_multiplyByD 27 = .ok (.iload_n 2, 1) := by decide +kernel
theorem dX0_multiplyByD_28 : decode cX0_multiplyByD 28 = .ok (.iconst 2, 1) := by decide +kernel
theorem dX0_multiplyByD_29 : decode cX0_multiplyByD 29 = .ok (.iadd, 1) := by decide +kernel
theorem dX0_multiplyByD_30 : decode cX0_multiplyByD 30 = .ok (.invokevirtual 28, 3) := by decide +kernel
theorem dX0_multiplyByD_33 : decode cX0_multiplyByD 33 = .ok (.isub, 1) := by decide +kernel
theorem dX0_multiplyByD_34 : decode cX0_multiplyByD 34 = .ok (.iastore, 1) := by decide +kernel
theorem dX0_multiplyByD_35 : decode cX0_multiplyByD 35 = .ok (.iinc 1 1, 3) := by decide +kernel
theorem dX0_multiplyByD_38 : decode cX0_multiplyByD 38 = .ok (.goto (-36), 3) := by decide +kernel
theorem dX0_multiplyByD_41 : decode cX0_multiplyByD 41 = .ok (.iconst 0, 1) := by decide +kernel
theorem dX0_multiplyByD_42 : decode cX0_multiplyByD 42 = .ok (.istore_n 1, 1) := by decide +kernel
theorem dX0_multiplyByD_43 : decode cX0_multiplyByD 43 = .ok (.iload_n 1, 1) := by decide +kernel
theorem dX0_multiplyByD_44 : decode cX0_multiplyByD 44 = .ok (.bipush 121, 2) := by decide +kernel
theorem dX0_multiplyByD_46 : decode cX0_multiplyByD 46 = .ok (.if_icmp .ge 21, 3) := by decide +kernel
theorem dX0_multiplyByD_49 : decode cX0_multiplyByD 49 = .ok (.aload_n 0, 1) := by decide +kernel
theorem dX0_multiplyByD_50 : decode cX0_multiplyByD 50 = .ok (.getfield 18, 3) := by decide +kernel
theorem dX0_multiplyByD_53 : decode cX0_multiplyByD 53 = .ok (.iload_n 1, 1) := by decide +kernel
theorem dX0_multiplyByD_54 : decode cX0_multiplyByD 54 = .ok (.aload_n 0, 1) := by decide +kernel
theorem dX0_multiplyByD_55 : decode cX0_multiplyByD 55 = .ok (.getfield 21, 3) := by decide +kernel
theorem dX0_multiplyByD_58 : decode cX0_multiplyByD 58 = .ok (.iload_n 1, 1) := by decide +kernel
theorem dX0_multiplyByD_59 : decode cX0_multiplyByD 59 = .ok (.iaload, 1) := by decide +kernel
theorem dX0_multiplyByD_60 : decode cX0_multiplyByD 60 = .ok (.iastore, 1) := by decide +kernel
theorem dX0_multiplyByD_61 : decode cX0_multiplyByD 61 = .ok (.iinc 1 1, 3) := by decide +kernel
theorem dX0_multiplyByD_64 : decode cX0_multiplyByD 64 = .ok (.goto (-21), 3) := by decide +kernel
theorem dX0_multiplyByD_67 : decode cX0_multiplyByD 67 = .ok (.return_, 1) := by decide +kernel
theorem dX1_init_0 : decode cX1_init 0 = .ok (.aload_n 0, 1) := by decide +kernel
theorem dX1_init_1 : decode cX1_init 1 = .ok (.invokespecial 5, 3) := by decide +kernel
theorem dX1_init_4 : decode cX1_init 4 = .ok (.aload_n 0, 1) := by decide +kernel
theorem dX1_init_5 : decode cX1_init 5 = .ok (.bipush 17, 2) := by decide +kernel
theorem dX1_init_7 : decode cX1_init 7 = .ok (.newarray .int, 2) := by decide +kernel
theorem dX1_init_9 : decode cX1_init 9 = .ok (.putfield 11, 3) := by decide +kernel
theorem dX1_init_12 : decode cX1_init 12 = .ok (.aload_n 0, 1) := by decide +kernel
theorem dX1_init_13 : decode cX1_init 13 = .ok (.sipush 136, 3) := by decide +kernel
theorem dX1_init_16 : decode cX1_init 16 = .ok (.newarray .int, 2) := by decide +kernel
theorem dX1_init_18 : decode cX1_init 18 = .ok (.putfield 15, 3) := by decide +kernel
theorem dX1_init_21 : decode cX1_init 21 = .ok (.return_, 1) := by decide +kernel
set_option maxRecDepth 20000 in
theorem ggX1_dimension_X1_uniteOverArcs : GoodIn wsX1_dimension wsX1_uniteOverArcs := goodIn_r _ [7, 8, 2, 9, 10, 11, 12, 13, 14, 15, 16, 17, 18, 19, 20, 21, 22, 23, 24, 6, 25, 26, 27, 28, 29, 84, 85, 81, 82, 83] (by decide +kernel) (by decide +kernel)
set_option maxRecDepth 20000 in
theorem gX1_dimension_X1_uniteOverArcs : GoodIn wsX1_dimension (wsV RX1 18 RX1 yX1_uniteOverArcs wsX1_uniteOverArcs) := goodIn_app (goodIn_of _ (by decide +kernel)) ggX1_dimension_X1_uniteOverArcs
set_option maxRecDepth 20000 in
theorem ggX1_dimension_X1_writeEquations : GoodIn wsX1_dimension wsX1_writeEquations := goodIn_r _ [33, 34, 2, 16, 17, 18, 19, 20, 21, 35, 36, 37, 6, 38, 22, 23, 24, 25, 8, 39, 40, 41, 42, 43, 44, 45, 46, 47, 48, 49, 50, 84, 85, 81, 82, 83] (by decide +kernel) (by decide +kernel)
set_option maxRecDepth 20000 in
theorem gX1_dimension_X1_writeEquations : GoodIn wsX1_dimension (wsV RX1 22 RX1 yX1_writeEquations wsX1_writeEquations) := goodIn_app (goodIn_of _ (by decide +kernel)) ggX1_dimension_X1_writeEquations
set_option maxRecDepth 20000 in
theorem ggX1_dimension_X1_countClasses : GoodIn wsX1_dimension wsX1_countClasses := goodIn_r _ [54, 22, 23, 24, 6, 25, 8, 55, 56, 57, 19, 58, 59, 60, 61, 62, 63, 64, 17, 18, 20, 21, 84, 85, 81, 82, 83] (by decide +kernel) (by decide +kernel)
set_option maxRecDepth 20000 in
theorem gX1_dimension_X1_countClasses : GoodIn wsX1_dimension (wsV RX1 26 RX1 yX1_countClasses wsX1_countClasses) := goodIn_app (goodIn_of _ (by decide +kernel)) ggX1_dimension_X1_countClasses
set_option maxRecDepth 20000 in
theorem ggX1_dimension_X1_rank : GoodIn wsX1_dimension wsX1_rank := goodIn_r _ [68, 69, 70, 71, 6, 72, 39, 40, 41, 42, 34, 73, 74, 75, 76, 43, 44, 45, 46, 47, 48, 49, 50, 77, 78, 79, 80, 84, 85] (by decide +kernel) (by decide +kernel)
set_option maxRecDepth 20000 in
theorem gX1_dimension_X1_rank : GoodIn wsX1_dimension (wsV RX1 39 RX1 yX1_rank wsX1_rank) := goodIn_app (goodIn_of _ (by decide +kernel)) ggX1_dimension_X1_rank
theorem dX1_dimension_0 : decode cX1_dimension 0 = .ok (.aload_n 0, 1) := by decide +kernel
theorem dX1_dimension_1 : decode cX1_dimension 1 = .ok (.aload_n 1, 1) := by decide +kernel
theorem dX1_dimension_2 : decode cX1_dimension 2 = .ok (.invokevirtual 18, 3) := by decide +kernel
theorem dX1_dimension_5 : decode cX1_dimension 5 = .ok (.aload_n 0, 1) := by decide +kernel
theorem dX1_dimension_6 : decode cX1_dimension 6 = .ok (.aload_n 1, 1) := by decide +kernel
theorem dX1_dimension_7 : decode cX1_dimension 7 = .ok (.iload_n 2, 1) := by decide +kernel
theorem dX1_dimension_8 : decode cX1_dimension 8 = .ok (.invokevirtual 22, 3) := by decide +kernel
theorem dX1_dimension_11 : decode cX1_dimension 11 = .ok (.aload_n 0, 1) := by decide +kernel
theorem dX1_dimension_12 : decode cX1_dimension 12 = .ok (.aload_n 1, 1) := by decide +kernel
theorem dX1_dimension_13 : decode cX1_dimension 13 = .ok (.invokevirtual 26, 3) := by decide +kernel
theorem dX1_dimension_16 : decode cX1_dimension 16 = .ok (.aload_n 1, 1) := by decide +kernel
theorem dX1_dimension_17 : decode cX1_dimension 17 = .ok (.getfield 30, 3) := by decide +kernel
theorem dX1_dimension_20 : decode cX1_dimension 20 = .ok (.iadd, 1) := by decide +kernel
theorem dX1_dimension_21 : decode cX1_dimension 21 = .ok (.aload_n 0, 1) := by decide +kernel
theorem dX1_dimension_22 : decode cX1_dimension 22 = .ok (.aload_n 1, 1) := by decide +kernel
theorem dX1_dimension_23 : decode cX1_dimension 23 = .ok (.getfield 36, 3) := by decide +kernel
theorem dX1_dimension_26 : decode cX1_dimension 26 = .ok (.iload_n 2, 1) := by decide +kernel
theorem dX1_dimension_27 : decode cX1_dimension 27 = .ok (.invokevirtual 39, 3) := by decide +kernel
theorem dX1_dimension_30 : decode cX1_dimension 30 = .ok (.isub, 1) := by decide +kernel
theorem dX1_dimension_31 : decode cX1_dimension 31 = .ok (.ireturn, 1) := by decide +kernel
theorem dX1_classOf_0 : decode cX1_classOf 0 = .ok (.iload_n 1, 1) := by decide +kernel
theorem dX1_classOf_1 : decode cX1_classOf 1 = .ok (.ifCond .lt 18, 3) := by decide +kernel
theorem dX1_classOf_4 : decode cX1_classOf 4 = .ok (.iload_n 1, 1) := by decide +kernel
theorem dX1_classOf_5 : decode cX1_classOf 5 = .ok (.bipush 17, 2) := by decide +kernel
theorem dX1_classOf_7 : decode cX1_classOf 7 = .ok (.if_icmp .ge 12, 3) := by decide +kernel
theorem dX1_classOf_10 : decode cX1_classOf 10 = .ok (.aload_n 0, 1) := by decide +kernel
theorem dX1_classOf_11 : decode cX1_classOf 11 = .ok (.getfield 11, 3) := by decide +kernel
theorem dX1_classOf_14 : decode cX1_classOf 14 = .ok (.iload_n 1, 1) := by decide +kernel
theorem dX1_classOf_15 : decode cX1_classOf 15 = .ok (.iaload, 1) := by decide +kernel
theorem dX1_classOf_16 : decode cX1_classOf 16 = .ok (.goto 4, 3) := by decide +kernel
theorem dX1_classOf_19 : decode cX1_classOf 19 = .ok (.iconst 0, 1) := by decide +kernel
theorem dX1_classOf_20 : decode cX1_classOf 20 = .ok (.ireturn, 1) := by decide +kernel
set_option maxRecDepth 20000 in
theorem ggX1_uniteOverArcs_X2_arc : GoodIn wsX1_uniteOverArcs wsX2_arc := goodIn_r _ [14, 15, 27, 28, 29] (by decide +kernel) (by decide +kernel)
set_option maxRecDepth 20000 in
theorem gX1_uniteOverArcs_X2_arc : GoodIn wsX1_uniteOverArcs (wsV RX1 43 RX2 yX2_arc wsX2_arc) := goodIn_app (goodIn_of _ (by decide +kernel)) ggX1_uniteOverArcs_X2_arc
set_option maxRecDepth 20000 in
theorem ggX1_uniteOverArcs_X1_classOf : GoodIn wsX1_uniteOverArcs wsX1_classOf := goodIn_r _ [20, 1, 25, 26] (by decide +kernel) (by decide +kernel)
set_option maxRecDepth 20000 in
theorem gX1_uniteOverArcs_X1_classOf : GoodIn wsX1_uniteOverArcs (wsV RX1 47 RX1 yX1_classOf wsX1_classOf) := goodIn_app (goodIn_of _ (by decide +kernel)) ggX1_uniteOverArcs_X1_classOf
set_option maxRecDepth 20000 in
theorem ggX1_uniteOverArcs_X1_unite : GoodIn wsX1_uniteOverArcs wsX1_unite := goodIn_r _ [24, 1, 25, 26] (by decide +kernel) (by decide +kernel)
set_option maxRecDepth 20000 in
theorem gX1_uniteOverArcs_X1_unite : GoodIn wsX1_uniteOverArcs (wsV RX1 58 RX1 yX1_unite wsX1_unite) := goodIn_app (goodIn_of _ (by decide +kernel)) ggX1_uniteOverArcs_X1_unite
theorem dX1_uniteOverArcs_0 : decode cX1_uniteOverArcs 0 = .ok (.iconst 0, 1) := by decide +kernel
theorem dX1_uniteOverArcs_1 : decode cX1_uniteOverArcs 1 = .ok (.istore_n 2, 1) := by decide +kernel
theorem dX1_uniteOverArcs_2 : decode cX1_uniteOverArcs 2 = .ok (.iload_n 2, 1) := by decide +kernel
theorem dX1_uniteOverArcs_3 : decode cX1_uniteOverArcs 3 = .ok (.bipush 17, 2) := by decide +kernel
theorem dX1_uniteOverArcs_5 : decode cX1_uniteOverArcs 5 = .ok (.if_icmp .ge 16, 3) := by decide +kernel
theorem dX1_uniteOverArcs_8 : decode cX1_uniteOverArcs 8 = .ok (.aload_n 0, 1) := by decide +kernel
theorem dX1_uniteOverArcs_9 : decode cX1_uniteOverArcs 9 = .ok (.getfield 11, 3) := by decide +kernel
theorem dX1_uniteOverArcs_12 : decode cX1_uniteOverArcs 12 = .ok (.iload_n 2, 1) := by decide +kernel
theorem dX1_uniteOverArcs_13 : decode cX1_uniteOverArcs 13 = .ok (.iload_n 2, 1) := by decide +kernel
theorem dX1_uniteOverArcs_14 : decode cX1_uniteOverArcs 14 = .ok (.iastore, 1) := by decide +kernel
theorem dX1_uniteOverArcs_15 : decode cX1_uniteOverArcs 15 = .ok (.iinc 2 1, 3) := by decide +kernel
theorem dX1_uniteOverArcs_18 : decode cX1_uniteOverArcs 18 = .ok (.goto (-16), 3) := by decide +kernel
theorem dX1_uniteOverArcs_21 : decode cX1_uniteOverArcs 21 = .ok (.aload_n 1, 1) := by decide +kernel
theorem dX1_uniteOverArcs_22 : decode cX1_uniteOverArcs 22 = .ok (.getfield 36, 3) := by decide +kernel
theorem dX1_uniteOverArcs_25 : decode cX1_uniteOverArcs 25 = .ok (.istore_n 2, 1) := by decide +kernel
theorem dX1_uniteOverArcs_26 : decode cX1_uniteOverArcs 26 = .ok (.iconst 0, 1) := by decide +kernel
theorem dX1_uniteOverArcs_27 : decode cX1_uniteOverArcs 27 = .ok (.istore_n 3, 1) := by decide +kernel
theorem dX1_uniteOverArcs_28 : decode cX1_uniteOverArcs 28 = .ok (.iload_n 3, 1) := by decide +kernel
theorem dX1_uniteOverArcs_29 : decode cX1_uniteOverArcs 29 = .ok (.iload_n 2, 1) := by decide +kernel
theorem dX1_uniteOverArcs_30 : decode cX1_uniteOverArcs 30 = .ok (.if_icmp .ge 57, 3) := by decide +kernel
theorem dX1_uniteOverArcs_33 : decode cX1_uniteOverArcs 33 = .ok (.aload_n 0, 1) := by decide +kernel
theorem dX1_uniteOverArcs_34 : decode cX1_uniteOverArcs 34 = .ok (.aload_n 1, 1) := by decide +kernel
theorem dX1_uniteOverArcs_35 : decode cX1_uniteOverArcs 35 = .ok (.iconst 4, 1) := by decide +kernel
theorem dX1_uniteOverArcs_36 : decode cX1_uniteOverArcs 36 = .ok (.iload_n 3, 1) := by decide +kernel
theorem dX1_uniteOverArcs_37 : decode cX1_uniteOverArcs 37 = .ok (.imul, 1) := by decide +kernel
theorem dX1_uniteOverArcs_38 : decode cX1_uniteOverArcs 38 = .ok (.iconst 1, 1) := by decide +kernel
theorem dX1_uniteOverArcs_39 : decode cX1_uniteOverArcs 39 = .ok (.iadd, 1) := by decide +kernel
theorem dX1_uniteOverArcs_40 : decode cX1_uniteOverArcs 40 = .ok (.invokevirtual 43, 3) := by decide +kernel
theorem dX1_uniteOverArcs_43 : decode cX1_uniteOverArcs 43 = .ok (.invokevirtual 47, 3) := by decide +kernel
theorem dX1_uniteOverArcs_46 : decode cX1_uniteOverArcs 46 = .ok (.istore 4, 2) := by decide +kernel
theorem dX1_uniteOverArcs_48 : decode cX1_uniteOverArcs 48 = .ok (.aload_n 0, 1) := by decide +kernel
theorem dX1_uniteOverArcs_49 : decode cX1_uniteOverArcs 49 = .ok (.aload_n 1, 1) := by decide +kernel
theorem dX1_uniteOverArcs_50 : decode cX1_uniteOverArcs 50 = .ok (.iconst 4, 1) := by decide +kernel
theorem dX1_uniteOverArcs_51 : decode cX1_uniteOverArcs 51 = .ok (.iload_n 3, 1) := by decide +kernel
theorem dX1_uniteOverArcs_52 : decode cX1_uniteOverArcs 52 = .ok (.imul, 1) := by decide +kernel
theorem dX1_uniteOverArcs_53 : decode cX1_uniteOverArcs 53 = .ok (.iconst 3, 1) := by decide +kernel
theorem dX1_uniteOverArcs_54 : decode cX1_uniteOverArcs 54 = .ok (.iadd, 1) := by decide +kernel
theorem dX1_uniteOverArcs_55 : decode cX1_uniteOverArcs 55 = .ok (.invokevirtual 43, 3) := by decide +kernel
theorem dX1_uniteOverArcs_58 : decode cX1_uniteOverArcs 58 = .ok (.invokevirtual 47, 3) := by decide +kernel
theorem dX1_uniteOverArcs_61 : decode cX1_uniteOverArcs 61 = .ok (.istore 5, 2) := by decide +kernel
theorem dX1_uniteOverArcs_63 : decode cX1_uniteOverArcs 63 = .ok (.aload_n 0, 1) := by decide +kernel
theorem dX1_uniteOverArcs_64 : decode cX1_uniteOverArcs 64 = .ok (.iload 4, 2) := by decide +kernel
theorem dX1_uniteOverArcs_66 : decode cX1_uniteOverArcs 66 = .ok (.iload 5, 2) := by decide +kernel
theorem dX1_uniteOverArcs_68 : decode cX1_uniteOverArcs 68 = .ok (.invokestatic 50, 3) := by decide +kernel
theorem dX1_uniteOverArcs_71 : decode cX1_uniteOverArcs 71 = .ok (.iload 4, 2) := by decide +kernel
theorem dX1_uniteOverArcs_73 : decode cX1_uniteOverArcs 73 = .ok (.iload 5, 2) := by decide +kernel
theorem dX1_uniteOverArcs_75 : decode cX1_uniteOverArcs 75 = .ok (.invokestatic 55, 3) := by decide +kernel
theorem dX1_uniteOverArcs_78 : decode cX1_uniteOverArcs 78 = .ok (.invokevirtual 58, 3) := by decide +kernel
theorem dX1_uniteOverArcs_81 : decode cX1_uniteOverArcs 81 = .ok (.iinc 3 1, 3) := by decide +kernel
theorem dX1_uniteOverArcs_84 : decode cX1_uniteOverArcs 84 = .ok (.goto (-56), 3) := by decide +kernel
theorem dX1_uniteOverArcs_87 : decode cX1_uniteOverArcs 87 = .ok (.return_, 1) := by decide +kernel
theorem dX1_unite_0 : decode cX1_unite 0 = .ok (.iconst 0, 1) := by decide +kernel
theorem dX1_unite_1 : decode cX1_unite 1 = .ok (.istore_n 3, 1) := by decide +kernel
theorem dX1_unite_2 : decode cX1_unite 2 = .ok (.iload_n 3, 1) := by decide +kernel
theorem dX1_unite_3 : decode cX1_unite 3 = .ok (.bipush 17, 2) := by decide +kernel
theorem dX1_unite_5 : decode cX1_unite 5 = .ok (.if_icmp .ge 26, 3) := by decide +kernel
theorem dX1_unite_8 : decode cX1_unite 8 = .ok (.aload_n 0, 1) := by decide +kernel
theorem dX1_unite_9 : decode cX1_unite 9 = .ok (.getfield 11, 3) := by decide +kernel
theorem dX1_unite_12 : decode cX1_unite 12 = .ok (.iload_n 3, 1) := by decide +kernel
theorem dX1_unite_13 : decode cX1_unite 13 = .ok (.iaload, 1) := by decide +kernel
theorem dX1_unite_14 : decode cX1_unite 14 = .ok (.iload_n 2, 1) := by decide +kernel
theorem dX1_unite_15 : decode cX1_unite 15 = .ok (.if_icmp .ne 10, 3) := by decide +kernel
theorem dX1_unite_18 : decode cX1_unite 18 = .ok (.aload_n 0, 1) := by decide +kernel
theorem dX1_unite_19 : decode cX1_unite 19 = .ok (.getfield 11, 3) := by decide +kernel
theorem dX1_unite_22 : decode cX1_unite 22 = .ok (.iload_n 3, 1) := by decide +kernel
theorem dX1_unite_23 : decode cX1_unite 23 = .ok (.iload_n 1, 1) := by decide +kernel
theorem dX1_unite_24 : decode cX1_unite 24 = .ok (.iastore, 1) := by decide +kernel
theorem dX1_unite_25 : decode cX1_unite 25 = .ok (.iinc 3 1, 3) := by decide +kernel
theorem dX1_unite_28 : decode cX1_unite 28 = .ok (.goto (-26), 3) := by decide +kernel
theorem dX1_unite_31 : decode cX1_unite 31 = .ok (.return_, 1) := by decide +kernel
set_option maxRecDepth 20000 in
theorem ggX1_countClasses_X1_classOf : GoodIn wsX1_countClasses wsX1_classOf := goodIn_r _ [5, 6, 22, 23] (by decide +kernel) (by decide +kernel)
set_option maxRecDepth 20000 in
theorem gX1_countClasses_X1_classOf : GoodIn wsX1_countClasses (wsV RX1 47 RX1 yX1_classOf wsX1_classOf) := goodIn_app (goodIn_of _ (by decide +kernel)) ggX1_countClasses_X1_classOf
set_option maxRecDepth 20000 in
theorem ggX1_countClasses_X2_firstEnd : GoodIn wsX1_countClasses wsX2_firstEnd := goodIn_r _ [11, 12, 13, 14, 10, 15, 16, 17, 18, 19, 20, 21, 24, 25, 26] (by decide +kernel) (by decide +kernel)
set_option maxRecDepth 20000 in
theorem gX1_countClasses_X2_firstEnd : GoodIn wsX1_countClasses (wsV RX1 62 RX2 yX2_firstEnd wsX2_firstEnd) := goodIn_app (goodIn_of _ (by decide +kernel)) ggX1_countClasses_X2_firstEnd
theorem dX1_countClasses_0 : decode cX1_countClasses 0 = .ok (.iconst 0, 1) := by decide +kernel
theorem dX1_countClasses_1 : decode cX1_countClasses 1 = .ok (.istore_n 2, 1) := by decide +kernel
theorem dX1_countClasses_2 : decode cX1_countClasses 2 = .ok (.iconst 1, 1) := by decide +kernel
theorem dX1_countClasses_3 : decode cX1_countClasses 3 = .ok (.istore_n 3, 1) := by decide +kernel
theorem dX1_countClasses_4 : decode cX1_countClasses 4 = .ok (.iload_n 3, 1) := by decide +kernel
theorem dX1_countClasses_5 : decode cX1_countClasses 5 = .ok (.bipush 16, 2) := by decide +kernel
theorem dX1_countClasses_7 : decode cX1_countClasses 7 = .ok (.if_icmp .gt 29, 3) := by decide +kernel
theorem dX1_countClasses_10 : decode cX1_countClasses 10 = .ok (.aload_n 0, 1) := by decide +kernel
theorem dX1_countClasses_11 : decode cX1_countClasses 11 = .ok (.iload_n 3, 1) := by decide +kernel
theorem dX1_countClasses_12 : decode cX1_countClasses 12 = .ok (.invokevirtual 47, 3) := by decide +kernel
theorem dX1_countClasses_15 : decode cX1_countClasses 15 = .ok (.iload_n 3, 1) := by decide +kernel
theorem dX1_countClasses_16 : decode cX1_countClasses 16 = .ok (.if_icmp .ne 14, 3) := by decide +kernel
theorem dX1_countClasses_19 : decode cX1_countClasses 19 = .ok (.aload_n 1, 1) := by decide +kernel
theorem dX1_countClasses_20 : decode cX1_countClasses 20 = .ok (.iload_n 3, 1) := by decide +kernel
theorem dX1_countClasses_21 : decode cX1_countClasses 21 = .ok (.invokevirtual 62, 3) := by decide +kernel
theorem dX1_countClasses_24 : decode cX1_countClasses 24 = .ok (.ifCond .lt 6, 3) := by decide +kernel
theorem dX1_countClasses_27 : decode cX1_countClasses 27 = .ok (.iinc 2 1, 3) := by decide +kernel
theorem dX1_countClasses_30 : decode cX1_countClasses 30 = .ok (.iinc 3 1, 3) := by decide +kernel
theorem dX1_countClasses_33 : decode cX1_countClasses 33 = .ok (.goto (-29), 3) := by decide +kernel
theorem dX1_countClasses_36 : decode cX1_countClasses 36 = .ok (.iload_n 2, 1) := by decide +kernel
theorem dX1_countClasses_37 : decode cX1_countClasses 37 = .ok (.ireturn, 1) := by decide +kernel
set_option maxRecDepth 20000 in
theorem ggX1_writeEquations_X2_arc : GoodIn wsX1_writeEquations wsX2_arc := goodIn_r _ [7, 8, 33, 34, 35] (by decide +kernel) (by decide +kernel)
set_option maxRecDepth 20000 in
theorem gX1_writeEquations_X2_arc : GoodIn wsX1_writeEquations (wsV RX1 43 RX2 yX2_arc wsX2_arc) := goodIn_app (goodIn_of _ (by decide +kernel)) ggX1_writeEquations_X2_arc
set_option maxRecDepth 20000 in
theorem ggX1_writeEquations_X1_addTerm : GoodIn wsX1_writeEquations wsX1_addTerm := goodIn_r _ [13, 14, 15, 16, 12, 17, 18, 19, 20, 21, 22, 1, 23, 24, 25, 26, 27, 28, 29, 30, 31, 32] (by decide +kernel) (by decide +kernel)
set_option maxRecDepth 20000 in
theorem gX1_writeEquations_X1_addTerm : GoodIn wsX1_writeEquations (wsV RX1 65 RX1 yX1_addTerm wsX1_addTerm) := goodIn_app (goodIn_of _ (by decide +kernel)) ggX1_writeEquations_X1_addTerm
theorem dX1_writeEquations_0 : decode cX1_writeEquations 0 = .ok (.iconst 0, 1) := by decide +kernel
theorem dX1_writeEquations_1 : decode cX1_writeEquations 1 = .ok (.istore_n 3, 1) := by decide +kernel
theorem dX1_writeEquations_2 : decode cX1_writeEquations 2 = .ok (.iload_n 3, 1) := by decide +kernel
theorem dX1_writeEquations_3 : decode cX1_writeEquations 3 = .ok (.sipush 136, 3) := by decide +kernel
theorem dX1_writeEquations_6 : decode cX1_writeEquations 6 = .ok (.if_icmp .ge 16, 3) := by decide +kernel
theorem dX1_writeEquations_9 : decode cX1_writeEquations 9 = .ok (.aload_n 0, 1) := by decide +kernel
theorem dX1_writeEquations_10 : decode cX1_writeEquations 10 = .ok (.getfield 15, 3) := by decide +kernel
theorem dX1_writeEquations_13 : decode cX1_writeEquations 13 = .ok (.iload_n 3, 1) := by decide +kernel
theorem dX1_writeEquations_14 : decode cX1_writeEquations 14 = .ok (.iconst 0, 1) := by decide +kernel
theorem dX1_writeEquations_15 : decode cX1_writeEquations 15 = .ok (.iastore, 1) := by decide +kernel
theorem dX1_writeEquations_16 : decode cX1_writeEquations 16 = .ok (.iinc 3 1, 3) := by decide +kernel
theorem dX1_writeEquations_19 : decode cX1_writeEquations 19 = .ok (.goto (-17), 3) := by decide +kernel
theorem dX1_writeEquations_22 : decode cX1_writeEquations 22 = .ok (.aload_n 1, 1) := by decide +kernel
theorem dX1_writeEquations_23 : decode cX1_writeEquations 23 = .ok (.getfield 36, 3) := by decide +kernel
theorem dX1_writeEquations_26 : decode cX1_writeEquations 26 = .ok (.istore_n 3, 1) := by decide +kernel
theorem dX1_writeEquations_27 : decode cX1_writeEquations 27 = .ok (.iconst 0, 1) := by decide +kernel
theorem dX1_writeEquations_28 : decode cX1_writeEquations 28 = .ok (.istore 4, 2) := by decide +kernel
theorem dX1_writeEquations_30 : decode cX1_writeEquations 30 = .ok (.iload 4, 2) := by decide +kernel
theorem dX1_writeEquations_32 : decode cX1_writeEquations 32 = .ok (.iload_n 3, 1) := by decide +kernel
theorem dX1_writeEquations_33 : decode cX1_writeEquations 33 = .ok (.if_icmp .ge 62, 3) := by decide +kernel
theorem dX1_writeEquations_36 : decode cX1_writeEquations 36 = .ok (.aload_n 0, 1) := by decide +kernel
theorem dX1_writeEquations_37 : decode cX1_writeEquations 37 = .ok (.iload 4, 2) := by decide +kernel
theorem dX1_writeEquations_39 : decode cX1_writeEquations 39 = .ok (.aload_n 1, 1) := by decide +kernel
theorem dX1_writeEquations_40 : decode cX1_writeEquations 40 = .ok (.iconst 4, 1) := by decide +kernel
theorem dX1_writeEquations_41 : decode cX1_writeEquations 41 = .ok (.iload 4, 2) := by decide +kernel
theorem dX1_writeEquations_43 : decode cX1_writeEquations 43 = .ok (.imul, 1) := by decide +kernel
theorem dX1_writeEquations_44 : decode cX1_writeEquations 44 = .ok (.invokevirtual 43, 3) := by decide +kernel
theorem dX1_writeEquations_47 : decode cX1_writeEquations 47 = .ok (.iconst 1, 1) := by decide +kernel
theorem dX1_writeEquations_48 : decode cX1_writeEquations 48 = .ok (.iload_n 2, 1) := by decide +kernel
theorem dX1_writeEquations_49 : decode cX1_writeEquations 49 = .ok (.invokevirtual 65, 3) := by decide +kernel
theorem dX1_writeEquations_52 : decode cX1_writeEquations 52 = .ok (.aload_n 0, 1) := by decide +kernel
theorem dX1_writeEquations_53 : decode cX1_writeEquations 53 = .ok (.iload 4, 2) := by decide +kernel
theorem dX1_writeEquations_55 : decode cX1_writeEquations 55 = .ok (.aload_n 1, 1) := by decide +kernel
theorem dX1_writeEquations_56 : decode cX1_writeEquations 56 = .ok (.iconst 4, 1) := by decide +kernel
theorem dX1_writeEquations_57 : decode cX1_writeEquations 57 = .ok (.iload 4, 2) := by decide +kernel
theorem dX1_writeEquations_59 : decode cX1_writeEquations 59 = .ok (.imul, 1) := by decide +kernel
theorem dX1_writeEquations_60 : decode cX1_writeEquations 60 = .ok (.iconst 2, 1) := by decide +kernel
theorem dX1_writeEquations_61 : decode cX1_writeEquations 61 = .ok (.iadd, 1) := by decide +kernel
theorem dX1_writeEquations_62 : decode cX1_writeEquations 62 = .ok (.invokevirtual 43, 3) := by decide +kernel
theorem dX1_writeEquations_65 : decode cX1_writeEquations 65 = .ok (.iconst 1, 1) := by decide +kernel
theorem dX1_writeEquations_66 : decode cX1_writeEquations 66 = .ok (.iload_n 2, 1) := by decide +kernel
theorem dX1_writeEquations_67 : decode cX1_writeEquations 67 = .ok (.invokevirtual 65, 3) := by decide +kernel
theorem dX1_writeEquations_70 : decode cX1_writeEquations 70 = .ok (.aload_n 0, 1) := by decide +kernel
theorem dX1_writeEquations_71 : decode cX1_writeEquations 71 = .ok (.iload 4, 2) := by decide +kernel
theorem dX1_writeEquations_73 : decode cX1_writeEquations 73 = .ok (.aload_n 1, 1) := by decide +kernel
theorem dX1_writeEquations_74 : decode cX1_writeEquations 74 = .ok (.iconst 4, 1) := by decide +kernel
theorem dX1_writeEquations_75 : decode cX1_writeEquations 75 = .ok (.iload 4, 2) := by decide +kernel
theorem dX1_writeEquations_77 : decode cX1_writeEquations 77 = .ok (.imul, 1) := by decide +kernel
theorem dX1_writeEquations_78 : decode cX1_writeEquations 78 = .ok (.iconst 1, 1) := by decide +kernel
theorem dX1_writeEquations_79 : decode cX1_writeEquations 79 = .ok (.iadd, 1) := by decide +kernel
theorem dX1_writeEquations_80 : decode cX1_writeEquations 80 = .ok (.invokevirtual 43, 3) := by decide +kernel
theorem dX1_writeEquations_83 : decode cX1_writeEquations 83 = .ok (.bipush (-2), 2) := by decide +kernel
theorem dX1_writeEquations_85 : decode cX1_writeEquations 85 = .ok (.iload_n 2, 1) := by decide +kernel
theorem dX1_writeEquations_86 : decode cX1_writeEquations 86 = .ok (.invokevirtual 65, 3) := by decide +kernel
theorem dX1_writeEquations_89 : decode cX1_writeEquations 89 = .ok (.iinc 4 1, 3) := by decide +kernel
theorem dX1_writeEquations_92 : decode cX1_writeEquations 92 = .ok (.goto (-62), 3) := by decide +kernel
theorem dX1_writeEquations_95 : decode cX1_writeEquations 95 = .ok (.return_, 1) := by decide +kernel
set_option maxRecDepth 20000 in
theorem ggX1_addTerm_X1_classOf : GoodIn wsX1_addTerm wsX1_classOf := goodIn_r _ [5, 6, 20, 21] (by decide +kernel) (by decide +kernel)
set_option maxRecDepth 20000 in
theorem gX1_addTerm_X1_classOf : GoodIn wsX1_addTerm (wsV RX1 47 RX1 yX1_classOf wsX1_classOf) := goodIn_app (goodIn_of _ (by decide +kernel)) ggX1_addTerm_X1_classOf
set_option maxRecDepth 20000 in
theorem ggX1_addTerm_X1_cell : GoodIn wsX1_addTerm wsX1_cell := goodIn_r _ [10, 11, 20, 21] (by decide +kernel) (by decide +kernel)
set_option maxRecDepth 20000 in
theorem gX1_addTerm_X1_cell : GoodIn wsX1_addTerm (wsV RX1 69 RX1 yX1_cell wsX1_cell) := goodIn_app (goodIn_of _ (by decide +kernel)) ggX1_addTerm_X1_cell
set_option maxRecDepth 20000 in
theorem ggX1_addTerm_X1_setCell : GoodIn wsX1_addTerm wsX1_setCell := goodIn_r _ [15, 11, 16, 17, 18, 19, 20, 21] (by decide +kernel) (by decide +kernel)
set_option maxRecDepth 20000 in
theorem gX1_addTerm_X1_setCell : GoodIn wsX1_addTerm (wsV RX1 72 RX1 yX1_setCell wsX1_setCell) := goodIn_app (goodIn_of _ (by decide +kernel)) ggX1_addTerm_X1_setCell
theorem dX1_addTerm_0 : decode cX1_addTerm 0 = .ok (.aload_n 0, 1) := by decide +kernel
theorem dX1_addTerm_1 : decode cX1_addTerm 1 = .ok (.iload_n 2, 1) := by decide +kernel
theorem dX1_addTerm_2 : decode cX1_addTerm 2 = .ok (.invokevirtual 47, 3) := by decide +kernel
theorem dX1_addTerm_5 : decode cX1_addTerm 5 = .ok (.istore 5, 2) := by decide +kernel
theorem dX1_addTerm_7 : decode cX1_addTerm 7 = .ok (.aload_n 0, 1) := by decide +kernel
theorem dX1_addTerm_8 : decode cX1_addTerm 8 = .ok (.iload_n 1, 1) := by decide +kernel
theorem dX1_addTerm_9 : decode cX1_addTerm 9 = .ok (.iload 5, 2) := by decide +kernel
theorem dX1_addTerm_11 : decode cX1_addTerm 11 = .ok (.aload_n 0, 1) := by decide +kernel
theorem dX1_addTerm_12 : decode cX1_addTerm 12 = .ok (.iload_n 1, 1) := by decide +kernel
theorem dX1_addTerm_13 : decode cX1_addTerm 13 = .ok (.iload 5, 2) := by decide +kernel
theorem dX1_addTerm_15 : decode cX1_addTerm 15 = .ok (.invokevirtual 69, 3) := by decide +kernel
theorem dX1_addTerm_18 : decode cX1_addTerm 18 = .ok (.iload_n 3, 1) := by decide +kernel
theorem dX1_addTerm_19 : decode cX1_addTerm 19 = .ok (.iadd, 1) := by decide +kernel
theorem dX1_addTerm_20 : decode cX1_addTerm 20 = .ok (.iload 4, 2) := by decide +kernel
theorem dX1_addTerm_22 : decode cX1_addTerm 22 = .ok (.invokevirtual 72, 3) := by decide +kernel
theorem dX1_addTerm_25 : decode cX1_addTerm 25 = .ok (.return_, 1) := by decide +kernel
theorem dX1_cell_0 : decode cX1_cell 0 = .ok (.iload_n 1, 1) := by decide +kernel
theorem dX1_cell_1 : decode cX1_cell 1 = .ok (.bipush 17, 2) := by decide +kernel
theorem dX1_cell_3 : decode cX1_cell 3 = .ok (.imul, 1) := by decide +kernel
theorem dX1_cell_4 : decode cX1_cell 4 = .ok (.iload_n 2, 1) := by decide +kernel
theorem dX1_cell_5 : decode cX1_cell 5 = .ok (.iadd, 1) := by decide +kernel
theorem dX1_cell_6 : decode cX1_cell 6 = .ok (.istore_n 3, 1) := by decide +kernel
theorem dX1_cell_7 : decode cX1_cell 7 = .ok (.iload_n 3, 1) := by decide +kernel
theorem dX1_cell_8 : decode cX1_cell 8 = .ok (.ifCond .lt 19, 3) := by decide +kernel
theorem dX1_cell_11 : decode cX1_cell 11 = .ok (.iload_n 3, 1) := by decide +kernel
theorem dX1_cell_12 : decode cX1_cell 12 = .ok (.sipush 136, 3) := by decide +kernel
theorem dX1_cell_15 : decode cX1_cell 15 = .ok (.if_icmp .ge 12, 3) := by decide +kernel
theorem dX1_cell_18 : decode cX1_cell 18 = .ok (.aload_n 0, 1) := by decide +kernel
theorem dX1_cell_19 : decode cX1_cell 19 = .ok (.getfield 15, 3) := by decide +kernel
theorem dX1_cell_22 : decode cX1_cell 22 = .ok (.iload_n 3, 1) := by decide +kernel
theorem dX1_cell_23 : decode cX1_cell 23 = .ok (.iaload, 1) := by decide +kernel
theorem dX1_cell_24 : decode cX1_cell 24 = .ok (.goto 4, 3) := by decide +kernel
theorem dX1_cell_27 : decode cX1_cell 27 = .ok (.iconst 0, 1) := by decide +kernel
theorem dX1_cell_28 : decode cX1_cell 28 = .ok (.ireturn, 1) := by decide +kernel
set_option maxRecDepth 20000 in
theorem ggX1_setCell_J9_floorMod_7cf53 : GoodIn wsX1_setCell wsJ9_floorMod_7cf53 := goodIn_r _ [5] (by decide +kernel) (by decide +kernel)
set_option maxRecDepth 20000 in
theorem gX1_setCell_J9_floorMod_7cf53 : GoodIn wsX1_setCell (va_wsS RX1 75 yJ9_floorMod_7cf53 wsJ9_floorMod_7cf53) := goodIn_app (goodIn_of _ (by decide +kernel)) ggX1_setCell_J9_floorMod_7cf53
theorem dX1_setCell_0 : decode cX1_setCell 0 = .ok (.iload_n 1, 1) := by decide +kernel
theorem dX1_setCell_1 : decode cX1_setCell 1 = .ok (.bipush 17, 2) := by decide +kernel
theorem dX1_setCell_3 : decode cX1_setCell 3 = .ok (.imul, 1) := by decide +kernel
theorem dX1_setCell_4 : decode cX1_setCell 4 = .ok (.iload_n 2, 1) := by decide +kernel
theorem dX1_setCell_5 : decode cX1_setCell 5 = .ok (.iadd, 1) := by decide +kernel
theorem dX1_setCell_6 : decode cX1_setCell 6 = .ok (.istore 5, 2) := by decide +kernel
theorem dX1_setCell_8 : decode cX1_setCell 8 = .ok (.iload 5, 2) := by decide +kernel
theorem dX1_setCell_10 : decode cX1_setCell 10 = .ok (.ifCond .lt 29, 3) := by decide +kernel
theorem dX1_setCell_13 : decode cX1_setCell 13 = .ok (.iload 5, 2) := by decide +kernel
theorem dX1_setCell_15 : decode cX1_setCell 15 = .ok (.sipush 136, 3) := by decide +kernel
theorem dX1_setCell_18 : decode cX1_setCell 18 = .ok (.if_icmp .ge 21, 3) := by decide +kernel
theorem dX1_setCell_21 : decode cX1_setCell 21 = .ok (.iload 4, 2) := by decide +kernel
theorem dX1_setCell_23 : decode cX1_setCell 23 = .ok (.ifCond .le 16, 3) := by decide +kernel
theorem dX1_setCell_26 : decode cX1_setCell 26 = .ok (.aload_n 0, 1) := by decide +kernel
theorem dX1_setCell_27 : decode cX1_setCell 27 = .ok (.getfield 15, 3) := by decide +kernel
theorem dX1_setCell_30 : decode cX1_setCell 30 = .ok (.iload 5, 2) := by decide +kernel
theorem dX1_setCell_32 : decode cX1_setCell 32 = .ok (.iload_n 3, 1) := by decide +kernel
theorem dX1_setCell_33 : decode cX1_setCell 33 = .ok (.iload 4, 2) := by decide +kernel
theorem dX1_setCell_35 : decode cX1_setCell 35 = .ok (.invokestatic 75, 3) := by decide +kernel
theorem dX1_setCell_38 : decode cX1_setCell 38 = .ok (.iastore, 1) := by decide +kernel
theorem dX1_setCell_39 : decode cX1_setCell 39 = .ok (.return_, 1) := by decide +kernel
set_option maxRecDepth 20000 in
theorem ggX1_rank_X1_pivotRow : GoodIn wsX1_rank wsX1_pivotRow := goodIn_r _ [5, 6, 7, 8, 4, 9, 10, 27, 28] (by decide +kernel) (by decide +kernel)
set_option maxRecDepth 20000 in
theorem gX1_rank_X1_pivotRow : GoodIn wsX1_rank (wsV RX1 78 RX1 yX1_pivotRow wsX1_pivotRow) := goodIn_app (goodIn_of _ (by decide +kernel)) ggX1_rank_X1_pivotRow
set_option maxRecDepth 20000 in
theorem ggX1_rank_X1_exchangeRows : GoodIn wsX1_rank wsX1_exchangeRows := goodIn_r _ [14, 6, 7, 8, 4, 9, 10, 15, 16, 17, 18, 19, 20, 21, 22, 27, 28] (by decide +kernel) (by decide +kernel)
set_option maxRecDepth 20000 in
theorem gX1_rank_X1_exchangeRows : GoodIn wsX1_rank (wsV RX1 82 RX1 yX1_exchangeRows wsX1_exchangeRows) := goodIn_app (goodIn_of _ (by decide +kernel)) ggX1_rank_X1_exchangeRows
set_option maxRecDepth 20000 in
theorem ggX1_rank_X1_clearBelow : GoodIn wsX1_rank wsX1_clearBelow := goodIn_r _ [26, 6, 7, 8, 4, 9, 10, 15, 16, 17, 18, 19, 20, 21, 22, 27, 28] (by decide +kernel) (by decide +kernel)
set_option maxRecDepth 20000 in
theorem gX1_rank_X1_clearBelow : GoodIn wsX1_rank (wsV RX1 86 RX1 yX1_clearBelow wsX1_clearBelow) := goodIn_app (goodIn_of _ (by decide +kernel)) ggX1_rank_X1_clearBelow
theorem dX1_rank_0 : decode cX1_rank 0 = .ok (.iconst 0, 1) := by decide +kernel
theorem dX1_rank_1 : decode cX1_rank 1 = .ok (.istore_n 3, 1) := by decide +kernel
theorem dX1_rank_2 : decode cX1_rank 2 = .ok (.iconst 1, 1) := by decide +kernel
theorem dX1_rank_3 : decode cX1_rank 3 = .ok (.istore 4, 2) := by decide +kernel
theorem dX1_rank_5 : decode cX1_rank 5 = .ok (.iload 4, 2) := by decide +kernel
theorem dX1_rank_7 : decode cX1_rank 7 = .ok (.bipush 16, 2) := by decide +kernel
theorem dX1_rank_9 : decode cX1_rank 9 = .ok (.if_icmp .gt 44, 3) := by decide +kernel
theorem dX1_rank_12 : decode cX1_rank 12 = .ok (.aload_n 0, 1) := by decide +kernel
theorem dX1_rank_13 : decode cX1_rank 13 = .ok (.iload_n 3, 1) := by decide +kernel
theorem dX1_rank_14 : decode cX1_rank 14 = .ok (.iload_n 1, 1) := by decide +kernel
theorem dX1_rank_15 : decode cX1_rank 15 = .ok (.iload 4, 2) := by decide +kernel
theorem dX1_rank_17 : decode cX1_rank 17 = .ok (.invokevirtual 78, 3) := by decide +kernel
theorem dX1_rank_20 : decode cX1_rank 20 = .ok (.istore 5, 2) := by decide +kernel
theorem dX1_rank_22 : decode cX1_rank 22 = .ok (.iload 5, 2) := by decide +kernel
theorem dX1_rank_24 : decode cX1_rank 24 = .ok (.ifCond .lt 23, 3) := by decide +kernel
theorem dX1_rank_27 : decode cX1_rank 27 = .ok (.aload_n 0, 1) := by decide +kernel
theorem dX1_rank_28 : decode cX1_rank 28 = .ok (.iload_n 3, 1) := by decide +kernel
theorem dX1_rank_29 : decode cX1_rank 29 = .ok (.iload 5, 2) := by decide +kernel
theorem dX1_rank_31 : decode cX1_rank 31 = .ok (.iload_n 2, 1) := by decide +kernel
theorem dX1_rank_32 : decode cX1_rank 32 = .ok (.invokevirtual 82, 3) := by decide +kernel
theorem dX1_rank_35 : decode cX1_rank 35 = .ok (.aload_n 0, 1) := by decide +kernel
theorem dX1_rank_36 : decode cX1_rank 36 = .ok (.iload_n 3, 1) := by decide +kernel
theorem dX1_rank_37 : decode cX1_rank 37 = .ok (.iload_n 1, 1) := by decide +kernel
theorem dX1_rank_38 : decode cX1_rank 38 = .ok (.iload 4, 2) := by decide +kernel
theorem dX1_rank_40 : decode cX1_rank 40 = .ok (.iload_n 2, 1) := by decide +kernel
theorem dX1_rank_41 : decode cX1_rank 41 = .ok (.invokevirtual 86, 3) := by decide +kernel
theorem dX1_rank_44 : decode cX1_rank 44 = .ok (.iinc 3 1, 3) := by decide +kernel
theorem dX1_rank_47 : decode cX1_rank 47 = .ok (.iinc 4 1, 3) := by decide +kernel
theorem dX1_rank_50 : decode cX1_rank 50 = .ok (.goto (-45), 3) := by decide +kernel
theorem dX1_rank_53 : decode cX1_rank 53 = .ok (.iload_n 3, 1) := by decide +kernel
theorem dX1_rank_54 : decode cX1_rank 54 = .ok (.ireturn, 1) := by decide +kernel
set_option maxRecDepth 20000 in
theorem ggX1_pivotRow_X1_cell : GoodIn wsX1_pivotRow wsX1_cell := goodIn_r _ [5, 6, 7, 8] (by decide +kernel) (by decide +kernel)
set_option maxRecDepth 20000 in
theorem gX1_pivotRow_X1_cell : GoodIn wsX1_pivotRow (wsV RX1 69 RX1 yX1_cell wsX1_cell) := goodIn_app (goodIn_of _ (by decide +kernel)) ggX1_pivotRow_X1_cell
theorem dX1_pivotRow_0 : decode cX1_pivotRow 0 = .ok (.iload_n 1, 1) := by decide +kernel
theorem dX1_pivotRow_1 : decode cX1_pivotRow 1 = .ok (.istore 4, 2) := by decide +kernel
theorem dX1_pivotRow_3 : decode cX1_pivotRow 3 = .ok (.iload 4, 2) := by decide +kernel
theorem dX1_pivotRow_5 : decode cX1_pivotRow 5 = .ok (.iload_n 2, 1) := by decide +kernel
theorem dX1_pivotRow_6 : decode cX1_pivotRow 6 = .ok (.if_icmp .ge 22, 3) := by decide +kernel
theorem dX1_pivotRow_9 : decode cX1_pivotRow 9 = .ok (.aload_n 0, 1) := by decide +kernel
theorem dX1_pivotRow_10 : decode cX1_pivotRow 10 = .ok (.iload 4, 2) := by decide +kernel
theorem dX1_pivotRow_12 : decode cX1_pivotRow 12 = .ok (.iload_n 3, 1) := by decide +kernel
theorem dX1_pivotRow_13 : decode cX1_pivotRow 13 = .ok (.invokevirtual 69, 3) := by decide +kernel
theorem dX1_pivotRow_16 : decode cX1_pivotRow 16 = .ok (.ifCond .eq 6, 3) := by decide +kernel
theorem dX1_pivotRow_19 : decode cX1_pivotRow 19 = .ok (.iload 4, 2) := by decide +kernel
theorem dX1_pivotRow_21 : decode cX1_pivotRow 21 = .ok (.ireturn, 1) := by decide +kernel
theorem dX1_pivotRow_22 : decode cX1_pivotRow 22 = .ok (.iinc 4 1, 3) := by decide +kernel
theorem dX1_pivotRow_25 : decode cX1_pivotRow 25 = .ok (.goto (-22), 3) := by decide +kernel
theorem dX1_pivotRow_28 : decode cX1_pivotRow 28 = .ok (.iconst (-1), 1) := by decide +kernel
theorem dX1_pivotRow_29 : decode cX1_pivotRow 29 = .ok (.ireturn, 1) := by decide +kernel
set_option maxRecDepth 20000 in
theorem ggX1_exchangeRows_X1_cell : GoodIn wsX1_exchangeRows wsX1_cell := goodIn_r _ [5, 6, 15, 16] (by decide +kernel) (by decide +kernel)
set_option maxRecDepth 20000 in
theorem gX1_exchangeRows_X1_cell : GoodIn wsX1_exchangeRows (wsV RX1 69 RX1 yX1_cell wsX1_cell) := goodIn_app (goodIn_of _ (by decide +kernel)) ggX1_exchangeRows_X1_cell
set_option maxRecDepth 20000 in
theorem ggX1_exchangeRows_X1_setCell : GoodIn wsX1_exchangeRows wsX1_setCell := goodIn_r _ [10, 6, 11, 12, 13, 14, 15, 16] (by decide +kernel) (by decide +kernel)
set_option maxRecDepth 20000 in
theorem gX1_exchangeRows_X1_setCell : GoodIn wsX1_exchangeRows (wsV RX1 72 RX1 yX1_setCell wsX1_setCell) := goodIn_app (goodIn_of _ (by decide +kernel)) ggX1_exchangeRows_X1_setCell
theorem dX1_exchangeRows_0 : decode cX1_exchangeRows 0 = .ok (.iconst 0, 1) := by decide +kernel
theorem dX1_exchangeRows_1 : decode cX1_exchangeRows 1 = .ok (.istore 4, 2) := by decide +kernel
theorem dX1_exchangeRows_3 : decode cX1_exchangeRows 3 = .ok (.iload 4, 2) := by decide +kernel
theorem dX1_exchangeRows_5 : decode cX1_exchangeRows 5 = .ok (.bipush 17, 2) := by decide +kernel
theorem dX1_exchangeRows_7 : decode cX1_exchangeRows 7 = .ok (.if_icmp .ge 43, 3) := by decide +kernel
theorem dX1_exchangeRows_10 : decode cX1_exchangeRows 10 = .ok (.aload_n 0, 1) := by decide +kernel
theorem dX1_exchangeRows_11 : decode cX1_exchangeRows 11 = .ok (.iload_n 1, 1) := by decide +kernel
theorem dX1_exchangeRows_12 : decode cX1_exchangeRows 12 = .ok (.iload 4, 2) := by decide +kernel
theorem dX1_exchangeRows_14 : decode cX1_exchangeRows 14 = .ok (.invokevirtual 69, 3) := by decide +kernel
theorem dX1_exchangeRows_17 : decode cX1_exchangeRows 17 = .ok (.istore 5, 2) := by decide +kernel
theorem dX1_exchangeRows_19 : decode cX1_exchangeRows 19 = .ok (.aload_n 0, 1) := by decide +kernel
theorem dX1_exchangeRows_20 : decode cX1_exchangeRows 20 = .ok (.iload_n 1, 1) := by decide +kernel
theorem dX1_exchangeRows_21 : decode cX1_exchangeRows 21 = .ok (.iload 4, 2) := by decide +kernel
theorem dX1_exchangeRows_23 : decode cX1_exchangeRows 23 = .ok (.aload_n 0, 1) := by decide +kernel
theorem dX1_exchangeRows_24 : decode cX1_exchangeRows 24 = .ok (.iload_n 2, 1) := by decide +kernel
theorem dX1_exchangeRows_25 : decode cX1_exchangeRows 25 = .ok (.iload 4, 2) := by decide +kernel
theorem dX1_exchangeRows_27 : decode cX1_exchangeRows 27 = .ok (.invokevirtual 69, 3) := by decide +kernel
theorem dX1_exchangeRows_30 : decode cX1_exchangeRows 30 = .ok (.iload_n 3, 1) := by decide +kernel
theorem dX1_exchangeRows_31 : decode cX1_exchangeRows 31 = .ok (.invokevirtual 72, 3) := by decide +kernel
theorem dX1_exchangeRows_34 : decode cX1_exchangeRows 34 = .ok (.aload_n 0, 1) := by decide +kernel
theorem dX1_exchangeRows_35 : decode cX1_exchangeRows 35 = .ok (.iload_n 2, 1) := by decide +kernel
theorem dX1_exchangeRows_36 : decode cX1_exchangeRows 36 = .ok (.iload 4, 2) := by decide +kernel
theorem dX1_exchangeRows_38 : decode cX1_exchangeRows 38 = .ok (.iload 5, 2) := by decide +kernel
theorem dX1_exchangeRows_40 : decode cX1_exchangeRows 40 = .ok (.iload_n 3, 1) := by decide +kernel
theorem dX1_exchangeRows_41 : decode cX1_exchangeRows 41 = .ok (.invokevirtual 72, 3) := by decide +kernel
theorem dX1_exchangeRows_44 : decode cX1_exchangeRows 44 = .ok (.iinc 4 1, 3) := by decide +kernel
theorem dX1_exchangeRows_47 : decode cX1_exchangeRows 47 = .ok (.goto (-44), 3) := by decide +kernel
theorem dX1_exchangeRows_50 : decode cX1_exchangeRows 50 = .ok (.return_, 1) := by decide +kernel
set_option maxRecDepth 20000 in
theorem ggX1_clearBelow_X1_cell : GoodIn wsX1_clearBelow wsX1_cell := goodIn_r _ [5, 6, 15, 16] (by decide +kernel) (by decide +kernel)
set_option maxRecDepth 20000 in
theorem gX1_clearBelow_X1_cell : GoodIn wsX1_clearBelow (wsV RX1 69 RX1 yX1_cell wsX1_cell) := goodIn_app (goodIn_of _ (by decide +kernel)) ggX1_clearBelow_X1_cell
set_option maxRecDepth 20000 in
theorem ggX1_clearBelow_X1_setCell : GoodIn wsX1_clearBelow wsX1_setCell := goodIn_r _ [10, 6, 11, 12, 13, 14, 15, 16] (by decide +kernel) (by decide +kernel)
set_option maxRecDepth 20000 in
theorem gX1_clearBelow_X1_setCell : GoodIn wsX1_clearBelow (wsV RX1 72 RX1 yX1_setCell wsX1_setCell) := goodIn_app (goodIn_of _ (by decide +kernel)) ggX1_clearBelow_X1_setCell
theorem dX1_clearBelow_0 : decode cX1_clearBelow 0 = .ok (.aload_n 0, 1) := by decide +kernel
theorem dX1_clearBelow_1 : decode cX1_clearBelow 1 = .ok (.iload_n 1, 1) := by decide +kernel
theorem dX1_clearBelow_2 : decode cX1_clearBelow 2 = .ok (.iload_n 3, 1) := by decide +kernel
theorem dX1_clearBelow_3 : decode cX1_clearBelow 3 = .ok (.invokevirtual 69, 3) := by decide +kernel
theorem dX1_clearBelow_6 : decode cX1_clearBelow 6 = .ok (.istore 5, 2) := by decide +kernel
theorem dX1_clearBelow_8 : decode cX1_clearBelow 8 = .ok (.iload_n 1, 1) := by decide +kernel
theorem dX1_clearBelow_9 : decode cX1_clearBelow 9 = .ok (.iconst 1, 1) := by decide +kernel
theorem dX1_clearBelow_10 : decode cX1_clearBelow 10 = .ok (.iadd, 1) := by decide +kernel
theorem dX1_clearBelow_11 : decode cX1_clearBelow 11 = .ok (.istore 6, 2) := by decide +kernel
theorem dX1_clearBelow_13 : decode cX1_clearBelow 13 = .ok (.iload 6, 2) := by decide +kernel
theorem dX1_clearBelow_15 : decode cX1_clearBelow 15 = .ok (.iload_n 2, 1) := by decide +kernel
theorem dX1_clearBelow_16 : decode cX1_clearBelow 16 = .ok (.if_icmp .ge 66, 3) := by decide +kernel
theorem dX1_clearBelow_19 : decode cX1_clearBelow 19 = .ok (.aload_n 0, 1) := by decide +kernel
theorem dX1_clearBelow_20 : decode cX1_clearBelow 20 = .ok (.iload 6, 2) := by decide +kernel
theorem dX1_clearBelow_22 : decode cX1_clearBelow 22 = .ok (.iload_n 3, 1) := by decide +kernel
theorem dX1_clearBelow_23 : decode cX1_clearBelow 23 = .ok (.invokevirtual 69, 3) := by decide +kernel
theorem dX1_clearBelow_26 : decode cX1_clearBelow 26 = .ok (.istore 7, 2) := by decide +kernel
theorem dX1_clearBelow_28 : decode cX1_clearBelow 28 = .ok (.iconst 0, 1) := by decide +kernel
theorem dX1_clearBelow_29 : decode cX1_clearBelow 29 = .ok (.istore 8, 2) := by decide +kernel
theorem dX1_clearBelow_31 : decode cX1_clearBelow 31 = .ok (.iload 8, 2) := by decide +kernel
theorem dX1_clearBelow_33 : decode cX1_clearBelow 33 = .ok (.bipush 17, 2) := by decide +kernel
theorem dX1_clearBelow_35 : decode cX1_clearBelow 35 = .ok (.if_icmp .ge 41, 3) := by decide +kernel
theorem dX1_clearBelow_38 : decode cX1_clearBelow 38 = .ok (.aload_n 0, 1) := by decide +kernel
theorem dX1_clearBelow_39 : decode cX1_clearBelow 39 = .ok (.iload 6, 2) := by decide +kernel
theorem dX1_clearBelow_41 : decode cX1_clearBelow 41 = .ok (.iload 8, 2) := by decide +kernel
theorem dX1_clearBelow_43 : decode cX1_clearBelow 43 = .ok (.iload 5, 2) := by decide +kernel
theorem dX1_clearBelow_45 : decode cX1_clearBelow 45 = .ok (.aload_n 0, 1) := by decide +kernel
theorem dX1_clearBelow_46 : decode cX1_clearBelow 46 = .ok (.iload 6, 2) := by decide +kernel
theorem dX1_clearBelow_48 : decode cX1_clearBelow 48 = .ok (.iload 8, 2) := by decide +kernel
theorem dX1_clearBelow_50 : decode cX1_clearBelow 50 = .ok (.invokevirtual 69, 3) := by decide +kernel
theorem dX1_clearBelow_53 : decode cX1_clearBelow 53 = .ok (.imul, 1) := by decide +kernel
theorem dX1_clearBelow_54 : decode cX1_clearBelow 54 = .ok (.iload 7, 2) := by decide +kernel
theorem dX1_clearBelow_56 : decode cX1_clearBelow 56 = .ok (.aload_n 0, 1) := by decide +kernel
theorem dX1_clearBelow_57 : decode cX1_clearBelow 57 = .ok (.iload_n 1, 1) := by decide +kernel
theorem dX1_clearBelow_58 : decode cX1_clearBelow 58 = .ok (.iload 8, 2) := by decide +kernel
theorem dX1_clearBelow_60 : decode cX1_clearBelow 60 = .ok (.invokevirtual 69, 3) := by decide +kernel
theorem dX1_clearBelow_63 : decode cX1_clearBelow 63 = .ok (.imul, 1) := by decide +kernel
theorem dX1_clearBelow_64 : decode cX1_clearBelow 64 = .ok (.isub, 1) := by decide +kernel
theorem dX1_clearBelow_65 : decode cX1_clearBelow 65 = .ok (.iload 4, 2) := by decide +kernel
theorem dX1_clearBelow_67 : decode cX1_clearBelow 67 = .ok (.invokevirtual 72, 3) := by decide +kernel
theorem dX1_clearBelow_70 : decode cX1_clearBelow 70 = .ok (.iinc 8 1, 3) := by decide +kernel
theorem dX1_clearBelow_73 : decode cX1_clearBelow 73 = .ok (.goto (-42), 3) := by decide +kernel
theorem dX1_clearBelow_76 : decode cX1_clearBelow 76 = .ok (.iinc 6 1, 3) := by decide +kernel
theorem dX1_clearBelow_79 : decode cX1_clearBelow 79 = .ok (.goto (-66), 3) := by decide +kernel
theorem dX1_clearBelow_82 : decode cX1_clearBelow 82 = .ok (.return_, 1) := by decide +kernel
theorem dX2_init_0 : decode cX2_init 0 = .ok (.aload_n 0, 1) := by decide +kernel
theorem dX2_init_1 : decode cX2_init 1 = .ok (.invokespecial 3, 3) := by decide +kernel
theorem dX2_init_4 : decode cX2_init 4 = .ok (.aload_n 0, 1) := by decide +kernel
theorem dX2_init_5 : decode cX2_init 5 = .ok (.bipush 32, 2) := by decide +kernel
theorem dX2_init_7 : decode cX2_init 7 = .ok (.newarray .int, 2) := by decide +kernel
theorem dX2_init_9 : decode cX2_init 9 = .ok (.putfield 9, 3) := by decide +kernel
theorem dX2_init_12 : decode cX2_init 12 = .ok (.return_, 1) := by decide +kernel
theorem dX2_hasCrossing_0 : decode cX2_hasCrossing 0 = .ok (.iload_n 1, 1) := by decide +kernel
theorem dX2_hasCrossing_1 : decode cX2_hasCrossing 1 = .ok (.ifCond .lt 15, 3) := by decide +kernel
theorem dX2_hasCrossing_4 : decode cX2_hasCrossing 4 = .ok (.iload_n 1, 1) := by decide +kernel
theorem dX2_hasCrossing_5 : decode cX2_hasCrossing 5 = .ok (.aload_n 0, 1) := by decide +kernel
theorem dX2_hasCrossing_6 : decode cX2_hasCrossing 6 = .ok (.getfield 15, 3) := by decide +kernel
theorem dX2_hasCrossing_9 : decode cX2_hasCrossing 9 = .ok (.if_icmp .ge 7, 3) := by decide +kernel
theorem dX2_hasCrossing_12 : decode cX2_hasCrossing 12 = .ok (.iconst 1, 1) := by decide +kernel
theorem dX2_hasCrossing_13 : decode cX2_hasCrossing 13 = .ok (.goto 4, 3) := by decide +kernel
theorem dX2_hasCrossing_16 : decode cX2_hasCrossing 16 = .ok (.iconst 0, 1) := by decide +kernel
theorem dX2_hasCrossing_17 : decode cX2_hasCrossing 17 = .ok (.ireturn, 1) := by decide +kernel
theorem dX2_endCount_0 : decode cX2_endCount 0 = .ok (.iconst 4, 1) := by decide +kernel
theorem dX2_endCount_1 : decode cX2_endCount 1 = .ok (.aload_n 0, 1) := by decide +kernel
theorem dX2_endCount_2 : decode cX2_endCount 2 = .ok (.getfield 15, 3) := by decide +kernel
theorem dX2_endCount_5 : decode cX2_endCount 5 = .ok (.imul, 1) := by decide +kernel
theorem dX2_endCount_6 : decode cX2_endCount 6 = .ok (.ireturn, 1) := by decide +kernel
theorem dX2_arc_0 : decode cX2_arc 0 = .ok (.iload_n 1, 1) := by decide +kernel
theorem dX2_arc_1 : decode cX2_arc 1 = .ok (.ifCond .lt 18, 3) := by decide +kernel
theorem dX2_arc_4 : decode cX2_arc 4 = .ok (.iload_n 1, 1) := by decide +kernel
theorem dX2_arc_5 : decode cX2_arc 5 = .ok (.bipush 32, 2) := by decide +kernel
theorem dX2_arc_7 : decode cX2_arc 7 = .ok (.if_icmp .ge 12, 3) := by decide +kernel
theorem dX2_arc_10 : decode cX2_arc 10 = .ok (.aload_n 0, 1) := by decide +kernel
theorem dX2_arc_11 : decode cX2_arc 11 = .ok (.getfield 9, 3) := by decide +kernel
theorem dX2_arc_14 : decode cX2_arc 14 = .ok (.iload_n 1, 1) := by decide +kernel
theorem dX2_arc_15 : decode cX2_arc 15 = .ok (.iaload, 1) := by decide +kernel
theorem dX2_arc_16 : decode cX2_arc 16 = .ok (.goto 4, 3) := by decide +kernel
theorem dX2_arc_19 : decode cX2_arc 19 = .ok (.iconst 0, 1) := by decide +kernel
theorem dX2_arc_20 : decode cX2_arc 20 = .ok (.ireturn, 1) := by decide +kernel
theorem dX2_setArc_0 : decode cX2_setArc 0 = .ok (.iload_n 1, 1) := by decide +kernel
theorem dX2_setArc_1 : decode cX2_setArc 1 = .ok (.ifCond .lt 16, 3) := by decide +kernel
theorem dX2_setArc_4 : decode cX2_setArc 4 = .ok (.iload_n 1, 1) := by decide +kernel
theorem dX2_setArc_5 : decode cX2_setArc 5 = .ok (.bipush 32, 2) := by decide +kernel
theorem dX2_setArc_7 : decode cX2_setArc 7 = .ok (.if_icmp .ge 10, 3) := by decide +kernel
theorem dX2_setArc_10 : decode cX2_setArc 10 = .ok (.aload_n 0, 1) := by decide +kernel
theorem dX2_setArc_11 : decode cX2_setArc 11 = .ok (.getfield 9, 3) := by decide +kernel
theorem dX2_setArc_14 : decode cX2_setArc 14 = .ok (.iload_n 1, 1) := by decide +kernel
theorem dX2_setArc_15 : decode cX2_setArc 15 = .ok (.iload_n 2, 1) := by decide +kernel
theorem dX2_setArc_16 : decode cX2_setArc 16 = .ok (.iastore, 1) := by decide +kernel
theorem dX2_setArc_17 : decode cX2_setArc 17 = .ok (.return_, 1) := by decide +kernel
theorem dX2_clear_0 : decode cX2_clear 0 = .ok (.aload_n 0, 1) := by decide +kernel
theorem dX2_clear_1 : decode cX2_clear 1 = .ok (.iconst 0, 1) := by decide +kernel
theorem dX2_clear_2 : decode cX2_clear 2 = .ok (.putfield 15, 3) := by decide +kernel
theorem dX2_clear_5 : decode cX2_clear 5 = .ok (.aload_n 0, 1) := by decide +kernel
theorem dX2_clear_6 : decode cX2_clear 6 = .ok (.iconst 0, 1) := by decide +kernel
theorem dX2_clear_7 : decode cX2_clear 7 = .ok (.putfield 19, 3) := by decide +kernel
theorem dX2_clear_10 : decode cX2_clear 10 = .ok (.iconst 0, 1) := by decide +kernel
theorem dX2_clear_11 : decode cX2_clear 11 = .ok (.istore_n 1, 1) := by decide +kernel
theorem dX2_clear_12 : decode cX2_clear 12 = .ok (.iload_n 1, 1) := by decide +kernel
theorem dX2_clear_13 : decode cX2_clear 13 = .ok (.bipush 32, 2) := by decide +kernel
theorem dX2_clear_15 : decode cX2_clear 15 = .ok (.if_icmp .ge 16, 3) := by decide +kernel
theorem dX2_clear_18 : decode cX2_clear 18 = .ok (.aload_n 0, 1) := by decide +kernel
theorem dX2_clear_19 : decode cX2_clear 19 = .ok (.getfield 9, 3) := by decide +kernel
theorem dX2_clear_22 : decode cX2_clear 22 = .ok (.iload_n 1, 1) := by decide +kernel
theorem dX2_clear_23 : decode cX2_clear 23 = .ok (.iconst 0, 1) := by decide +kernel
theorem dX2_clear_24 : decode cX2_clear 24 = .ok (.iastore, 1) := by decide +kernel
theorem dX2_clear_25 : decode cX2_clear 25 = .ok (.iinc 1 1, 3) := by decide +kernel
theorem dX2_clear_28 : decode cX2_clear 28 = .ok (.goto (-16), 3) := by decide +kernel
theorem dX2_clear_31 : decode cX2_clear 31 = .ok (.return_, 1) := by decide +kernel
theorem dX2_copyFrom_0 : decode cX2_copyFrom 0 = .ok (.aload_n 0, 1) := by decide +kernel
theorem dX2_copyFrom_1 : decode cX2_copyFrom 1 = .ok (.aload_n 1, 1) := by decide +kernel
theorem dX2_copyFrom_2 : decode cX2_copyFrom 2 = .ok (.getfield 15, 3) := by decide +kernel
theorem dX2_copyFrom_5 : decode cX2_copyFrom 5 = .ok (.putfield 15, 3) := by decide +kernel
theorem dX2_copyFrom_8 : decode cX2_copyFrom 8 = .ok (.aload_n 0, 1) := by decide +kernel
theorem dX2_copyFrom_9 : decode cX2_copyFrom 9 = .ok (.aload_n 1, 1) := by decide +kernel
theorem dX2_copyFrom_10 : decode cX2_copyFrom 10 = .ok (.getfield 19, 3) := by decide +kernel
theorem dX2_copyFrom_13 : decode cX2_copyFrom 13 = .ok (.putfield 19, 3) := by decide +kernel
theorem dX2_copyFrom_16 : decode cX2_copyFrom 16 = .ok (.iconst 0, 1) := by decide +kernel
theorem dX2_copyFrom_17 : decode cX2_copyFrom 17 = .ok (.istore_n 2, 1) := by decide +kernel
theorem dX2_copyFrom_18 : decode cX2_copyFrom 18 = .ok (.iload_n 2, 1) := by decide +kernel
theorem dX2_copyFrom_19 : decode cX2_copyFrom 19 = .ok (.bipush 32, 2) := by decide +kernel
theorem dX2_copyFrom_21 : decode cX2_copyFrom 21 = .ok (.if_icmp .ge 21, 3) := by decide +kernel
theorem dX2_copyFrom_24 : decode cX2_copyFrom 24 = .ok (.aload_n 0, 1) := by decide +kernel
theorem dX2_copyFrom_25 : decode cX2_copyFrom 25 = .ok (.getfield 9, 3) := by decide +kernel
theorem dX2_copyFrom_28 : decode cX2_copyFrom 28 = .ok (.iload_n 2, 1) := by decide +kernel
theorem dX2_copyFrom_29 : decode cX2_copyFrom 29 = .ok (.aload_n 1, 1) := by decide +kernel
theorem dX2_copyFrom_30 : decode cX2_copyFrom 30 = .ok (.getfield 9, 3) := by decide +kernel
theorem dX2_copyFrom_33 : decode cX2_copyFrom 33 = .ok (.iload_n 2, 1) := by decide +kernel
theorem dX2_copyFrom_34 : decode cX2_copyFrom 34 = .ok (.iaload, 1) := by decide +kernel
theorem dX2_copyFrom_35 : decode cX2_copyFrom 35 = .ok (.iastore, 1) := by decide +kernel
theorem dX2_copyFrom_36 : decode cX2_copyFrom 36 = .ok (.iinc 2 1, 3) := by decide +kernel
theorem dX2_copyFrom_39 : decode cX2_copyFrom 39 = .ok (.goto (-21), 3) := by decide +kernel
theorem dX2_copyFrom_42 : decode cX2_copyFrom 42 = .ok (.return_, 1) := by decide +kernel
set_option maxRecDepth 20000 in
theorem ggX2_occurrences_X2_endCount : GoodIn wsX2_occurrences wsX2_endCount := goodIn_r _ [5, 6, 12, 13, 14] (by decide +kernel) (by decide +kernel)
set_option maxRecDepth 20000 in
theorem gX2_occurrences_X2_endCount : GoodIn wsX2_occurrences (wsV RX2 22 RX2 yX2_endCount wsX2_endCount) := goodIn_app (goodIn_of _ (by decide +kernel)) ggX2_occurrences_X2_endCount
set_option maxRecDepth 20000 in
theorem ggX2_occurrences_X2_arc : GoodIn wsX2_occurrences wsX2_arc := goodIn_r _ [10, 11, 12, 13, 14] (by decide +kernel) (by decide +kernel)
set_option maxRecDepth 20000 in
theorem gX2_occurrences_X2_arc : GoodIn wsX2_occurrences (wsV RX2 26 RX2 yX2_arc wsX2_arc) := goodIn_app (goodIn_of _ (by decide +kernel)) ggX2_occurrences_X2_arc
theorem dX2_occurrences_0 : decode cX2_occurrences 0 = .ok (.iconst 0, 1) := by decide +kernel
theorem dX2_occurrences_1 : decode cX2_occurrences 1 = .ok (.istore_n 2, 1) := by decide +kernel
theorem dX2_occurrences_2 : decode cX2_occurrences 2 = .ok (.aload_n 0, 1) := by decide +kernel
theorem dX2_occurrences_3 : decode cX2_occurrences 3 = .ok (.invokevirtual 22, 3) := by decide +kernel
theorem dX2_occurrences_6 : decode cX2_occurrences 6 = .ok (.istore_n 3, 1) := by decide +kernel
theorem dX2_occurrences_7 : decode cX2_occurrences 7 = .ok (.iconst 0, 1) := by decide +kernel
theorem dX2_occurrences_8 : decode cX2_occurrences 8 = .ok (.istore 4, 2) := by decide +kernel
theorem dX2_occurrences_10 : decode cX2_occurrences 10 = .ok (.iload 4, 2) := by decide +kernel
theorem dX2_occurrences_12 : decode cX2_occurrences 12 = .ok (.iload_n 3, 1) := by decide +kernel
theorem dX2_occurrences_13 : decode cX2_occurrences 13 = .ok (.if_icmp .ge 22, 3) := by decide +kernel
theorem dX2_occurrences_16 : decode cX2_occurrences 16 = .ok (.aload_n 0, 1) := by decide +kernel
theorem dX2_occurrences_17 : decode cX2_occurrences 17 = .ok (.iload 4, 2) := by decide +kernel
theorem dX2_occurrences_19 : decode cX2_occurrences 19 = .ok (.invokevirtual 26, 3) := by decide +kernel
theorem dX2_occurrences_22 : decode cX2_occurrences 22 = .ok (.iload_n 1, 1) := by decide +kernel
theorem dX2_occurrences_23 : decode cX2_occurrences 23 = .ok (.if_icmp .ne 6, 3) := by decide +kernel
theorem dX2_occurrences_26 : decode cX2_occurrences 26 = .ok (.iinc 2 1, 3) := by decide +kernel
theorem dX2_occurrences_29 : decode cX2_occurrences 29 = .ok (.iinc 4 1, 3) := by decide +kernel
theorem dX2_occurrences_32 : decode cX2_occurrences 32 = .ok (.goto (-22), 3) := by decide +kernel
theorem dX2_occurrences_35 : decode cX2_occurrences 35 = .ok (.iload_n 2, 1) := by decide +kernel
theorem dX2_occurrences_36 : decode cX2_occurrences 36 = .ok (.ireturn, 1) := by decide +kernel
set_option maxRecDepth 20000 in
theorem ggX2_firstEnd_X2_endCount : GoodIn wsX2_firstEnd wsX2_endCount := goodIn_r _ [5, 6, 12, 13, 14] (by decide +kernel) (by decide +kernel)
set_option maxRecDepth 20000 in
theorem gX2_firstEnd_X2_endCount : GoodIn wsX2_firstEnd (wsV RX2 22 RX2 yX2_endCount wsX2_endCount) := goodIn_app (goodIn_of _ (by decide +kernel)) ggX2_firstEnd_X2_endCount
set_option maxRecDepth 20000 in
theorem ggX2_firstEnd_X2_arc : GoodIn wsX2_firstEnd wsX2_arc := goodIn_r _ [10, 11, 12, 13, 14] (by decide +kernel) (by decide +kernel)
set_option maxRecDepth 20000 in
theorem gX2_firstEnd_X2_arc : GoodIn wsX2_firstEnd (wsV RX2 26 RX2 yX2_arc wsX2_arc) := goodIn_app (goodIn_of _ (by decide +kernel)) ggX2_firstEnd_X2_arc
theorem dX2_firstEnd_0 : decode cX2_firstEnd 0 = .ok (.aload_n 0, 1) := by decide +kernel
theorem dX2_firstEnd_1 : decode cX2_firstEnd 1 = .ok (.invokevirtual 22, 3) := by decide +kernel
theorem dX2_firstEnd_4 : decode cX2_firstEnd 4 = .ok (.istore_n 2, 1) := by decide +kernel
theorem dX2_firstEnd_5 : decode cX2_firstEnd 5 = .ok (.iconst 0, 1) := by decide +kernel
theorem dX2_firstEnd_6 : decode cX2_firstEnd 6 = .ok (.istore_n 3, 1) := by decide +kernel
theorem dX2_firstEnd_7 : decode cX2_firstEnd 7 = .ok (.iload_n 3, 1) := by decide +kernel
theorem dX2_firstEnd_8 : decode cX2_firstEnd 8 = .ok (.iload_n 2, 1) := by decide +kernel
theorem dX2_firstEnd_9 : decode cX2_firstEnd 9 = .ok (.if_icmp .ge 20, 3) := by decide +kernel
theorem dX2_firstEnd_12 : decode cX2_firstEnd 12 = .ok (.aload_n 0, 1) := by decide +kernel
theorem dX2_firstEnd_13 : decode cX2_firstEnd 13 = .ok (.iload_n 3, 1) := by decide +kernel
theorem dX2_firstEnd_14 : decode cX2_firstEnd 14 = .ok (.invokevirtual 26, 3) := by decide +kernel
theorem dX2_firstEnd_17 : decode cX2_firstEnd 17 = .ok (.iload_n 1, 1) := by decide +kernel
theorem dX2_firstEnd_18 : decode cX2_firstEnd 18 = .ok (.if_icmp .ne 5, 3) := by decide +kernel
theorem dX2_firstEnd_21 : decode cX2_firstEnd 21 = .ok (.iload_n 3, 1) := by decide +kernel
theorem dX2_firstEnd_22 : decode cX2_firstEnd 22 = .ok (.ireturn, 1) := by decide +kernel
theorem dX2_firstEnd_23 : decode cX2_firstEnd 23 = .ok (.iinc 3 1, 3) := by decide +kernel
theorem dX2_firstEnd_26 : decode cX2_firstEnd 26 = .ok (.goto (-19), 3) := by decide +kernel
theorem dX2_firstEnd_29 : decode cX2_firstEnd 29 = .ok (.iconst (-1), 1) := by decide +kernel
theorem dX2_firstEnd_30 : decode cX2_firstEnd 30 = .ok (.ireturn, 1) := by decide +kernel
set_option maxRecDepth 20000 in
theorem ggX2_otherEnd_X2_arc : GoodIn wsX2_otherEnd wsX2_arc := goodIn_r _ [5, 6, 12, 13, 14] (by decide +kernel) (by decide +kernel)
set_option maxRecDepth 20000 in
theorem gX2_otherEnd_X2_arc : GoodIn wsX2_otherEnd (wsV RX2 26 RX2 yX2_arc wsX2_arc) := goodIn_app (goodIn_of _ (by decide +kernel)) ggX2_otherEnd_X2_arc
set_option maxRecDepth 20000 in
theorem ggX2_otherEnd_X2_endCount : GoodIn wsX2_otherEnd wsX2_endCount := goodIn_r _ [10, 11, 12, 13, 14] (by decide +kernel) (by decide +kernel)
set_option maxRecDepth 20000 in
theorem gX2_otherEnd_X2_endCount : GoodIn wsX2_otherEnd (wsV RX2 22 RX2 yX2_endCount wsX2_endCount) := goodIn_app (goodIn_of _ (by decide +kernel)) ggX2_otherEnd_X2_endCount
theorem dX2_otherEnd_0 : decode cX2_otherEnd 0 = .ok (.aload_n 0, 1) := by decide +kernel
theorem dX2_otherEnd_1 : decode cX2_otherEnd 1 = .ok (.iload_n 1, 1) := by decide +kernel
theorem dX2_otherEnd_2 : decode cX2_otherEnd 2 = .ok (.invokevirtual 26, 3) := by decide +kernel
theorem dX2_otherEnd_5 : decode cX2_otherEnd 5 = .ok (.istore_n 2, 1) := by decide +kernel
theorem dX2_otherEnd_6 : decode cX2_otherEnd 6 = .ok (.aload_n 0, 1) := by decide +kernel
theorem dX2_otherEnd_7 : decode cX2_otherEnd 7 = .ok (.invokevirtual 22, 3) := by decide +kernel
theorem dX2_otherEnd_10 : decode cX2_otherEnd 10 = .ok (.istore_n 3, 1) := by decide +kernel
theorem dX2_otherEnd_11 : decode cX2_otherEnd 11 = .ok (.iconst 0, 1) := by decide +kernel
theorem dX2_otherEnd_12 : decode cX2_otherEnd 12 = .ok (.istore 4, 2) := by decide +kernel
theorem dX2_otherEnd_14 : decode cX2_otherEnd 14 = .ok (.iload 4, 2) := by decide +kernel
theorem dX2_otherEnd_16 : decode cX2_otherEnd 16 = .ok (.iload_n 3, 1) := by decide +kernel
theorem dX2_otherEnd_17 : decode cX2_otherEnd 17 = .ok (.if_icmp .ge 28, 3) := by decide +kernel
theorem dX2_otherEnd_20 : decode cX2_otherEnd 20 = .ok (.iload 4, 2) := by decide +kernel
theorem dX2_otherEnd_22 : decode cX2_otherEnd 22 = .ok (.iload_n 1, 1) := by decide +kernel
theorem dX2_otherEnd_23 : decode cX2_otherEnd 23 = .ok (.if_icmp .eq 16, 3) := by decide +kernel
theorem dX2_otherEnd_26 : decode cX2_otherEnd 26 = .ok (.aload_n 0, 1) := by decide +kernel
theorem dX2_otherEnd_27 : decode cX2_otherEnd 27 = .ok (.iload 4, 2) := by decide +kernel
theorem dX2_otherEnd_29 : decode cX2_otherEnd 29 = .ok (.invokevirtual 26, 3) := by decide +kernel
theorem dX2_otherEnd_32 : decode cX2_otherEnd 32 = .ok (.iload_n 2, 1) := by decide +kernel
theorem dX2_otherEnd_33 : decode cX2_otherEnd 33 = .ok (.if_icmp .ne 6, 3) := by decide +kernel
theorem dX2_otherEnd_36 : decode cX2_otherEnd 36 = .ok (.iload 4, 2) := by decide +kernel
theorem dX2_otherEnd_38 : decode cX2_otherEnd 38 = .ok (.ireturn, 1) := by decide +kernel
theorem dX2_otherEnd_39 : decode cX2_otherEnd 39 = .ok (.iinc 4 1, 3) := by decide +kernel
theorem dX2_otherEnd_42 : decode cX2_otherEnd 42 = .ok (.goto (-28), 3) := by decide +kernel
theorem dX2_otherEnd_45 : decode cX2_otherEnd 45 = .ok (.iload_n 1, 1) := by decide +kernel
theorem dX2_otherEnd_46 : decode cX2_otherEnd 46 = .ok (.ireturn, 1) := by decide +kernel
set_option maxRecDepth 20000 in
theorem ggX2_exchangeStrands_X2_arc : GoodIn wsX2_exchangeStrands wsX2_arc := goodIn_r _ [5, 6, 11, 12, 13] (by decide +kernel) (by decide +kernel)
set_option maxRecDepth 20000 in
theorem gX2_exchangeStrands_X2_arc : GoodIn wsX2_exchangeStrands (wsV RX2 26 RX2 yX2_arc wsX2_arc) := goodIn_app (goodIn_of _ (by decide +kernel)) ggX2_exchangeStrands_X2_arc
set_option maxRecDepth 20000 in
theorem ggX2_exchangeStrands_X2_setArc : GoodIn wsX2_exchangeStrands wsX2_setArc := goodIn_r _ [10, 6, 11, 12, 13] (by decide +kernel) (by decide +kernel)
set_option maxRecDepth 20000 in
theorem gX2_exchangeStrands_X2_setArc : GoodIn wsX2_exchangeStrands (wsV RX2 30 RX2 yX2_setArc wsX2_setArc) := goodIn_app (goodIn_of _ (by decide +kernel)) ggX2_exchangeStrands_X2_setArc
theorem dX2_exchangeStrands_0 : decode cX2_exchangeStrands 0 = .ok (.iconst 4, 1) := by decide +kernel
theorem dX2_exchangeStrands_1 : decode cX2_exchangeStrands 1 = .ok (.iload_n 1, 1) := by decide +kernel
theorem dX2_exchangeStrands_2 : decode cX2_exchangeStrands 2 = .ok (.imul, 1) := by decide +kernel
theorem dX2_exchangeStrands_3 : decode cX2_exchangeStrands 3 = .ok (.istore_n 2, 1) := by decide +kernel
theorem dX2_exchangeStrands_4 : decode cX2_exchangeStrands 4 = .ok (.aload_n 0, 1) := by decide +kernel
theorem dX2_exchangeStrands_5 : decode cX2_exchangeStrands 5 = .ok (.iload_n 2, 1) := by decide +kernel
theorem dX2_exchangeStrands_6 : decode cX2_exchangeStrands 6 = .ok (.invokevirtual 26, 3) := by decide +kernel
theorem dX2_exchangeStrands_9 : decode cX2_exchangeStrands 9 = .ok (.istore_n 3, 1) := by decide +kernel
theorem dX2_exchangeStrands_10 : decode cX2_exchangeStrands 10 = .ok (.aload_n 0, 1) := by decide +kernel
theorem dX2_exchangeStrands_11 : decode cX2_exchangeStrands 11 = .ok (.iload_n 2, 1) := by decide +kernel
theorem dX2_exchangeStrands_12 : decode cX2_exchangeStrands 12 = .ok (.aload_n 0, 1) := by decide +kernel
theorem dX2_exchangeStrands_13 : decode cX2_exchangeStrands 13 = .ok (.iload_n 2, 1) := by decide +kernel
theorem dX2_exchangeStrands_14 : decode cX2_exchangeStrands 14 = .ok (.iconst 1, 1) := by decide +kernel
theorem dX2_exchangeStrands_15 : decode cX2_exchangeStrands 15 = .ok (.iadd, 1) := by decide +kernel
theorem dX2_exchangeStrands_16 : decode cX2_exchangeStrands 16 = .ok (.invokevirtual 26, 3) := by decide +kernel
theorem dX2_exchangeStrands_19 : decode cX2_exchangeStrands 19 = .ok (.invokevirtual 30, 3) := by decide +kernel
theorem dX2_exchangeStrands_22 : decode cX2_exchangeStrands 22 = .ok (.aload_n 0, 1) := by decide +kernel
theorem dX2_exchangeStrands_23 : decode cX2_exchangeStrands 23 = .ok (.iload_n 2, 1) := by decide +kernel
theorem dX2_exchangeStrands_24 : decode cX2_exchangeStrands 24 = .ok (.iconst 1, 1) := by decide +kernel
theorem dX2_exchangeStrands_25 : decode cX2_exchangeStrands 25 = .ok (.iadd, 1) := by decide +kernel
theorem dX2_exchangeStrands_26 : decode cX2_exchangeStrands 26 = .ok (.aload_n 0, 1) := by decide +kernel
theorem dX2_exchangeStrands_27 : decode cX2_exchangeStrands 27 = .ok (.iload_n 2, 1) := by decide +kernel
theorem dX2_exchangeStrands_28 : decode cX2_exchangeStrands 28 = .ok (.iconst 2, 1) := by decide +kernel
theorem dX2_exchangeStrands_29 : decode cX2_exchangeStrands 29 = .ok (.iadd, 1) := by decide +kernel
theorem dX2_exchangeStrands_30 : decode cX2_exchangeStrands 30 = .ok (.invokevirtual 26, 3) := by decide +kernel
theorem dX2_exchangeStrands_33 : decode cX2_exchangeStrands 33 = .ok (.invokevirtual 30, 3) := by decide +kernel
theorem dX2_exchangeStrands_36 : decode cX2_exchangeStrands 36 = .ok (.aload_n 0, 1) := by decide +kernel
theorem dX2_exchangeStrands_37 : decode cX2_exchangeStrands 37 = .ok (.iload_n 2, 1) := by decide +kernel
theorem dX2_exchangeStrands_38 : decode cX2_exchangeStrands 38 = .ok (.iconst 2, 1) := by decide +kernel
theorem dX2_exchangeStrands_39 : decode cX2_exchangeStrands 39 = .ok (.iadd, 1) := by decide +kernel
theorem dX2_exchangeStrands_40 : decode cX2_exchangeStrands 40 = .ok (.aload_n 0, 1) := by decide +kernel
theorem dX2_exchangeStrands_41 : decode cX2_exchangeStrands 41 = .ok (.iload_n 2, 1) := by decide +kernel
theorem dX2_exchangeStrands_42 : decode cX2_exchangeStrands 42 = .ok (.iconst 3, 1) := by decide +kernel
theorem dX2_exchangeStrands_43 : decode cX2_exchangeStrands 43 = .ok (.iadd, 1) := by decide +kernel
theorem dX2_exchangeStrands_44 : decode cX2_exchangeStrands 44 = .ok (.invokevirtual 26, 3) := by decide +kernel
theorem dX2_exchangeStrands_47 : decode cX2_exchangeStrands 47 = .ok (.invokevirtual 30, 3) := by decide +kernel
theorem dX2_exchangeStrands_50 : decode cX2_exchangeStrands 50 = .ok (.aload_n 0, 1) := by decide +kernel
theorem dX2_exchangeStrands_51 : decode cX2_exchangeStrands 51 = .ok (.iload_n 2, 1) := by decide +kernel
theorem dX2_exchangeStrands_52 : decode cX2_exchangeStrands 52 = .ok (.iconst 3, 1) := by decide +kernel
theorem dX2_exchangeStrands_53 : decode cX2_exchangeStrands 53 = .ok (.iadd, 1) := by decide +kernel
theorem dX2_exchangeStrands_54 : decode cX2_exchangeStrands 54 = .ok (.iload_n 3, 1) := by decide +kernel
theorem dX2_exchangeStrands_55 : decode cX2_exchangeStrands 55 = .ok (.invokevirtual 30, 3) := by decide +kernel
theorem dX2_exchangeStrands_58 : decode cX2_exchangeStrands 58 = .ok (.return_, 1) := by decide +kernel
set_option maxRecDepth 20000 in
theorem ggX2_join_X2_arc : GoodIn wsX2_join wsX2_arc := goodIn_r _ [13, 14, 24, 25, 26] (by decide +kernel) (by decide +kernel)
set_option maxRecDepth 20000 in
theorem gX2_join_X2_arc : GoodIn wsX2_join (wsV RX2 26 RX2 yX2_arc wsX2_arc) := goodIn_app (goodIn_of _ (by decide +kernel)) ggX2_join_X2_arc
set_option maxRecDepth 20000 in
theorem ggX2_join_X2_endCount : GoodIn wsX2_join wsX2_endCount := goodIn_r _ [18, 19, 24, 25, 26] (by decide +kernel) (by decide +kernel)
set_option maxRecDepth 20000 in
theorem gX2_join_X2_endCount : GoodIn wsX2_join (wsV RX2 22 RX2 yX2_endCount wsX2_endCount) := goodIn_app (goodIn_of _ (by decide +kernel)) ggX2_join_X2_endCount
set_option maxRecDepth 20000 in
theorem ggX2_join_X2_setArc : GoodIn wsX2_join wsX2_setArc := goodIn_r _ [23, 14, 24, 25, 26] (by decide +kernel) (by decide +kernel)
set_option maxRecDepth 20000 in
theorem gX2_join_X2_setArc : GoodIn wsX2_join (wsV RX2 30 RX2 yX2_setArc wsX2_setArc) := goodIn_app (goodIn_of _ (by decide +kernel)) ggX2_join_X2_setArc
theorem dX2_join_0 : decode cX2_join 0 = .ok (.aload_n 0, 1) := by decide +kernel
theorem dX2_join_1 : decode cX2_join 1 = .ok (.iload_n 1, 1) := by decide +kernel
theorem dX2_join_2 : decode cX2_join 2 = .ok (.invokevirtual 26, 3) := by decide +kernel
theorem dX2_join_5 : decode cX2_join 5 = .ok (.istore_n 3, 1) := by decide +kernel
theorem dX2_join_6 : decode cX2_join 6 = .ok (.aload_n 0, 1) := by decide +kernel
theorem dX2_join_7 : decode cX2_join 7 = .ok (.iload_n 2, 1) := by decide +kernel
theorem dX2_join_8 : decode cX2_join 8 = .ok (.invokevirtual 26, 3) := by decide +kernel
theorem dX2_join_11 : decode cX2_join 11 = .ok (.istore 4, 2) := by decide +kernel
theorem dX2_join_13 : decode cX2_join 13 = .ok (.iload_n 3, 1) := by decide +kernel
theorem dX2_join_14 : decode cX2_join 14 = .ok (.iload 4, 2) := by decide +kernel
theorem dX2_join_16 : decode cX2_join 16 = .ok (.if_icmp .ne 14, 3) := by decide +kernel
theorem dX2_join_19 : decode cX2_join 19 = .ok (.aload_n 0, 1) := by decide +kernel
theorem dX2_join_20 : decode cX2_join 20 = .ok (.dup, 1) := by decide +kernel
theorem dX2_join_21 : decode cX2_join 21 = .ok (.getfield 19, 3) := by decide +kernel
theorem dX2_join_24 : decode cX2_join 24 = .ok (.iconst 1, 1) := by decide +kernel
theorem dX2_join_25 : decode cX2_join 25 = .ok (.iadd, 1) := by decide +kernel
theorem dX2_join_26 : decode cX2_join 26 = .ok (.putfield 19, 3) := by decide +kernel
theorem dX2_join_29 : decode cX2_join 29 = .ok (.return_, 1) := by decide +kernel
theorem dX2_join_30 : decode cX2_join 30 = .ok (.iload_n 3, 1) := by decide +kernel
theorem dX2_join_31 : decode cX2_join 31 = .ok (.iload 4, 2) := by decide +kernel
theorem dX2_join_33 : decode cX2_join 33 = .ok (.invokestatic 34, 3) := by decide +kernel
theorem dX2_join_36 : decode cX2_join 36 = .ok (.istore 5, 2) := by decide +kernel
theorem dX2_join_38 : decode cX2_join 38 = .ok (.aload_n 0, 1) := by decide +kernel
theorem dX2_join_39 : decode cX2_join 39 = .ok (.invokevirtual 22, 3) := by decide +kernel
theorem dX2_join_42 : decode cX2_join 42 = .ok (.istore 6, 2) := by decide +kernel
theorem dX2_join_44 : decode cX2_join 44 = .ok (.iconst 0, 1) := by decide +kernel
theorem dX2_join_45 : decode cX2_join 45 = .ok (.istore 7, 2) := by decide +kernel
theorem dX2_join_47 : decode cX2_join 47 = .ok (.iload 7, 2) := by decide +kernel
theorem dX2_join_49 : decode cX2_join 49 = .ok (.iload 6, 2) := by decide +kernel
theorem dX2_join_51 : decode cX2_join 51 = .ok (.if_icmp .ge 32, 3) := by decide +kernel
theorem dX2_join_54 : decode cX2_join 54 = .ok (.aload_n 0, 1) := by decide +kernel
theorem dX2_join_55 : decode cX2_join 55 = .ok (.iload 7, 2) := by decide +kernel
theorem dX2_join_57 : decode cX2_join 57 = .ok (.invokevirtual 26, 3) := by decide +kernel
theorem dX2_join_60 : decode cX2_join 60 = .ok (.iload 5, 2) := by decide +kernel
theorem dX2_join_62 : decode cX2_join 62 = .ok (.if_icmp .ne 15, 3) := by decide +kernel
theorem dX2_join_65 : decode cX2_join 65 = .ok (.aload_n 0, 1) := by decide +kernel
theorem dX2_join_66 : decode cX2_join 66 = .ok (.iload 7, 2) := by decide +kernel
theorem dX2_join_68 : decode cX2_join 68 = .ok (.iload_n 3, 1) := by decide +kernel
theorem dX2_join_69 : decode cX2_join 69 = .ok (.iload 4, 2) := by decide +kernel
theorem dX2_join_71 : decode cX2_join 71 = .ok (.invokestatic 40, 3) := by decide +kernel
theorem dX2_join_74 : decode cX2_join 74 = .ok (.invokevirtual 30, 3) := by decide +kernel
theorem dX2_join_77 : decode cX2_join 77 = .ok (.iinc 7 1, 3) := by decide +kernel
theorem dX2_join_80 : decode cX2_join 80 = .ok (.goto (-33), 3) := by decide +kernel
theorem dX2_join_83 : decode cX2_join 83 = .ok (.return_, 1) := by decide +kernel
set_option maxRecDepth 20000 in
theorem ggX2_drop_X2_endCount : GoodIn wsX2_drop wsX2_endCount := goodIn_r _ [6, 1, 16, 17, 18] (by decide +kernel) (by decide +kernel)
set_option maxRecDepth 20000 in
theorem gX2_drop_X2_endCount : GoodIn wsX2_drop (wsV RX2 22 RX2 yX2_endCount wsX2_endCount) := goodIn_app (goodIn_of _ (by decide +kernel)) ggX2_drop_X2_endCount
set_option maxRecDepth 20000 in
theorem ggX2_drop_X2_arc : GoodIn wsX2_drop wsX2_arc := goodIn_r _ [10, 11, 16, 17, 18] (by decide +kernel) (by decide +kernel)
set_option maxRecDepth 20000 in
theorem gX2_drop_X2_arc : GoodIn wsX2_drop (wsV RX2 26 RX2 yX2_arc wsX2_arc) := goodIn_app (goodIn_of _ (by decide +kernel)) ggX2_drop_X2_arc
set_option maxRecDepth 20000 in
theorem ggX2_drop_X2_setArc : GoodIn wsX2_drop wsX2_setArc := goodIn_r _ [15, 11, 16, 17, 18] (by decide +kernel) (by decide +kernel)
set_option maxRecDepth 20000 in
theorem gX2_drop_X2_setArc : GoodIn wsX2_drop (wsV RX2 30 RX2 yX2_setArc wsX2_setArc) := goodIn_app (goodIn_of _ (by decide +kernel)) ggX2_drop_X2_setArc
theorem dX2_drop_0 : decode cX2_drop 0 = .ok (.aload_n 0, 1) := by decide +kernel
theorem dX2_drop_1 : decode cX2_drop 1 = .ok (.invokevirtual 22, 3) := by decide +kernel
theorem dX2_drop_4 : decode cX2_drop 4 = .ok (.istore_n 2, 1) := by decide +kernel
theorem dX2_drop_5 : decode cX2_drop 5 = .ok (.iconst 4, 1) := by decide +kernel
theorem dX2_drop_6 : decode cX2_drop 6 = .ok (.iload_n 1, 1) := by decide +kernel
theorem dX2_drop_7 : decode cX2_drop 7 = .ok (.imul, 1) := by decide +kernel
theorem dX2_drop_8 : decode cX2_drop 8 = .ok (.istore_n 3, 1) := by decide +kernel
theorem dX2_drop_9 : decode cX2_drop 9 = .ok (.iload_n 3, 1) := by decide +kernel
theorem dX2_drop_10 : decode cX2_drop 10 = .ok (.iload_n 2, 1) := by decide +kernel
theorem dX2_drop_11 : decode cX2_drop 11 = .ok (.if_icmp .ge 21, 3) := by decide +kernel
theorem dX2_drop_14 : decode cX2_drop 14 = .ok (.aload_n 0, 1) := by decide +kernel
theorem dX2_drop_15 : decode cX2_drop 15 = .ok (.iload_n 3, 1) := by decide +kernel
theorem dX2_drop_16 : decode cX2_drop 16 = .ok (.aload_n 0, 1) := by decide +kernel
theorem dX2_drop_17 : decode cX2_drop 17 = .ok (.iload_n 3, 1) := by decide +kernel
theorem dX2_drop_18 : decode cX2_drop 18 = .ok (.iconst 4, 1) := by decide +kernel
theorem dX2_drop_19 : decode cX2_drop 19 = .ok (.iadd, 1) := by decide +kernel
theorem dX2_drop_20 : decode cX2_drop 20 = .ok (.invokevirtual 26, 3) := by decide +kernel
theorem dX2_drop_23 : decode cX2_drop 23 = .ok (.invokevirtual 30, 3) := by decide +kernel
theorem dX2_drop_26 : decode cX2_drop 26 = .ok (.iinc 3 1, 3) := by decide +kernel
theorem dX2_drop_29 : decode cX2_drop 29 = .ok (.goto (-20), 3) := by decide +kernel
theorem dX2_drop_32 : decode cX2_drop 32 = .ok (.aload_n 0, 1) := by decide +kernel
theorem dX2_drop_33 : decode cX2_drop 33 = .ok (.dup, 1) := by decide +kernel
theorem dX2_drop_34 : decode cX2_drop 34 = .ok (.getfield 15, 3) := by decide +kernel
theorem dX2_drop_37 : decode cX2_drop 37 = .ok (.iconst 1, 1) := by decide +kernel
theorem dX2_drop_38 : decode cX2_drop 38 = .ok (.isub, 1) := by decide +kernel
theorem dX2_drop_39 : decode cX2_drop 39 = .ok (.putfield 15, 3) := by decide +kernel
theorem dX2_drop_42 : decode cX2_drop 42 = .ok (.return_, 1) := by decide +kernel
theorem dX3_endOf_0 : decode cX3_endOf 0 = .ok (.iconst 4, 1) := by decide +kernel
theorem dX3_endOf_1 : decode cX3_endOf 1 = .ok (.iload_n 0, 1) := by decide +kernel
theorem dX3_endOf_2 : decode cX3_endOf 2 = .ok (.imul, 1) := by decide +kernel
theorem dX3_endOf_3 : decode cX3_endOf 3 = .ok (.iload_n 1, 1) := by decide +kernel
theorem dX3_endOf_4 : decode cX3_endOf 4 = .ok (.iconst 3, 1) := by decide +kernel
theorem dX3_endOf_5 : decode cX3_endOf 5 = .ok (.iand, 1) := by decide +kernel
theorem dX3_endOf_6 : decode cX3_endOf 6 = .ok (.iadd, 1) := by decide +kernel
theorem dX3_endOf_7 : decode cX3_endOf 7 = .ok (.ireturn, 1) := by decide +kernel
set_option maxRecDepth 20000 in
theorem ggX3_kinkEnd_X3_endOf : GoodIn wsX3_kinkEnd wsX3_endOf := goodIn_r _ [4] (by decide +kernel) (by decide +kernel)
set_option maxRecDepth 20000 in
theorem gX3_kinkEnd_X3_endOf : GoodIn wsX3_kinkEnd (va_wsS RX3 7 yX3_endOf wsX3_endOf) := goodIn_app (goodIn_of _ (by decide +kernel)) ggX3_kinkEnd_X3_endOf
set_option maxRecDepth 20000 in
theorem ggX3_kinkEnd_X2_arc : GoodIn wsX3_kinkEnd wsX2_arc := goodIn_r _ [9, 10, 11, 12, 13] (by decide +kernel) (by decide +kernel)
set_option maxRecDepth 20000 in
theorem gX3_kinkEnd_X2_arc : GoodIn wsX3_kinkEnd (wsV RX3 13 RX2 yX2_arc wsX2_arc) := goodIn_app (goodIn_of _ (by decide +kernel)) ggX3_kinkEnd_X2_arc
theorem dX3_kinkEnd_0 : decode cX3_kinkEnd 0 = .ok (.iconst 0, 1) := by decide +kernel
theorem dX3_kinkEnd_1 : decode cX3_kinkEnd 1 = .ok (.istore_n 2, 1) := by decide +kernel
theorem dX3_kinkEnd_2 : decode cX3_kinkEnd 2 = .ok (.iload_n 2, 1) := by decide +kernel
theorem dX3_kinkEnd_3 : decode cX3_kinkEnd 3 = .ok (.iconst 4, 1) := by decide +kernel
theorem dX3_kinkEnd_4 : decode cX3_kinkEnd 4 = .ok (.if_icmp .ge 34, 3) := by decide +kernel
theorem dX3_kinkEnd_7 : decode cX3_kinkEnd 7 = .ok (.aload_n 0, 1) := by decide +kernel
theorem dX3_kinkEnd_8 : decode cX3_kinkEnd 8 = .ok (.iload_n 1, 1) := by decide +kernel
theorem dX3_kinkEnd_9 : decode cX3_kinkEnd 9 = .ok (.iload_n 2, 1) := by decide +kernel
theorem dX3_kinkEnd_10 : decode cX3_kinkEnd 10 = .ok (.invokestatic 7, 3) := by decide +kernel
theorem dX3_kinkEnd_13 : decode cX3_kinkEnd 13 = .ok (.invokevirtual 13, 3) := by decide +kernel
theorem dX3_kinkEnd_16 : decode cX3_kinkEnd 16 = .ok (.aload_n 0, 1) := by decide +kernel
theorem dX3_kinkEnd_17 : decode cX3_kinkEnd 17 = .ok (.iload_n 1, 1) := by decide +kernel
theorem dX3_kinkEnd_18 : decode cX3_kinkEnd 18 = .ok (.iload_n 2, 1) := by decide +kernel
theorem dX3_kinkEnd_19 : decode cX3_kinkEnd 19 = .ok (.iconst 1, 1) := by decide +kernel
theorem dX3_kinkEnd_20 : decode cX3_kinkEnd 20 = .ok (.iadd, 1) := by decide +kernel
theorem dX3_kinkEnd_21 : decode cX3_kinkEnd 21 = .ok (.invokestatic 7, 3) := by decide +kernel
theorem dX3_kinkEnd_24 : decode cX3_kinkEnd 24 = .ok (.invokevirtual 13, 3) := by decide +kernel
theorem dX3_kinkEnd_27 : decode cX3_kinkEnd 27 = .ok (.if_icmp .ne 5, 3) := by decide +kernel
theorem dX3_kinkEnd_30 : decode cX3_kinkEnd 30 = .ok (.iload_n 2, 1) := by decide +kernel
theorem dX3_kinkEnd_31 : decode cX3_kinkEnd 31 = .ok (.ireturn, 1) := by decide +kernel
theorem dX3_kinkEnd_32 : decode cX3_kinkEnd 32 = .ok (.iinc 2 1, 3) := by decide +kernel
theorem dX3_kinkEnd_35 : decode cX3_kinkEnd 35 = .ok (.goto (-33), 3) := by decide +kernel
theorem dX3_kinkEnd_38 : decode cX3_kinkEnd 38 = .ok (.iconst (-1), 1) := by decide +kernel
theorem dX3_kinkEnd_39 : decode cX3_kinkEnd 39 = .ok (.ireturn, 1) := by decide +kernel
set_option maxRecDepth 20000 in
theorem ggX3_bigonCorner_X3_isBigon : GoodIn wsX3_bigonCorner wsX3_isBigon := goodIn_r _ [4, 5, 6, 3, 7, 8, 9, 10, 11, 12, 13, 14, 15, 16] (by decide +kernel) (by decide +kernel)
set_option maxRecDepth 20000 in
theorem gX3_bigonCorner_X3_isBigon : GoodIn wsX3_bigonCorner (va_wsS RX3 19 yX3_isBigon wsX3_isBigon) := goodIn_app (goodIn_of _ (by decide +kernel)) ggX3_bigonCorner_X3_isBigon
