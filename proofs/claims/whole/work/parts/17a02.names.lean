set_option maxRecDepth 20000 in
theorem gX5_near_J9_floorMod_7cf53 : GoodIn wsX5_near (va_wsS RX5 64 yJ9_floorMod_7cf53 wsJ9_floorMod_7cf53) := goodIn_app (goodIn_of _ (by decide +kernel)) ggX5_near_J9_floorMod_7cf53
set_option maxRecDepth 20000 in
theorem ggX5_near_X3_lesserAt : GoodIn wsX5_near wsX3_lesserAt := goodIn_r _ [18, 19, 20, 21, 22, 23, 24, 25, 26, 27, 28, 29, 30, 31, 32, 33, 34, 35, 36, 37, 38, 39, 40, 6, 41, 57, 58, 59, 42, 43, 44, 45, 46, 47, 48, 49, 50, 51, 52, 53, 60, 61] (by decide +kernel) (by decide +kernel)
set_option maxRecDepth 20000 in
theorem gX5_near_X3_lesserAt : GoodIn wsX5_near (wsV RX5 112 RX3 yX3_lesserAt wsX3_lesserAt) := goodIn_app (goodIn_of _ (by decide +kernel)) ggX5_near_X3_lesserAt
theorem dX5_near_13 : decode cX5_near 13 = .ok (.iload_n 2, 1) := by decide +kernel
theorem dX5_near_14 : decode cX5_near 14 = .ok (.aload_n 3, 1) := by decide +kernel
theorem dX5_near_15 : decode cX5_near 15 = .ok (.getfield 51, 3) := by decide +kernel
theorem dX5_near_18 : decode cX5_near 18 = .ok (.invokestatic 64, 3) := by decide +kernel
theorem dX5_near_21 : decode cX5_near 21 = .ok (.istore 4, 2) := by decide +kernel
theorem dX5_near_23 : decode cX5_near 23 = .ok (.iconst 0, 1) := by decide +kernel
theorem dX5_near_24 : decode cX5_near 24 = .ok (.istore 5, 2) := by decide +kernel
theorem dX5_near_26 : decode cX5_near 26 = .ok (.iload 5, 2) := by decide +kernel
theorem dX5_near_28 : decode cX5_near 28 = .ok (.aload_n 3, 1) := by decide +kernel
theorem dX5_near_29 : decode cX5_near 29 = .ok (.getfield 51, 3) := by decide +kernel
theorem dX5_near_32 : decode cX5_near 32 = .ok (.if_icmp .ge 38, 3) := by decide +kernel
theorem dX5_near_35 : decode cX5_near 35 = .ok (.aload_n 0, 1) := by decide +kernel
theorem dX5_near_36 : decode cX5_near 36 = .ok (.getfield 22, 3) := by decide +kernel
theorem dX5_near_39 : decode cX5_near 39 = .ok (.aload_n 3, 1) := by decide +kernel
theorem dX5_near_40 : decode cX5_near 40 = .ok (.iload 4, 2) := by decide +kernel
theorem dX5_near_42 : decode cX5_near 42 = .ok (.iload 5, 2) := by decide +kernel
theorem dX5_near_44 : decode cX5_near 44 = .ok (.iadd, 1) := by decide +kernel
theorem dX5_near_45 : decode cX5_near 45 = .ok (.aload_n 3, 1) := by decide +kernel
theorem dX5_near_46 : decode cX5_near 46 = .ok (.getfield 51, 3) := by decide +kernel
theorem dX5_near_49 : decode cX5_near 49 = .ok (.irem, 1) := by decide +kernel
theorem dX5_near_50 : decode cX5_near 50 = .ok (.invokevirtual 112, 3) := by decide +kernel
theorem dX5_near_53 : decode cX5_near 53 = .ok (.istore 6, 2) := by decide +kernel
theorem dX5_near_55 : decode cX5_near 55 = .ok (.iload 6, 2) := by decide +kernel
theorem dX5_near_57 : decode cX5_near 57 = .ok (.iconst (-1), 1) := by decide +kernel
theorem dX5_near_58 : decode cX5_near 58 = .ok (.if_icmp .eq 6, 3) := by decide +kernel
theorem dX5_near_61 : decode cX5_near 61 = .ok (.iload 6, 2) := by decide +kernel
theorem dX5_near_63 : decode cX5_near 63 = .ok (.ireturn, 1) := by decide +kernel
theorem dX5_near_64 : decode cX5_near 64 = .ok (.iinc 5 1, 3) := by decide +kernel
theorem dX5_near_67 : decode cX5_near 67 = .ok (.goto (-41), 3) := by decide +kernel
theorem dX5_near_70 : decode cX5_near 70 = .ok (.iconst (-1), 1) := by decide +kernel
theorem dX5_near_71 : decode cX5_near 71 = .ok (.ireturn, 1) := by decide +kernel
set_option maxRecDepth 20000 in
theorem ggX5_nth_X5_at : GoodIn wsX5_nth wsX5_at := goodIn_r _ [6, 7, 8, 53, 54, 55] (by decide +kernel) (by decide +kernel)
set_option maxRecDepth 20000 in
theorem gX5_nth_X5_at : GoodIn wsX5_nth (wsV RX5 47 RX5 yX5_at wsX5_at) := goodIn_app (goodIn_of _ (by decide +kernel)) ggX5_nth_X5_at
set_option maxRecDepth 20000 in
theorem ggX5_nth_X3_pointNumber : GoodIn wsX5_nth wsX3_pointNumber := goodIn_r _ [13, 14, 15, 16, 17, 18, 19, 20, 21, 22, 23, 24, 25, 12, 26, 27, 28, 29, 30, 31, 32, 33, 34, 35, 36, 37, 38, 39, 40, 41, 42, 43, 5, 44, 45, 46, 47, 48, 49, 50, 51, 52, 56, 57, 58, 59, 60, 61, 62, 63, 64, 65, 66, 67, 68, 69, 70, 71, 72] (by decide +kernel) (by decide +kernel)
set_option maxRecDepth 20000 in
theorem gX5_nth_X3_pointNumber : GoodIn wsX5_nth (wsV RX5 119 RX3 yX3_pointNumber wsX3_pointNumber) := goodIn_app (goodIn_of _ (by decide +kernel)) ggX5_nth_X3_pointNumber
theorem dX5_nth_13 : decode cX5_nth 13 = .ok (.iload_n 2, 1) := by decide +kernel
theorem dX5_nth_14 : decode cX5_nth 14 = .ok (.ifCond .ne 7, 3) := by decide +kernel
theorem dX5_nth_17 : decode cX5_nth 17 = .ok (.iconst (-1), 1) := by decide +kernel
theorem dX5_nth_18 : decode cX5_nth 18 = .ok (.goto 12, 3) := by decide +kernel
theorem dX5_nth_21 : decode cX5_nth 21 = .ok (.aload_n 0, 1) := by decide +kernel
theorem dX5_nth_22 : decode cX5_nth 22 = .ok (.getfield 22, 3) := by decide +kernel
theorem dX5_nth_25 : decode cX5_nth 25 = .ok (.aload_n 3, 1) := by decide +kernel
theorem dX5_nth_26 : decode cX5_nth 26 = .ok (.iload_n 2, 1) := by decide +kernel
theorem dX5_nth_27 : decode cX5_nth 27 = .ok (.invokevirtual 119, 3) := by decide +kernel
theorem dX5_nth_30 : decode cX5_nth 30 = .ok (.ireturn, 1) := by decide +kernel
set_option maxRecDepth 20000 in
theorem ggX5_rank_X5_at : GoodIn wsX5_rank wsX5_at := goodIn_r _ [6, 7, 8, 58, 59, 60] (by decide +kernel) (by decide +kernel)
set_option maxRecDepth 20000 in
theorem gX5_rank_X5_at : GoodIn wsX5_rank (wsV RX5 47 RX5 yX5_at wsX5_at) := goodIn_app (goodIn_of _ (by decide +kernel)) ggX5_rank_X5_at
set_option maxRecDepth 20000 in
theorem ggX5_rank_X0_holds : GoodIn wsX5_rank wsX0_holds := goodIn_r _ [13, 14, 15, 5, 16, 17, 18, 19, 20, 21, 22, 23, 24, 25, 12, 26, 27, 28, 61, 62, 63, 64, 65, 66, 67, 68, 69, 70, 71, 72] (by decide +kernel) (by decide +kernel)
set_option maxRecDepth 20000 in
theorem gX5_rank_X0_holds : GoodIn wsX5_rank (wsV RX5 84 RX0 yX0_holds wsX0_holds) := goodIn_app (goodIn_of _ (by decide +kernel)) ggX5_rank_X0_holds
set_option maxRecDepth 20000 in
theorem ggX5_rank_X3_pointsAhead : GoodIn wsX5_rank wsX3_pointsAhead := goodIn_r _ [33, 34, 15, 5, 16, 35, 24, 25, 12, 26, 27, 14, 28, 36, 37, 38, 32, 39, 40, 41, 42, 43, 44, 45, 46, 47, 48, 49, 50, 51, 52, 53, 54, 55, 56, 57, 61, 62, 63, 64, 65, 66, 67, 68, 69, 70, 71, 72, 73, 74, 75, 76, 77] (by decide +kernel) (by decide +kernel)
set_option maxRecDepth 20000 in
theorem gX5_rank_X3_pointsAhead : GoodIn wsX5_rank (wsV RX5 122 RX3 yX3_pointsAhead wsX3_pointsAhead) := goodIn_app (goodIn_of _ (by decide +kernel)) ggX5_rank_X3_pointsAhead
theorem dX5_rank_10 : decode cX5_rank 10 = .ok (.aload_n 3, 1) := by decide +kernel
theorem dX5_rank_11 : decode cX5_rank 11 = .ok (.iload_n 2, 1) := by decide +kernel
theorem dX5_rank_12 : decode cX5_rank 12 = .ok (.invokevirtual 84, 3) := by decide +kernel
theorem dX5_rank_15 : decode cX5_rank 15 = .ok (.ifCond .ne 6, 3) := by decide +kernel
theorem dX5_rank_21 : decode cX5_rank 21 = .ok (.iload_n 2, 1) := by decide +kernel
theorem dX5_rank_22 : decode cX5_rank 22 = .ok (.iconst (-1), 1) := by decide +kernel
theorem dX5_rank_23 : decode cX5_rank 23 = .ok (.if_icmp .ne 7, 3) := by decide +kernel
theorem dX5_rank_26 : decode cX5_rank 26 = .ok (.iconst 0, 1) := by decide +kernel
theorem dX5_rank_27 : decode cX5_rank 27 = .ok (.goto 12, 3) := by decide +kernel
theorem dX5_rank_30 : decode cX5_rank 30 = .ok (.aload_n 0, 1) := by decide +kernel
theorem dX5_rank_31 : decode cX5_rank 31 = .ok (.getfield 22, 3) := by decide +kernel
theorem dX5_rank_34 : decode cX5_rank 34 = .ok (.aload_n 3, 1) := by decide +kernel
theorem dX5_rank_35 : decode cX5_rank 35 = .ok (.iload_n 2, 1) := by decide +kernel
theorem dX5_rank_36 : decode cX5_rank 36 = .ok (.invokevirtual 122, 3) := by decide +kernel
theorem dX5_rank_39 : decode cX5_rank 39 = .ok (.ireturn, 1) := by decide +kernel
set_option maxRecDepth 20000 in
theorem ggX5_add_X5_at : GoodIn wsX5_add wsX5_at := goodIn_r _ [5, 6, 7, 37, 38, 39] (by decide +kernel) (by decide +kernel)
set_option maxRecDepth 20000 in
theorem gX5_add_X5_at : GoodIn wsX5_add (wsV RX5 47 RX5 yX5_at wsX5_at) := goodIn_app (goodIn_of _ (by decide +kernel)) ggX5_add_X5_at
set_option maxRecDepth 20000 in
theorem ggX5_add_X0_holds : GoodIn wsX5_add wsX0_holds := goodIn_r _ [12, 13, 14, 4, 15, 16, 17, 18, 19, 20, 21, 22, 23, 24, 11, 25, 26, 27, 40, 41, 42, 43, 44, 45, 46, 47, 48, 49, 50, 51] (by decide +kernel) (by decide +kernel)
set_option maxRecDepth 20000 in
theorem gX5_add_X0_holds : GoodIn wsX5_add (wsV RX5 84 RX0 yX0_holds wsX0_holds) := goodIn_app (goodIn_of _ (by decide +kernel)) ggX5_add_X0_holds
set_option maxRecDepth 20000 in
theorem ggX5_add_X0_sum : GoodIn wsX5_add wsX0_sum := goodIn_r _ [31, 13, 26, 14, 4, 15, 16, 17, 32, 33, 20, 34, 35, 36, 40, 41, 42, 43, 44, 45, 46, 47, 48, 49, 50, 51] (by decide +kernel) (by decide +kernel)
set_option maxRecDepth 20000 in
theorem gX5_add_X0_sum : GoodIn wsX5_add (wsV RX5 125 RX0 yX0_sum wsX0_sum) := goodIn_app (goodIn_of _ (by decide +kernel)) ggX5_add_X0_sum
theorem dX5_add_12 : decode cX5_add 12 = .ok (.aload 4, 2) := by decide +kernel
theorem dX5_add_14 : decode cX5_add 14 = .ok (.iload_n 2, 1) := by decide +kernel
theorem dX5_add_15 : decode cX5_add 15 = .ok (.invokevirtual 84, 3) := by decide +kernel
theorem dX5_add_18 : decode cX5_add 18 = .ok (.ifCond .eq 12, 3) := by decide +kernel
theorem dX5_add_21 : decode cX5_add 21 = .ok (.aload 4, 2) := by decide +kernel
theorem dX5_add_23 : decode cX5_add 23 = .ok (.iload_n 3, 1) := by decide +kernel
theorem dX5_add_24 : decode cX5_add 24 = .ok (.invokevirtual 84, 3) := by decide +kernel
theorem dX5_add_27 : decode cX5_add 27 = .ok (.ifCond .ne 6, 3) := by decide +kernel
theorem dX5_add_33 : decode cX5_add 33 = .ok (.aload 4, 2) := by decide +kernel
theorem dX5_add_35 : decode cX5_add 35 = .ok (.iload_n 2, 1) := by decide +kernel
theorem dX5_add_36 : decode cX5_add 36 = .ok (.iload_n 3, 1) := by decide +kernel
theorem dX5_add_37 : decode cX5_add 37 = .ok (.invokevirtual 125, 3) := by decide +kernel
theorem dX5_add_40 : decode cX5_add 40 = .ok (.ireturn, 1) := by decide +kernel
set_option maxRecDepth 20000 in
theorem ggX5_negative_X5_at : GoodIn wsX5_negative wsX5_at := goodIn_r _ [5, 6, 7, 34, 35, 36] (by decide +kernel) (by decide +kernel)
set_option maxRecDepth 20000 in
theorem gX5_negative_X5_at : GoodIn wsX5_negative (wsV RX5 47 RX5 yX5_at wsX5_at) := goodIn_app (goodIn_of _ (by decide +kernel)) ggX5_negative_X5_at
set_option maxRecDepth 20000 in
theorem ggX5_negative_X0_holds : GoodIn wsX5_negative wsX0_holds := goodIn_r _ [12, 13, 14, 4, 15, 16, 17, 18, 19, 20, 21, 22, 23, 24, 11, 25, 26, 27, 37, 38, 39, 40, 41, 42, 43, 44, 45, 46, 47, 48] (by decide +kernel) (by decide +kernel)
set_option maxRecDepth 20000 in
theorem gX5_negative_X0_holds : GoodIn wsX5_negative (wsV RX5 84 RX0 yX0_holds wsX0_holds) := goodIn_app (goodIn_of _ (by decide +kernel)) ggX5_negative_X0_holds
set_option maxRecDepth 20000 in
theorem ggX5_negative_X0_opposite : GoodIn wsX5_negative wsX0_opposite := goodIn_r _ [31, 13, 16, 4, 17, 14, 15, 32, 33, 37, 38, 39, 40, 41, 42, 43, 44, 45, 46, 47, 48] (by decide +kernel) (by decide +kernel)
set_option maxRecDepth 20000 in
theorem gX5_negative_X0_opposite : GoodIn wsX5_negative (wsV RX5 116 RX0 yX0_opposite wsX0_opposite) := goodIn_app (goodIn_of _ (by decide +kernel)) ggX5_negative_X0_opposite
theorem dX5_negative_10 : decode cX5_negative 10 = .ok (.aload_n 3, 1) := by decide +kernel
theorem dX5_negative_11 : decode cX5_negative 11 = .ok (.iload_n 2, 1) := by decide +kernel
theorem dX5_negative_12 : decode cX5_negative 12 = .ok (.invokevirtual 84, 3) := by decide +kernel
theorem dX5_negative_15 : decode cX5_negative 15 = .ok (.ifCond .ne 8, 3) := by decide +kernel
theorem dX5_negative_23 : decode cX5_negative 23 = .ok (.aload_n 3, 1) := by decide +kernel
theorem dX5_negative_24 : decode cX5_negative 24 = .ok (.iload_n 2, 1) := by decide +kernel
theorem dX5_negative_25 : decode cX5_negative 25 = .ok (.invokevirtual 116, 3) := by decide +kernel
set_option maxRecDepth 20000 in
theorem ggX5_times_X5_at : GoodIn wsX5_times wsX5_at := goodIn_r _ [5, 6, 7, 45, 46, 47] (by decide +kernel) (by decide +kernel)
set_option maxRecDepth 20000 in
theorem gX5_times_X5_at : GoodIn wsX5_times (wsV RX5 47 RX5 yX5_at wsX5_at) := goodIn_app (goodIn_of _ (by decide +kernel)) ggX5_times_X5_at
set_option maxRecDepth 20000 in
theorem ggX5_times_X0_holds : GoodIn wsX5_times wsX0_holds := goodIn_r _ [12, 13, 14, 4, 15, 16, 17, 18, 19, 20, 21, 22, 23, 24, 11, 25, 26, 27, 48, 49, 50, 51, 52, 53, 54, 55, 56, 57, 58, 59] (by decide +kernel) (by decide +kernel)
set_option maxRecDepth 20000 in
theorem gX5_times_X0_holds : GoodIn wsX5_times (wsV RX5 84 RX0 yX0_holds wsX0_holds) := goodIn_app (goodIn_of _ (by decide +kernel)) ggX5_times_X0_holds
set_option maxRecDepth 20000 in
theorem ggX5_times_X0_multiple : GoodIn wsX5_times wsX0_multiple := goodIn_r _ [31, 32, 33, 34, 11, 35, 13, 16, 4, 17, 14, 15, 36, 37, 38, 39, 40, 41, 26, 42, 43, 20, 44, 48, 49, 50, 51, 52, 53, 54, 55, 56, 57, 58, 59] (by decide +kernel) (by decide +kernel)
set_option maxRecDepth 20000 in
theorem gX5_times_X0_multiple : GoodIn wsX5_times (wsV RX5 128 RX0 yX0_multiple wsX0_multiple) := goodIn_app (goodIn_of _ (by decide +kernel)) ggX5_times_X0_multiple
theorem dX5_times_12 : decode cX5_times 12 = .ok (.aload 5, 2) := by decide +kernel
theorem dX5_times_14 : decode cX5_times 14 = .ok (.iload_n 2, 1) := by decide +kernel
theorem dX5_times_15 : decode cX5_times 15 = .ok (.invokevirtual 84, 3) := by decide +kernel
theorem dX5_times_18 : decode cX5_times 18 = .ok (.ifCond .ne 8, 3) := by decide +kernel
theorem dX5_times_26 : decode cX5_times 26 = .ok (.aload 5, 2) := by decide +kernel
theorem dX5_times_28 : decode cX5_times 28 = .ok (.iload_n 2, 1) := by decide +kernel
theorem dX5_times_29 : decode cX5_times 29 = .ok (.lload_n 3, 1) := by decide +kernel
theorem dX5_times_30 : decode cX5_times 30 = .ok (.invokevirtual 128, 3) := by decide +kernel
set_option maxRecDepth 20000 in
theorem ggX5_alone_X5_at : GoodIn wsX5_alone wsX5_at := goodIn_r _ [7, 8, 9, 96, 97, 98] (by decide +kernel) (by decide +kernel)
set_option maxRecDepth 20000 in
theorem gX5_alone_X5_at : GoodIn wsX5_alone (wsV RX5 47 RX5 yX5_at wsX5_at) := goodIn_app (goodIn_of _ (by decide +kernel)) ggX5_alone_X5_at
set_option maxRecDepth 20000 in
theorem ggX5_alone_X4_isBelow : GoodIn wsX5_alone wsX4_isBelow := goodIn_r _ [13] (by decide +kernel) (by decide +kernel)
set_option maxRecDepth 20000 in
theorem gX5_alone_X4_isBelow : GoodIn wsX5_alone (va_wsS RX5 32 yX4_isBelow wsX4_isBelow) := goodIn_app (goodIn_of _ (by decide +kernel)) ggX5_alone_X4_isBelow
set_option maxRecDepth 20000 in
theorem ggX5_alone_X3_lesserAt : GoodIn wsX5_alone wsX3_lesserAt := goodIn_r _ [18, 19, 20, 21, 22, 23, 24, 25, 26, 27, 28, 29, 30, 31, 32, 33, 34, 35, 36, 37, 38, 39, 40, 6, 41, 99, 100, 101, 84, 85, 86, 87, 88, 89, 90, 91, 92, 93, 94, 95, 102, 103] (by decide +kernel) (by decide +kernel)
set_option maxRecDepth 20000 in
theorem gX5_alone_X3_lesserAt : GoodIn wsX5_alone (wsV RX5 112 RX3 yX3_lesserAt wsX3_lesserAt) := goodIn_app (goodIn_of _ (by decide +kernel)) ggX5_alone_X3_lesserAt
set_option maxRecDepth 20000 in
theorem ggX5_alone_X0_multiple : GoodIn wsX5_alone wsX0_multiple := goodIn_r _ [45, 46, 47, 48, 24, 49, 27, 50, 6, 51, 52, 53, 40, 41, 54, 55, 56, 57, 26, 58, 59, 12, 60, 84, 85, 86, 87, 88, 89, 90, 91, 92, 93, 94, 95] (by decide +kernel) (by decide +kernel)
set_option maxRecDepth 20000 in
theorem gX5_alone_X0_multiple : GoodIn wsX5_alone (wsV RX5 128 RX0 yX0_multiple wsX0_multiple) := goodIn_app (goodIn_of _ (by decide +kernel)) ggX5_alone_X0_multiple
set_option maxRecDepth 20000 in
theorem ggX5_alone_X5_xOf : GoodIn wsX5_alone wsX5_xOf := goodIn_r _ [53] (by decide +kernel) (by decide +kernel)
set_option maxRecDepth 20000 in
theorem gX5_alone_X5_xOf : GoodIn wsX5_alone (va_wsS RX5 87 yX5_xOf wsX5_xOf) := goodIn_app (goodIn_of _ (by decide +kernel)) ggX5_alone_X5_xOf
set_option maxRecDepth 20000 in
theorem ggX5_alone_X4_leastNoSquare : GoodIn wsX5_alone wsX4_leastNoSquare := goodIn_r _ [64, 65, 66, 12, 67] (by decide +kernel) (by decide +kernel)
set_option maxRecDepth 20000 in
theorem gX5_alone_X4_leastNoSquare : GoodIn wsX5_alone (va_wsS RX5 70 yX4_leastNoSquare wsX4_leastNoSquare) := goodIn_app (goodIn_of _ (by decide +kernel)) ggX5_alone_X4_leastNoSquare
set_option maxRecDepth 20000 in
theorem ggX5_alone_X0_twisted : GoodIn wsX5_alone wsX0_twisted := goodIn_r _ [71, 27, 72, 73, 24, 26, 28, 74, 63, 12, 64, 65, 66, 67, 75, 76, 77, 78, 79, 80, 81, 82, 84, 85, 86, 87, 88, 89, 90, 91, 92, 93, 94, 95] (by decide +kernel) (by decide +kernel)
set_option maxRecDepth 20000 in
theorem gX5_alone_X0_twisted : GoodIn wsX5_alone (wsV RX5 77 RX0 yX0_twisted wsX0_twisted) := goodIn_app (goodIn_of _ (by decide +kernel)) ggX5_alone_X0_twisted
set_option maxRecDepth 20000 in
theorem ggX5_alone_X4_inverted : GoodIn wsX5_alone wsX4_inverted := goodIn_r _ [60] (by decide +kernel) (by decide +kernel)
set_option maxRecDepth 20000 in
theorem gX5_alone_X4_inverted : GoodIn wsX5_alone (va_wsS RX5 99 yX4_inverted wsX4_inverted) := goodIn_app (goodIn_of _ (by decide +kernel)) ggX5_alone_X4_inverted
theorem dX5_alone_12 : decode cX5_alone 12 = .ok (.iload_n 2, 1) := by decide +kernel
theorem dX5_alone_13 : decode cX5_alone 13 = .ok (.aload 5, 2) := by decide +kernel
theorem dX5_alone_15 : decode cX5_alone 15 = .ok (.getfield 51, 3) := by decide +kernel
theorem dX5_alone_18 : decode cX5_alone 18 = .ok (.invokestatic 32, 3) := by decide +kernel
theorem dX5_alone_21 : decode cX5_alone 21 = .ok (.ifCond .ne 6, 3) := by decide +kernel
theorem dX5_alone_27 : decode cX5_alone 27 = .ok (.aload_n 0, 1) := by decide +kernel
theorem dX5_alone_28 : decode cX5_alone 28 = .ok (.getfield 22, 3) := by decide +kernel
theorem dX5_alone_31 : decode cX5_alone 31 = .ok (.aload 5, 2) := by decide +kernel
theorem dX5_alone_33 : decode cX5_alone 33 = .ok (.iload_n 2, 1) := by decide +kernel
theorem dX5_alone_34 : decode cX5_alone 34 = .ok (.invokevirtual 112, 3) := by decide +kernel
theorem dX5_alone_37 : decode cX5_alone 37 = .ok (.istore 6, 2) := by decide +kernel
theorem dX5_alone_39 : decode cX5_alone 39 = .ok (.iload 6, 2) := by decide +kernel
theorem dX5_alone_41 : decode cX5_alone 41 = .ok (.iconst (-1), 1) := by decide +kernel
theorem dX5_alone_42 : decode cX5_alone 42 = .ok (.if_icmp .eq 29, 3) := by decide +kernel
theorem dX5_alone_45 : decode cX5_alone 45 = .ok (.aload 5, 2) := by decide +kernel
theorem dX5_alone_47 : decode cX5_alone 47 = .ok (.iload 6, 2) := by decide +kernel
theorem dX5_alone_49 : decode cX5_alone 49 = .ok (.lload_n 3, 1) := by decide +kernel
theorem dX5_alone_50 : decode cX5_alone 50 = .ok (.invokevirtual 128, 3) := by decide +kernel
theorem dX5_alone_53 : decode cX5_alone 53 = .ok (.istore 7, 2) := by decide +kernel
theorem dX5_alone_55 : decode cX5_alone 55 = .ok (.iload 7, 2) := by decide +kernel
theorem dX5_alone_57 : decode cX5_alone 57 = .ok (.iconst (-1), 1) := by decide +kernel
theorem dX5_alone_58 : decode cX5_alone 58 = .ok (.if_icmp .ne 7, 3) := by decide +kernel
theorem dX5_alone_61 : decode cX5_alone 61 = .ok (.iconst (-1), 1) := by decide +kernel
theorem dX5_alone_62 : decode cX5_alone 62 = .ok (.goto 8, 3) := by decide +kernel
theorem dX5_alone_65 : decode cX5_alone 65 = .ok (.iload 7, 2) := by decide +kernel
theorem dX5_alone_67 : decode cX5_alone 67 = .ok (.invokestatic 87, 3) := by decide +kernel
theorem dX5_alone_70 : decode cX5_alone 70 = .ok (.ireturn, 1) := by decide +kernel
theorem dX5_alone_71 : decode cX5_alone 71 = .ok (.aload 5, 2) := by decide +kernel
theorem dX5_alone_73 : decode cX5_alone 73 = .ok (.getfield 51, 3) := by decide +kernel
theorem dX5_alone_76 : decode cX5_alone 76 = .ok (.invokestatic 70, 3) := by decide +kernel
theorem dX5_alone_79 : decode cX5_alone 79 = .ok (.istore 7, 2) := by decide +kernel
theorem dX5_alone_81 : decode cX5_alone 81 = .ok (.aload 5, 2) := by decide +kernel
theorem dX5_alone_83 : decode cX5_alone 83 = .ok (.invokevirtual 77, 3) := by decide +kernel
theorem dX5_alone_86 : decode cX5_alone 86 = .ok (.astore 8, 2) := by decide +kernel
theorem dX5_alone_88 : decode cX5_alone 88 = .ok (.aload 8, 2) := by decide +kernel
theorem dX5_alone_90 : decode cX5_alone 90 = .ok (.aload_n 0, 1) := by decide +kernel
theorem dX5_alone_91 : decode cX5_alone 91 = .ok (.getfield 22, 3) := by decide +kernel
theorem dX5_alone_94 : decode cX5_alone 94 = .ok (.aload 8, 2) := by decide +kernel
theorem dX5_alone_96 : decode cX5_alone 96 = .ok (.iload 7, 2) := by decide +kernel
theorem dX5_alone_98 : decode cX5_alone 98 = .ok (.iload_n 2, 1) := by decide +kernel
theorem dX5_alone_99 : decode cX5_alone 99 = .ok (.imul, 1) := by decide +kernel
theorem dX5_alone_100 : decode cX5_alone 100 = .ok (.aload 5, 2) := by decide +kernel
theorem dX5_alone_102 : decode cX5_alone 102 = .ok (.getfield 51, 3) := by decide +kernel
theorem dX5_alone_105 : decode cX5_alone 105 = .ok (.irem, 1) := by decide +kernel
theorem dX5_alone_106 : decode cX5_alone 106 = .ok (.invokevirtual 112, 3) := by decide +kernel
theorem dX5_alone_109 : decode cX5_alone 109 = .ok (.lload_n 3, 1) := by decide +kernel
theorem dX5_alone_110 : decode cX5_alone 110 = .ok (.invokevirtual 128, 3) := by decide +kernel
theorem dX5_alone_113 : decode cX5_alone 113 = .ok (.istore 9, 2) := by decide +kernel
theorem dX5_alone_115 : decode cX5_alone 115 = .ok (.iload 9, 2) := by decide +kernel
theorem dX5_alone_117 : decode cX5_alone 117 = .ok (.iconst (-1), 1) := by decide +kernel
theorem dX5_alone_118 : decode cX5_alone 118 = .ok (.if_icmp .ne 7, 3) := by decide +kernel
theorem dX5_alone_121 : decode cX5_alone 121 = .ok (.iconst (-1), 1) := by decide +kernel
theorem dX5_alone_122 : decode cX5_alone 122 = .ok (.goto 25, 3) := by decide +kernel
theorem dX5_alone_125 : decode cX5_alone 125 = .ok (.iload 9, 2) := by decide +kernel
theorem dX5_alone_127 : decode cX5_alone 127 = .ok (.invokestatic 87, 3) := by decide +kernel
theorem dX5_alone_130 : decode cX5_alone 130 = .ok (.iload 7, 2) := by decide +kernel
theorem dX5_alone_132 : decode cX5_alone 132 = .ok (.aload 5, 2) := by decide +kernel
theorem dX5_alone_134 : decode cX5_alone 134 = .ok (.getfield 51, 3) := by decide +kernel
theorem dX5_alone_137 : decode cX5_alone 137 = .ok (.invokestatic 99, 3) := by decide +kernel
theorem dX5_alone_140 : decode cX5_alone 140 = .ok (.imul, 1) := by decide +kernel
theorem dX5_alone_141 : decode cX5_alone 141 = .ok (.aload 5, 2) := by decide +kernel
theorem dX5_alone_143 : decode cX5_alone 143 = .ok (.getfield 51, 3) := by decide +kernel
theorem dX5_alone_146 : decode cX5_alone 146 = .ok (.irem, 1) := by decide +kernel
theorem dX5_alone_147 : decode cX5_alone 147 = .ok (.ireturn, 1) := by decide +kernel
set_option maxRecDepth 20000 in
theorem ggX5_count_X5_at : GoodIn wsX5_count wsX5_at := goodIn_r _ [6, 7, 8, 38, 39, 40] (by decide +kernel) (by decide +kernel)
set_option maxRecDepth 20000 in
theorem gX5_count_X5_at : GoodIn wsX5_count (wsV RX5 47 RX5 yX5_at wsX5_at) := goodIn_app (goodIn_of _ (by decide +kernel)) ggX5_count_X5_at
set_option maxRecDepth 20000 in
theorem ggX5_count_X3_sizeOf : GoodIn wsX5_count wsX3_sizeOf := goodIn_r _ [13, 14, 15, 16, 17, 18, 19, 20, 12, 21, 22, 23, 24, 25, 26, 27, 28, 29, 30, 31, 32, 33, 34, 35, 36, 37, 41, 42, 43, 44, 45, 46, 47, 48, 49, 50, 51, 52, 53, 54, 55, 56, 57] (by decide +kernel) (by decide +kernel)
set_option maxRecDepth 20000 in
theorem gX5_count_X3_sizeOf : GoodIn wsX5_count (wsV RX5 132 RX3 yX3_sizeOf wsX3_sizeOf) := goodIn_app (goodIn_of _ (by decide +kernel)) ggX5_count_X3_sizeOf
theorem dX5_count_15 : decode cX5_count 15 = .ok (.aload_n 0, 1) := by decide +kernel
theorem dX5_count_16 : decode cX5_count 16 = .ok (.getfield 22, 3) := by decide +kernel
theorem dX5_count_19 : decode cX5_count 19 = .ok (.aload_n 2, 1) := by decide +kernel
theorem dX5_count_20 : decode cX5_count 20 = .ok (.invokevirtual 132, 3) := by decide +kernel
set_option maxRecDepth 20000 in
theorem ggX5_countOver_X5_at : GoodIn wsX5_countOver wsX5_at := goodIn_r _ [9, 10, 11, 53, 54, 55] (by decide +kernel) (by decide +kernel)
set_option maxRecDepth 20000 in
theorem gX5_countOver_X5_at : GoodIn wsX5_countOver (wsV RX5 47 RX5 yX5_at wsX5_at) := goodIn_app (goodIn_of _ (by decide +kernel)) ggX5_countOver_X5_at
set_option maxRecDepth 20000 in
theorem ggX5_countOver_X3_sizeOf : GoodIn wsX5_countOver wsX3_sizeOf := goodIn_r _ [16, 17, 18, 19, 20, 21, 22, 23, 15, 24, 25, 26, 27, 28, 29, 30, 31, 32, 33, 34, 35, 36, 37, 38, 39, 40, 41, 42, 43, 44, 45, 46, 47, 48, 49, 50, 51, 52, 56, 57, 58, 59, 60] (by decide +kernel) (by decide +kernel)
set_option maxRecDepth 20000 in
theorem gX5_countOver_X3_sizeOf : GoodIn wsX5_countOver (wsV RX5 132 RX3 yX3_sizeOf wsX3_sizeOf) := goodIn_app (goodIn_of _ (by decide +kernel)) ggX5_countOver_X3_sizeOf
theorem dX5_countOver_10 : decode cX5_countOver 10 = .ok (.iload_n 2, 1) := by decide +kernel
theorem dX5_countOver_11 : decode cX5_countOver 11 = .ok (.iconst 1, 1) := by decide +kernel
theorem dX5_countOver_12 : decode cX5_countOver 12 = .ok (.if_icmp .lt 8, 3) := by decide +kernel
theorem dX5_countOver_15 : decode cX5_countOver 15 = .ok (.iload_n 2, 1) := by decide +kernel
theorem dX5_countOver_16 : decode cX5_countOver 16 = .ok (.iconst 4, 1) := by decide +kernel
theorem dX5_countOver_17 : decode cX5_countOver 17 = .ok (.if_icmp .le 7, 3) := by decide +kernel
theorem dX5_countOver_24 : decode cX5_countOver 24 = .ok (.aload_n 3, 1) := by decide +kernel
theorem dX5_countOver_25 : decode cX5_countOver 25 = .ok (.getfield 51, 3) := by decide +kernel
theorem dX5_countOver_28 : decode cX5_countOver 28 = .ok (.iconst 1, 1) := by decide +kernel
theorem dX5_countOver_29 : decode cX5_countOver 29 = .ok (.iadd, 1) := by decide +kernel
theorem dX5_countOver_30 : decode cX5_countOver 30 = .ok (.aload_n 0, 1) := by decide +kernel
theorem dX5_countOver_31 : decode cX5_countOver 31 = .ok (.getfield 22, 3) := by decide +kernel
theorem dX5_countOver_34 : decode cX5_countOver 34 = .ok (.aload_n 3, 1) := by decide +kernel
theorem dX5_countOver_35 : decode cX5_countOver 35 = .ok (.invokevirtual 132, 3) := by decide +kernel
theorem dX5_countOver_38 : decode cX5_countOver 38 = .ok (.isub, 1) := by decide +kernel
theorem dX5_countOver_39 : decode cX5_countOver 39 = .ok (.i2l, 1) := by decide +kernel
theorem dX5_countOver_40 : decode cX5_countOver 40 = .ok (.lstore 4, 2) := by decide +kernel
theorem dX5_countOver_42 : decode cX5_countOver 42 = .ok (.ldc2_w 137, 3) := by decide +kernel
theorem dX5_countOver_45 : decode cX5_countOver 45 = .ok (.lstore 6, 2) := by decide +kernel
theorem dX5_countOver_47 : decode cX5_countOver 47 = .ok (.lload 4, 2) := by decide +kernel
theorem dX5_countOver_49 : decode cX5_countOver 49 = .ok (.lstore 8, 2) := by decide +kernel
theorem dX5_countOver_51 : decode cX5_countOver 51 = .ok (.aload_n 3, 1) := by decide +kernel
theorem dX5_countOver_52 : decode cX5_countOver 52 = .ok (.getfield 51, 3) := by decide +kernel
theorem dX5_countOver_55 : decode cX5_countOver 55 = .ok (.i2l, 1) := by decide +kernel
theorem dX5_countOver_56 : decode cX5_countOver 56 = .ok (.lstore 10, 2) := by decide +kernel
theorem dX5_countOver_58 : decode cX5_countOver 58 = .ok (.iconst 1, 1) := by decide +kernel
theorem dX5_countOver_59 : decode cX5_countOver 59 = .ok (.istore 12, 2) := by decide +kernel
theorem dX5_countOver_61 : decode cX5_countOver 61 = .ok (.iload 12, 2) := by decide +kernel
theorem dX5_countOver_63 : decode cX5_countOver 63 = .ok (.iload_n 2, 1) := by decide +kernel
theorem dX5_countOver_64 : decode cX5_countOver 64 = .ok (.if_icmp .ge 43, 3) := by decide +kernel
theorem dX5_countOver_67 : decode cX5_countOver 67 = .ok (.lload 4, 2) := by decide +kernel
theorem dX5_countOver_69 : decode cX5_countOver 69 = .ok (.lload 8, 2) := by decide +kernel
theorem dX5_countOver_71 : decode cX5_countOver 71 = .ok (.lmul, 1) := by decide +kernel
theorem dX5_countOver_72 : decode cX5_countOver 72 = .ok (.aload_n 3, 1) := by decide +kernel
theorem dX5_countOver_73 : decode cX5_countOver 73 = .ok (.getfield 51, 3) := by decide +kernel
theorem dX5_countOver_76 : decode cX5_countOver 76 = .ok (.i2l, 1) := by decide +kernel
theorem dX5_countOver_77 : decode cX5_countOver 77 = .ok (.lload 6, 2) := by decide +kernel
theorem dX5_countOver_79 : decode cX5_countOver 79 = .ok (.lmul, 1) := by decide +kernel
theorem dX5_countOver_80 : decode cX5_countOver 80 = .ok (.lsub, 1) := by decide +kernel
theorem dX5_countOver_81 : decode cX5_countOver 81 = .ok (.lstore 13, 2) := by decide +kernel
theorem dX5_countOver_83 : decode cX5_countOver 83 = .ok (.lload 8, 2) := by decide +kernel
theorem dX5_countOver_85 : decode cX5_countOver 85 = .ok (.lstore 6, 2) := by decide +kernel
theorem dX5_countOver_87 : decode cX5_countOver 87 = .ok (.lload 13, 2) := by decide +kernel
theorem dX5_countOver_89 : decode cX5_countOver 89 = .ok (.lstore 8, 2) := by decide +kernel
theorem dX5_countOver_91 : decode cX5_countOver 91 = .ok (.lload 10, 2) := by decide +kernel
theorem dX5_countOver_93 : decode cX5_countOver 93 = .ok (.aload_n 3, 1) := by decide +kernel
theorem dX5_countOver_94 : decode cX5_countOver 94 = .ok (.getfield 51, 3) := by decide +kernel
theorem dX5_countOver_97 : decode cX5_countOver 97 = .ok (.i2l, 1) := by decide +kernel
theorem dX5_countOver_98 : decode cX5_countOver 98 = .ok (.lmul, 1) := by decide +kernel
theorem dX5_countOver_99 : decode cX5_countOver 99 = .ok (.lstore 10, 2) := by decide +kernel
theorem dX5_countOver_101 : decode cX5_countOver 101 = .ok (.iinc 12 1, 3) := by decide +kernel
theorem dX5_countOver_104 : decode cX5_countOver 104 = .ok (.goto (-43), 3) := by decide +kernel
theorem dX5_countOver_107 : decode cX5_countOver 107 = .ok (.lload 10, 2) := by decide +kernel
theorem dX5_countOver_109 : decode cX5_countOver 109 = .ok (.lconst 1, 1) := by decide +kernel
theorem dX5_countOver_110 : decode cX5_countOver 110 = .ok (.ladd, 1) := by decide +kernel
theorem dX5_countOver_111 : decode cX5_countOver 111 = .ok (.lload 8, 2) := by decide +kernel
theorem dX5_countOver_113 : decode cX5_countOver 113 = .ok (.lsub, 1) := by decide +kernel
theorem dX5_countOver_114 : decode cX5_countOver 114 = .ok (.lreturn, 1) := by decide +kernel
set_option maxRecDepth 20000 in
theorem ggX5_bound_X5_at : GoodIn wsX5_bound wsX5_at := goodIn_r _ [6, 7, 8, 25, 26, 27] (by decide +kernel) (by decide +kernel)
set_option maxRecDepth 20000 in
theorem gX5_bound_X5_at : GoodIn wsX5_bound (wsV RX5 47 RX5 yX5_at wsX5_at) := goodIn_app (goodIn_of _ (by decide +kernel)) ggX5_bound_X5_at
set_option maxRecDepth 20000 in
theorem ggX5_bound_X4_reachOf : GoodIn wsX5_bound wsX4_reachOf := goodIn_r _ [12] (by decide +kernel) (by decide +kernel)
set_option maxRecDepth 20000 in
theorem gX5_bound_X4_reachOf : GoodIn wsX5_bound (va_wsS RX5 139 yX4_reachOf wsX4_reachOf) := goodIn_app (goodIn_of _ (by decide +kernel)) ggX5_bound_X4_reachOf
theorem dX5_bound_10 : decode cX5_bound 10 = .ok (.iload_n 2, 1) := by decide +kernel
theorem dX5_bound_11 : decode cX5_bound 11 = .ok (.ifCond .lt 8, 3) := by decide +kernel
theorem dX5_bound_14 : decode cX5_bound 14 = .ok (.iload_n 2, 1) := by decide +kernel
theorem dX5_bound_15 : decode cX5_bound 15 = .ok (.iconst 1, 1) := by decide +kernel
theorem dX5_bound_16 : decode cX5_bound 16 = .ok (.if_icmp .le 6, 3) := by decide +kernel
theorem dX5_bound_22 : decode cX5_bound 22 = .ok (.aload_n 3, 1) := by decide +kernel
theorem dX5_bound_23 : decode cX5_bound 23 = .ok (.getfield 51, 3) := by decide +kernel
theorem dX5_bound_26 : decode cX5_bound 26 = .ok (.invokestatic 139, 3) := by decide +kernel
theorem dX5_bound_29 : decode cX5_bound 29 = .ok (.istore 4, 2) := by decide +kernel
theorem dX5_bound_31 : decode cX5_bound 31 = .ok (.iload_n 2, 1) := by decide +kernel
theorem dX5_bound_32 : decode cX5_bound 32 = .ok (.ifCond .ne 15, 3) := by decide +kernel
theorem dX5_bound_35 : decode cX5_bound 35 = .ok (.aload_n 3, 1) := by decide +kernel
theorem dX5_bound_36 : decode cX5_bound 36 = .ok (.getfield 51, 3) := by decide +kernel
theorem dX5_bound_39 : decode cX5_bound 39 = .ok (.iconst 1, 1) := by decide +kernel
theorem dX5_bound_40 : decode cX5_bound 40 = .ok (.iadd, 1) := by decide +kernel
theorem dX5_bound_41 : decode cX5_bound 41 = .ok (.iload 4, 2) := by decide +kernel
theorem dX5_bound_43 : decode cX5_bound 43 = .ok (.isub, 1) := by decide +kernel
theorem dX5_bound_44 : decode cX5_bound 44 = .ok (.goto 12, 3) := by decide +kernel
theorem dX5_bound_47 : decode cX5_bound 47 = .ok (.aload_n 3, 1) := by decide +kernel
theorem dX5_bound_48 : decode cX5_bound 48 = .ok (.getfield 51, 3) := by decide +kernel
theorem dX5_bound_51 : decode cX5_bound 51 = .ok (.iconst 1, 1) := by decide +kernel
theorem dX5_bound_52 : decode cX5_bound 52 = .ok (.iadd, 1) := by decide +kernel
theorem dX5_bound_53 : decode cX5_bound 53 = .ok (.iload 4, 2) := by decide +kernel
theorem dX5_bound_55 : decode cX5_bound 55 = .ok (.iadd, 1) := by decide +kernel
theorem dX5_bound_56 : decode cX5_bound 56 = .ok (.ireturn, 1) := by decide +kernel
set_option maxRecDepth 20000 in
theorem ggX5_proof_X5_at : GoodIn wsX5_proof wsX5_at := goodIn_r _ [8, 9, 10, 178, 179, 180] (by decide +kernel) (by decide +kernel)
set_option maxRecDepth 20000 in
theorem gX5_proof_X5_at : GoodIn wsX5_proof (wsV RX5 47 RX5 yX5_at wsX5_at) := goodIn_app (goodIn_of _ (by decide +kernel)) ggX5_proof_X5_at
set_option maxRecDepth 20000 in
theorem ggX5_proof_X0_twisted : GoodIn wsX5_proof wsX0_twisted := goodIn_r _ [15, 16, 17, 18, 14, 19, 20, 21, 22, 23, 24, 25, 26, 27, 28, 29, 30, 31, 32, 33, 34, 35, 166, 167, 168, 169, 170, 171, 172, 173, 174, 175, 176, 177] (by decide +kernel) (by decide +kernel)
set_option maxRecDepth 20000 in
theorem gX5_proof_X0_twisted : GoodIn wsX5_proof (wsV RX5 77 RX0 yX0_twisted wsX0_twisted) := goodIn_app (goodIn_of _ (by decide +kernel)) ggX5_proof_X0_twisted
set_option maxRecDepth 20000 in
theorem ggX5_proof_X3_sizeOf : GoodIn wsX5_proof wsX3_sizeOf := goodIn_r _ [40, 41, 42, 43, 44, 45, 46, 47, 39, 48, 49, 50, 51, 52, 53, 54, 55, 56, 57, 58, 59, 60, 61, 62, 63, 64, 166, 167, 168, 169, 170, 171, 172, 173, 174, 175, 176, 177, 181, 182, 183, 184, 185] (by decide +kernel) (by decide +kernel)
set_option maxRecDepth 20000 in
theorem gX5_proof_X3_sizeOf : GoodIn wsX5_proof (wsV RX5 132 RX3 yX3_sizeOf wsX3_sizeOf) := goodIn_app (goodIn_of _ (by decide +kernel)) ggX5_proof_X3_sizeOf
set_option maxRecDepth 20000 in
theorem ggX5_proof_X3_settle : GoodIn wsX5_proof wsX3_settle := goodIn_r _ [68, 69, 42, 41, 70, 71, 37, 38, 39, 40, 43, 44, 45, 46, 47, 48, 49, 50, 51, 52, 53, 54, 55, 56, 57, 58, 59, 60, 61, 62, 63, 64, 72, 73, 23, 74, 75, 76, 77, 78, 79, 80, 81, 82, 83, 84, 85, 86, 87, 88, 89, 90, 91, 92, 93, 94, 95, 96, 97, 98, 99, 100, 101, 102, 7, 103, 104, 105, 106, 14, 107, 16, 19, 108, 109, 110, 111, 112, 113, 114, 115, 116, 117, 118, 119, 120, 121, 122, 123, 124, 125, 126, 20, 127, 128, 129, 130, 131, 132, 133, 134, 135, 136, 137, 138, 139, 140, 141, 142, 143, 144, 145, 146, 147, 148, 149, 150, 151, 152, 153, 154, 166, 167, 168, 169, 170, 171, 172, 173, 174, 175, 176, 177, 181, 182, 183, 184, 185, 186, 187, 188, 189, 190, 191] (by decide +kernel) (by decide +kernel)
set_option maxRecDepth 20000 in
theorem gX5_proof_X3_settle : GoodIn wsX5_proof (wsV RX5 145 RX3 yX3_settle wsX3_settle) := goodIn_app (goodIn_of _ (by decide +kernel)) ggX5_proof_X3_settle
set_option maxRecDepth 20000 in
theorem ggX5_proof_X3_leastProver : GoodIn wsX5_proof wsX3_leastProver := goodIn_r _ [158, 70, 42, 159, 160, 161, 14, 162, 16, 163, 164, 23, 165, 119, 120, 121, 39, 122, 53, 123, 124, 125, 126, 19, 20, 54, 55, 56, 57, 58, 59, 60, 61, 62, 63, 64, 113, 7, 114, 133, 134, 135, 136, 137, 73, 74, 138, 128, 129, 130, 131, 116, 117, 118, 108, 109, 102, 103, 132, 105, 106, 107, 110, 111, 112, 166, 167, 168, 169, 170, 171, 172, 173, 174, 175, 176, 177, 181, 182, 183, 184, 185] (by decide +kernel) (by decide +kernel)
set_option maxRecDepth 20000 in
theorem gX5_proof_X3_leastProver : GoodIn wsX5_proof (wsV RX5 149 RX3 yX3_leastProver wsX3_leastProver) := goodIn_app (goodIn_of _ (by decide +kernel)) ggX5_proof_X3_leastProver
theorem dX5_proof_10 : decode cX5_proof 10 = .ok (.iload_n 2, 1) := by decide +kernel
theorem dX5_proof_11 : decode cX5_proof 11 = .ok (.ifCond .lt 8, 3) := by decide +kernel
theorem dX5_proof_14 : decode cX5_proof 14 = .ok (.iload_n 2, 1) := by decide +kernel
theorem dX5_proof_15 : decode cX5_proof 15 = .ok (.iconst 1, 1) := by decide +kernel
theorem dX5_proof_16 : decode cX5_proof 16 = .ok (.if_icmp .le 6, 3) := by decide +kernel
theorem dX5_proof_22 : decode cX5_proof 22 = .ok (.aload_n 3, 1) := by decide +kernel
theorem dX5_proof_23 : decode cX5_proof 23 = .ok (.astore 4, 2) := by decide +kernel
theorem dX5_proof_25 : decode cX5_proof 25 = .ok (.iload_n 2, 1) := by decide +kernel
theorem dX5_proof_26 : decode cX5_proof 26 = .ok (.iconst 1, 1) := by decide +kernel
theorem dX5_proof_27 : decode cX5_proof 27 = .ok (.if_icmp .ne 31, 3) := by decide +kernel
theorem dX5_proof_30 : decode cX5_proof 30 = .ok (.aload_n 3, 1) := by decide +kernel
theorem dX5_proof_31 : decode cX5_proof 31 = .ok (.invokevirtual 77, 3) := by decide +kernel
theorem dX5_proof_34 : decode cX5_proof 34 = .ok (.astore 4, 2) := by decide +kernel
theorem dX5_proof_36 : decode cX5_proof 36 = .ok (.aload 4, 2) := by decide +kernel
theorem dX5_proof_38 : decode cX5_proof 38 = .ok (.iconst 2, 1) := by decide +kernel
theorem dX5_proof_39 : decode cX5_proof 39 = .ok (.aload_n 3, 1) := by decide +kernel
theorem dX5_proof_40 : decode cX5_proof 40 = .ok (.getfield 51, 3) := by decide +kernel
theorem dX5_proof_43 : decode cX5_proof 43 = .ok (.imul, 1) := by decide +kernel
theorem dX5_proof_44 : decode cX5_proof 44 = .ok (.iconst 2, 1) := by decide +kernel
theorem dX5_proof_45 : decode cX5_proof 45 = .ok (.iadd, 1) := by decide +kernel
theorem dX5_proof_46 : decode cX5_proof 46 = .ok (.aload_n 0, 1) := by decide +kernel
theorem dX5_proof_47 : decode cX5_proof 47 = .ok (.getfield 22, 3) := by decide +kernel
theorem dX5_proof_50 : decode cX5_proof 50 = .ok (.aload_n 3, 1) := by decide +kernel
theorem dX5_proof_51 : decode cX5_proof 51 = .ok (.invokevirtual 132, 3) := by decide +kernel
theorem dX5_proof_54 : decode cX5_proof 54 = .ok (.isub, 1) := by decide +kernel
theorem dX5_proof_55 : decode cX5_proof 55 = .ok (.putfield 142, 3) := by decide +kernel
theorem dX5_proof_58 : decode cX5_proof 58 = .ok (.aload_n 0, 1) := by decide +kernel
theorem dX5_proof_59 : decode cX5_proof 59 = .ok (.getfield 22, 3) := by decide +kernel
theorem dX5_proof_62 : decode cX5_proof 62 = .ok (.aload 4, 2) := by decide +kernel
theorem dX5_proof_64 : decode cX5_proof 64 = .ok (.invokevirtual 145, 3) := by decide +kernel
theorem dX5_proof_67 : decode cX5_proof 67 = .ok (.aload_n 0, 1) := by decide +kernel
theorem dX5_proof_68 : decode cX5_proof 68 = .ok (.getfield 22, 3) := by decide +kernel
theorem dX5_proof_71 : decode cX5_proof 71 = .ok (.aload 4, 2) := by decide +kernel
theorem dX5_proof_73 : decode cX5_proof 73 = .ok (.invokevirtual 149, 3) := by decide +kernel
theorem dX5_proof_76 : decode cX5_proof 76 = .ok (.ireturn, 1) := by decide +kernel
set_option maxRecDepth 20000 in
theorem ggX5_supersingular_X5_at : GoodIn wsX5_supersingular wsX5_at := goodIn_r _ [7, 8, 9, 51, 52, 53] (by decide +kernel) (by decide +kernel)
set_option maxRecDepth 20000 in
theorem gX5_supersingular_X5_at : GoodIn wsX5_supersingular (wsV RX5 47 RX5 yX5_at wsX5_at) := goodIn_app (goodIn_of _ (by decide +kernel)) ggX5_supersingular_X5_at
set_option maxRecDepth 20000 in
theorem ggX5_supersingular_X3_sizeOf : GoodIn wsX5_supersingular wsX3_sizeOf := goodIn_r _ [14, 15, 16, 17, 18, 19, 20, 21, 13, 22, 23, 24, 25, 26, 27, 28, 29, 30, 31, 32, 33, 34, 35, 36, 37, 38, 39, 40, 41, 42, 43, 44, 45, 46, 47, 48, 49, 50, 54, 55, 56, 57, 58] (by decide +kernel) (by decide +kernel)
set_option maxRecDepth 20000 in
theorem gX5_supersingular_X3_sizeOf : GoodIn wsX5_supersingular (wsV RX5 132 RX3 yX3_sizeOf wsX3_sizeOf) := goodIn_app (goodIn_of _ (by decide +kernel)) ggX5_supersingular_X3_sizeOf
theorem dX5_supersingular_13 : decode cX5_supersingular 13 = .ok (.aload_n 2, 1) := by decide +kernel
theorem dX5_supersingular_14 : decode cX5_supersingular 14 = .ok (.getfield 51, 3) := by decide +kernel
theorem dX5_supersingular_17 : decode cX5_supersingular 17 = .ok (.iconst 1, 1) := by decide +kernel
theorem dX5_supersingular_18 : decode cX5_supersingular 18 = .ok (.iadd, 1) := by decide +kernel
theorem dX5_supersingular_19 : decode cX5_supersingular 19 = .ok (.aload_n 0, 1) := by decide +kernel
theorem dX5_supersingular_20 : decode cX5_supersingular 20 = .ok (.getfield 22, 3) := by decide +kernel
theorem dX5_supersingular_23 : decode cX5_supersingular 23 = .ok (.aload_n 2, 1) := by decide +kernel
theorem dX5_supersingular_24 : decode cX5_supersingular 24 = .ok (.invokevirtual 132, 3) := by decide +kernel
theorem dX5_supersingular_27 : decode cX5_supersingular 27 = .ok (.isub, 1) := by decide +kernel
theorem dX5_supersingular_28 : decode cX5_supersingular 28 = .ok (.aload_n 2, 1) := by decide +kernel
theorem dX5_supersingular_29 : decode cX5_supersingular 29 = .ok (.getfield 51, 3) := by decide +kernel
theorem dX5_supersingular_32 : decode cX5_supersingular 32 = .ok (.irem, 1) := by decide +kernel
theorem dX5_supersingular_33 : decode cX5_supersingular 33 = .ok (.ifCond .ne 7, 3) := by decide +kernel
theorem dX5_supersingular_36 : decode cX5_supersingular 36 = .ok (.iconst 1, 1) := by decide +kernel
theorem dX5_supersingular_37 : decode cX5_supersingular 37 = .ok (.goto 4, 3) := by decide +kernel
theorem dX5_supersingular_40 : decode cX5_supersingular 40 = .ok (.iconst 0, 1) := by decide +kernel
theorem dX5_supersingular_41 : decode cX5_supersingular 41 = .ok (.ireturn, 1) := by decide +kernel
set_option maxRecDepth 20000 in
theorem ggX5_order_X5_at : GoodIn wsX5_order wsX5_at := goodIn_r _ [6, 7, 8, 82, 83, 84] (by decide +kernel) (by decide +kernel)
set_option maxRecDepth 20000 in
theorem gX5_order_X5_at : GoodIn wsX5_order (wsV RX5 47 RX5 yX5_at wsX5_at) := goodIn_app (goodIn_of _ (by decide +kernel)) ggX5_order_X5_at
set_option maxRecDepth 20000 in
theorem ggX5_order_X0_holds : GoodIn wsX5_order wsX0_holds := goodIn_r _ [13, 14, 15, 5, 16, 17, 18, 19, 20, 21, 22, 23, 24, 25, 12, 26, 27, 28, 85, 86, 87, 88, 89, 90, 91, 92, 93, 94, 95, 96] (by decide +kernel) (by decide +kernel)
set_option maxRecDepth 20000 in
theorem gX5_order_X0_holds : GoodIn wsX5_order (wsV RX5 84 RX0 yX0_holds wsX0_holds) := goodIn_app (goodIn_of _ (by decide +kernel)) ggX5_order_X0_holds
set_option maxRecDepth 20000 in
theorem ggX5_order_X3_sizeOf : GoodIn wsX5_order wsX3_sizeOf := goodIn_r _ [33, 34, 35, 36, 37, 38, 39, 40, 32, 41, 42, 43, 44, 45, 46, 47, 48, 49, 50, 51, 52, 53, 54, 55, 56, 57, 85, 86, 87, 88, 89, 90, 91, 92, 93, 94, 95, 96, 97, 98, 99, 100, 101] (by decide +kernel) (by decide +kernel)
set_option maxRecDepth 20000 in
theorem gX5_order_X3_sizeOf : GoodIn wsX5_order (wsV RX5 132 RX3 yX3_sizeOf wsX3_sizeOf) := goodIn_app (goodIn_of _ (by decide +kernel)) ggX5_order_X3_sizeOf
set_option maxRecDepth 20000 in
theorem ggX5_order_X0_orderWithin : GoodIn wsX5_order wsX0_orderWithin := goodIn_r _ [61, 62, 63, 21, 64, 65, 66, 67, 12, 68, 69, 70, 71, 72, 14, 17, 5, 18, 15, 16, 73, 74, 75, 76, 77, 78, 27, 79, 80, 81, 85, 86, 87, 88, 89, 90, 91, 92, 93, 94, 95, 96] (by decide +kernel) (by decide +kernel)
set_option maxRecDepth 20000 in
theorem gX5_order_X0_orderWithin : GoodIn wsX5_order (wsV RX5 152 RX0 yX0_orderWithin wsX0_orderWithin) := goodIn_app (goodIn_of _ (by decide +kernel)) ggX5_order_X0_orderWithin
theorem dX5_order_10 : decode cX5_order 10 = .ok (.aload_n 3, 1) := by decide +kernel
theorem dX5_order_11 : decode cX5_order 11 = .ok (.iload_n 2, 1) := by decide +kernel
theorem dX5_order_12 : decode cX5_order 12 = .ok (.invokevirtual 84, 3) := by decide +kernel
theorem dX5_order_15 : decode cX5_order 15 = .ok (.ifCond .ne 6, 3) := by decide +kernel
theorem dX5_order_21 : decode cX5_order 21 = .ok (.aload_n 3, 1) := by decide +kernel
theorem dX5_order_22 : decode cX5_order 22 = .ok (.iload_n 2, 1) := by decide +kernel
theorem dX5_order_23 : decode cX5_order 23 = .ok (.aload_n 0, 1) := by decide +kernel
theorem dX5_order_24 : decode cX5_order 24 = .ok (.getfield 22, 3) := by decide +kernel
theorem dX5_order_27 : decode cX5_order 27 = .ok (.aload_n 3, 1) := by decide +kernel
theorem dX5_order_28 : decode cX5_order 28 = .ok (.invokevirtual 132, 3) := by decide +kernel
theorem dX5_order_31 : decode cX5_order 31 = .ok (.invokevirtual 152, 3) := by decide +kernel
theorem dX5_order_34 : decode cX5_order 34 = .ok (.ireturn, 1) := by decide +kernel
set_option maxRecDepth 20000 in
theorem ggX5_ofOrder_X5_at : GoodIn wsX5_ofOrder wsX5_at := goodIn_r _ [6, 7, 8, 146, 147, 148] (by decide +kernel) (by decide +kernel)
set_option maxRecDepth 20000 in
theorem gX5_ofOrder_X5_at : GoodIn wsX5_ofOrder (wsV RX5 47 RX5 yX5_at wsX5_at) := goodIn_app (goodIn_of _ (by decide +kernel)) ggX5_ofOrder_X5_at
set_option maxRecDepth 20000 in
theorem ggX5_ofOrder_X3_settle : GoodIn wsX5_ofOrder wsX3_settle := goodIn_r _ [13, 14, 15, 16, 17, 18, 19, 20, 12, 21, 22, 23, 24, 25, 26, 27, 28, 29, 30, 31, 32, 33, 34, 35, 36, 37, 38, 39, 40, 41, 42, 43, 44, 45, 46, 47, 48, 49, 50, 51, 52, 53, 54, 55, 56, 57, 58, 59, 60, 61, 62, 63, 64, 65, 66, 67, 68, 69, 70, 71, 72, 73, 74, 75, 5, 76, 77, 78, 79, 80, 81, 82, 83, 84, 85, 86, 87, 88, 89, 90, 91, 92, 93, 94, 95, 96, 97, 98, 99, 100, 101, 102, 103, 104, 105, 106, 107, 108, 109, 110, 111, 112, 113, 114, 115, 116, 117, 118, 119, 120, 121, 122, 123, 124, 125, 126, 127, 128, 129, 130, 131, 149, 150, 151, 152, 153, 154, 155, 156, 157, 158, 159, 160, 161, 162, 163, 164, 165, 166, 167, 168, 169, 170, 171] (by decide +kernel) (by decide +kernel)
set_option maxRecDepth 20000 in
theorem gX5_ofOrder_X3_settle : GoodIn wsX5_ofOrder (wsV RX5 145 RX3 yX3_settle wsX3_settle) := goodIn_app (goodIn_of _ (by decide +kernel)) ggX5_ofOrder_X3_settle
set_option maxRecDepth 20000 in
theorem ggX5_ofOrder_X0_manyOfOrder : GoodIn wsX5_ofOrder wsX0_manyOfOrder := goodIn_r _ [135, 136, 114, 45, 46, 47, 137, 49, 50, 138, 139, 140, 80, 141, 142, 143, 144, 145, 149, 150, 151, 152, 153, 154, 155, 156, 157, 158, 159, 160] (by decide +kernel) (by decide +kernel)
set_option maxRecDepth 20000 in
theorem gX5_ofOrder_X0_manyOfOrder : GoodIn wsX5_ofOrder (wsV RX5 155 RX0 yX0_manyOfOrder wsX0_manyOfOrder) := goodIn_app (goodIn_of _ (by decide +kernel)) ggX5_ofOrder_X0_manyOfOrder
theorem dX5_ofOrder_10 : decode cX5_ofOrder 10 = .ok (.iload_n 2, 1) := by decide +kernel
theorem dX5_ofOrder_11 : decode cX5_ofOrder 11 = .ok (.iconst 1, 1) := by decide +kernel
theorem dX5_ofOrder_12 : decode cX5_ofOrder 12 = .ok (.if_icmp .ge 6, 3) := by decide +kernel
theorem dX5_ofOrder_18 : decode cX5_ofOrder 18 = .ok (.aload_n 0, 1) := by decide +kernel
theorem dX5_ofOrder_19 : decode cX5_ofOrder 19 = .ok (.getfield 22, 3) := by decide +kernel
theorem dX5_ofOrder_22 : decode cX5_ofOrder 22 = .ok (.aload_n 3, 1) := by decide +kernel
theorem dX5_ofOrder_23 : decode cX5_ofOrder 23 = .ok (.invokevirtual 145, 3) := by decide +kernel
theorem dX5_ofOrder_26 : decode cX5_ofOrder 26 = .ok (.aload_n 3, 1) := by decide +kernel
theorem dX5_ofOrder_27 : decode cX5_ofOrder 27 = .ok (.iload_n 2, 1) := by decide +kernel
theorem dX5_ofOrder_28 : decode cX5_ofOrder 28 = .ok (.invokevirtual 155, 3) := by decide +kernel
theorem dX5_ofOrder_31 : decode cX5_ofOrder 31 = .ok (.ireturn, 1) := by decide +kernel
set_option maxRecDepth 20000 in
theorem ggX5_torsion_X5_at : GoodIn wsX5_torsion wsX5_at := goodIn_r _ [6, 7, 8, 141, 142, 143] (by decide +kernel) (by decide +kernel)
set_option maxRecDepth 20000 in
theorem gX5_torsion_X5_at : GoodIn wsX5_torsion (wsV RX5 47 RX5 yX5_at wsX5_at) := goodIn_app (goodIn_of _ (by decide +kernel)) ggX5_torsion_X5_at
set_option maxRecDepth 20000 in
theorem ggX5_torsion_X3_settle : GoodIn wsX5_torsion wsX3_settle := goodIn_r _ [13, 14, 15, 16, 17, 18, 19, 20, 12, 21, 22, 23, 24, 25, 26, 27, 28, 29, 30, 31, 32, 33, 34, 35, 36, 37, 38, 39, 40, 41, 42, 43, 44, 45, 46, 47, 48, 49, 50, 51, 52, 53, 54, 55, 56, 57, 58, 59, 60, 61, 62, 63, 64, 65, 66, 67, 68, 69, 70, 71, 72, 73, 74, 75, 5, 76, 77, 78, 79, 80, 81, 82, 83, 84, 85, 86, 87, 88, 89, 90, 91, 92, 93, 94, 95, 96, 97, 98, 99, 100, 101, 102, 103, 104, 105, 106, 107, 108, 109, 110, 111, 112, 113, 114, 115, 116, 117, 118, 119, 120, 121, 122, 123, 124, 125, 126, 127, 128, 129, 130, 131, 144, 145, 146, 147, 148, 149, 150, 151, 152, 153, 154, 155, 156, 157, 158, 159, 160, 161, 162, 163, 164, 165, 166] (by decide +kernel) (by decide +kernel)
set_option maxRecDepth 20000 in
theorem gX5_torsion_X3_settle : GoodIn wsX5_torsion (wsV RX5 145 RX3 yX3_settle wsX3_settle) := goodIn_app (goodIn_of _ (by decide +kernel)) ggX5_torsion_X3_settle
set_option maxRecDepth 20000 in
theorem ggX5_torsion_X0_manyKilledBy : GoodIn wsX5_torsion wsX0_manyKilledBy := goodIn_r _ [135, 136, 137, 138, 139, 46, 140, 144, 145, 146, 147, 148, 149, 150, 151, 152, 153, 154, 155] (by decide +kernel) (by decide +kernel)
set_option maxRecDepth 20000 in
theorem gX5_torsion_X0_manyKilledBy : GoodIn wsX5_torsion (wsV RX5 158 RX0 yX0_manyKilledBy wsX0_manyKilledBy) := goodIn_app (goodIn_of _ (by decide +kernel)) ggX5_torsion_X0_manyKilledBy
theorem dX5_torsion_10 : decode cX5_torsion 10 = .ok (.iload_n 2, 1) := by decide +kernel
theorem dX5_torsion_11 : decode cX5_torsion 11 = .ok (.iconst 1, 1) := by decide +kernel
theorem dX5_torsion_12 : decode cX5_torsion 12 = .ok (.if_icmp .ge 6, 3) := by decide +kernel
theorem dX5_torsion_18 : decode cX5_torsion 18 = .ok (.aload_n 0, 1) := by decide +kernel
theorem dX5_torsion_19 : decode cX5_torsion 19 = .ok (.getfield 22, 3) := by decide +kernel
theorem dX5_torsion_22 : decode cX5_torsion 22 = .ok (.aload_n 3, 1) := by decide +kernel
theorem dX5_torsion_23 : decode cX5_torsion 23 = .ok (.invokevirtual 145, 3) := by decide +kernel
theorem dX5_torsion_26 : decode cX5_torsion 26 = .ok (.aload_n 3, 1) := by decide +kernel
theorem dX5_torsion_27 : decode cX5_torsion 27 = .ok (.iload_n 2, 1) := by decide +kernel
theorem dX5_torsion_28 : decode cX5_torsion 28 = .ok (.invokevirtual 158, 3) := by decide +kernel
theorem dX5_torsion_31 : decode cX5_torsion 31 = .ok (.ireturn, 1) := by decide +kernel
set_option maxRecDepth 20000 in
theorem ggX5_made_X5_at : GoodIn wsX5_made wsX5_at := goodIn_r _ [10, 11, 12, 147, 148, 149] (by decide +kernel) (by decide +kernel)
set_option maxRecDepth 20000 in
theorem gX5_made_X5_at : GoodIn wsX5_made (wsV RX5 47 RX5 yX5_at wsX5_at) := goodIn_app (goodIn_of _ (by decide +kernel)) ggX5_made_X5_at
set_option maxRecDepth 20000 in
theorem ggX5_made_X3_settle : GoodIn wsX5_made wsX3_settle := goodIn_r _ [17, 18, 19, 20, 21, 22, 23, 24, 16, 25, 26, 27, 28, 29, 30, 31, 32, 33, 34, 35, 36, 37, 38, 39, 40, 41, 42, 43, 44, 45, 46, 47, 48, 49, 50, 51, 52, 53, 54, 55, 56, 57, 58, 59, 60, 61, 62, 63, 64, 65, 66, 67, 68, 69, 70, 71, 72, 73, 74, 75, 76, 77, 78, 79, 9, 80, 81, 82, 83, 84, 85, 86, 87, 88, 89, 90, 91, 92, 93, 94, 95, 96, 97, 98, 99, 100, 101, 102, 103, 104, 105, 106, 107, 108, 109, 110, 111, 112, 113, 114, 115, 116, 117, 118, 119, 120, 121, 122, 123, 124, 125, 126, 127, 128, 129, 130, 131, 132, 133, 134, 135, 150, 151, 152, 153, 154, 155, 156, 157, 158, 159, 160, 161, 162, 163, 164, 165, 166, 167, 168, 169, 170, 171, 172] (by decide +kernel) (by decide +kernel)
set_option maxRecDepth 20000 in
theorem gX5_made_X3_settle : GoodIn wsX5_made (wsV RX5 145 RX3 yX3_settle wsX3_settle) := goodIn_app (goodIn_of _ (by decide +kernel)) ggX5_made_X3_settle
set_option maxRecDepth 20000 in
theorem ggX5_made_X3_findMakers : GoodIn wsX5_made wsX3_findMakers := goodIn_r _ [139, 140, 19, 141, 21, 142, 18, 99, 100, 101, 16, 102, 36, 103, 104, 105, 84, 106, 87, 86, 107, 37, 38, 39, 40, 41, 42, 43, 44, 45, 46, 47, 93, 9, 94, 114, 115, 116, 117, 118, 49, 50, 51, 119, 109, 110, 111, 112, 96, 97, 98, 88, 89, 79, 80, 113, 82, 83, 85, 90, 91, 92, 108, 143, 144, 145, 146, 59, 48, 52, 53, 54, 60, 61, 62, 63, 64, 65, 66, 67, 68, 69, 70, 71, 72, 73, 74, 75, 76, 77, 78, 81, 95, 124, 125, 126, 127, 128, 129, 130, 131, 132, 133, 134, 135, 150, 151, 152, 153, 154, 155, 156, 157, 158, 159, 160, 161, 162, 163, 164, 165, 166, 167, 168, 169, 170, 171, 172] (by decide +kernel) (by decide +kernel)
set_option maxRecDepth 20000 in
theorem gX5_made_X3_findMakers : GoodIn wsX5_made (wsV RX5 167 RX3 yX3_findMakers wsX3_findMakers) := goodIn_app (goodIn_of _ (by decide +kernel)) ggX5_made_X3_findMakers
theorem dX5_made_10 : decode cX5_made 10 = .ok (.iload_n 2, 1) := by decide +kernel
theorem dX5_made_11 : decode cX5_made 11 = .ok (.ifCond .lt 8, 3) := by decide +kernel
theorem dX5_made_14 : decode cX5_made 14 = .ok (.iload_n 2, 1) := by decide +kernel
theorem dX5_made_15 : decode cX5_made 15 = .ok (.iconst 3, 1) := by decide +kernel
theorem dX5_made_16 : decode cX5_made 16 = .ok (.if_icmp .le 6, 3) := by decide +kernel
theorem dX5_made_22 : decode cX5_made 22 = .ok (.aload_n 0, 1) := by decide +kernel
theorem dX5_made_23 : decode cX5_made 23 = .ok (.getfield 22, 3) := by decide +kernel
theorem dX5_made_26 : decode cX5_made 26 = .ok (.aload_n 3, 1) := by decide +kernel
theorem dX5_made_27 : decode cX5_made 27 = .ok (.invokevirtual 145, 3) := by decide +kernel
theorem dX5_made_30 : decode cX5_made 30 = .ok (.iload_n 2, 1) := by decide +kernel
theorem dX5_made_31 : decode cX5_made 31 = .ok (.iconst 2, 1) := by decide +kernel
theorem dX5_made_32 : decode cX5_made 32 = .ok (.if_icmp .ge 19, 3) := by decide +kernel
theorem dX5_made_35 : decode cX5_made 35 = .ok (.iload_n 2, 1) := by decide +kernel
theorem dX5_made_36 : decode cX5_made 36 = .ok (.ifCond .ne 10, 3) := by decide +kernel
theorem dX5_made_39 : decode cX5_made 39 = .ok (.aload_n 3, 1) := by decide +kernel
theorem dX5_made_40 : decode cX5_made 40 = .ok (.getfield 161, 3) := by decide +kernel
theorem dX5_made_43 : decode cX5_made 43 = .ok (.goto 7, 3) := by decide +kernel
theorem dX5_made_46 : decode cX5_made 46 = .ok (.aload_n 3, 1) := by decide +kernel
theorem dX5_made_47 : decode cX5_made 47 = .ok (.getfield 164, 3) := by decide +kernel
theorem dX5_made_50 : decode cX5_made 50 = .ok (.ireturn, 1) := by decide +kernel
theorem dX5_made_51 : decode cX5_made 51 = .ok (.aload_n 0, 1) := by decide +kernel
theorem dX5_made_52 : decode cX5_made 52 = .ok (.getfield 22, 3) := by decide +kernel
theorem dX5_made_55 : decode cX5_made 55 = .ok (.aload_n 3, 1) := by decide +kernel
theorem dX5_made_56 : decode cX5_made 56 = .ok (.invokevirtual 167, 3) := by decide +kernel
theorem dX5_made_59 : decode cX5_made 59 = .ok (.iload_n 2, 1) := by decide +kernel
theorem dX5_made_60 : decode cX5_made 60 = .ok (.iconst 2, 1) := by decide +kernel
theorem dX5_made_61 : decode cX5_made 61 = .ok (.if_icmp .ne 10, 3) := by decide +kernel
theorem dX5_made_64 : decode cX5_made 64 = .ok (.aload_n 3, 1) := by decide +kernel
theorem dX5_made_65 : decode cX5_made 65 = .ok (.getfield 170, 3) := by decide +kernel
theorem dX5_made_68 : decode cX5_made 68 = .ok (.goto 7, 3) := by decide +kernel
theorem dX5_made_71 : decode cX5_made 71 = .ok (.aload_n 3, 1) := by decide +kernel
theorem dX5_made_72 : decode cX5_made 72 = .ok (.getfield 173, 3) := by decide +kernel
theorem dX5_made_75 : decode cX5_made 75 = .ok (.ireturn, 1) := by decide +kernel
set_option maxRecDepth 20000 in
theorem ggX5_halves_X5_at : GoodIn wsX5_halves wsX5_at := goodIn_r _ [6, 7, 8, 75, 76, 77] (by decide +kernel) (by decide +kernel)
set_option maxRecDepth 20000 in
theorem gX5_halves_X5_at : GoodIn wsX5_halves (wsV RX5 47 RX5 yX5_at wsX5_at) := goodIn_app (goodIn_of _ (by decide +kernel)) ggX5_halves_X5_at
set_option maxRecDepth 20000 in
theorem ggX5_halves_X0_holds : GoodIn wsX5_halves wsX0_holds := goodIn_r _ [13, 14, 15, 5, 16, 17, 18, 19, 20, 21, 22, 23, 24, 25, 12, 26, 27, 28, 78, 79, 80, 81, 82, 83, 84, 85, 86, 87, 88, 89] (by decide +kernel) (by decide +kernel)
set_option maxRecDepth 20000 in
theorem gX5_halves_X0_holds : GoodIn wsX5_halves (wsV RX5 84 RX0 yX0_holds wsX0_holds) := goodIn_app (goodIn_of _ (by decide +kernel)) ggX5_halves_X0_holds
set_option maxRecDepth 20000 in
theorem ggX5_halves_X3_findHalves : GoodIn wsX5_halves wsX3_findHalves := goodIn_r _ [33, 34, 35, 36, 37, 32, 38, 39, 40, 41, 42, 43, 44, 45, 24, 25, 12, 26, 27, 14, 28, 15, 5, 16, 46, 47, 48, 49, 50, 51, 52, 53, 54, 55, 56, 57, 58, 59, 60, 61, 62, 63, 64, 65, 66, 67, 17, 18, 68, 69, 70, 71, 72, 73, 21, 74, 78, 79, 80, 81, 82, 83, 84, 85, 86, 87, 88, 89, 90, 91, 92, 93, 94] (by decide +kernel) (by decide +kernel)
set_option maxRecDepth 20000 in
theorem gX5_halves_X3_findHalves : GoodIn wsX5_halves (wsV RX5 176 RX3 yX3_findHalves wsX3_findHalves) := goodIn_app (goodIn_of _ (by decide +kernel)) ggX5_halves_X3_findHalves
theorem dX5_halves_10 : decode cX5_halves 10 = .ok (.aload_n 3, 1) := by decide +kernel
theorem dX5_halves_11 : decode cX5_halves 11 = .ok (.iload_n 2, 1) := by decide +kernel
theorem dX5_halves_12 : decode cX5_halves 12 = .ok (.invokevirtual 84, 3) := by decide +kernel
theorem dX5_halves_15 : decode cX5_halves 15 = .ok (.ifCond .ne 8, 3) := by decide +kernel
theorem dX5_halves_23 : decode cX5_halves 23 = .ok (.aload_n 0, 1) := by decide +kernel
theorem dX5_halves_24 : decode cX5_halves 24 = .ok (.getfield 22, 3) := by decide +kernel
theorem dX5_halves_27 : decode cX5_halves 27 = .ok (.aload_n 3, 1) := by decide +kernel
theorem dX5_halves_28 : decode cX5_halves 28 = .ok (.iload_n 2, 1) := by decide +kernel
theorem dX5_halves_29 : decode cX5_halves 29 = .ok (.invokevirtual 176, 3) := by decide +kernel
set_option maxRecDepth 20000 in
theorem ggX5_half_X5_at : GoodIn wsX5_half wsX5_at := goodIn_r _ [6, 7, 8, 79, 80, 81] (by decide +kernel) (by decide +kernel)
set_option maxRecDepth 20000 in
theorem gX5_half_X5_at : GoodIn wsX5_half (wsV RX5 47 RX5 yX5_at wsX5_at) := goodIn_app (goodIn_of _ (by decide +kernel)) ggX5_half_X5_at
set_option maxRecDepth 20000 in
theorem ggX5_half_X0_holds : GoodIn wsX5_half wsX0_holds := goodIn_r _ [13, 14, 15, 5, 16, 17, 18, 19, 20, 21, 22, 23, 24, 25, 12, 26, 27, 28, 82, 83, 84, 85, 86, 87, 88, 89, 90, 91, 92, 93] (by decide +kernel) (by decide +kernel)
set_option maxRecDepth 20000 in
theorem gX5_half_X0_holds : GoodIn wsX5_half (wsV RX5 84 RX0 yX0_holds wsX0_holds) := goodIn_app (goodIn_of _ (by decide +kernel)) ggX5_half_X0_holds
set_option maxRecDepth 20000 in
theorem ggX5_half_X3_findHalves : GoodIn wsX5_half wsX3_findHalves := goodIn_r _ [33, 34, 35, 36, 37, 32, 38, 39, 40, 41, 42, 43, 44, 45, 24, 25, 12, 26, 27, 14, 28, 15, 5, 16, 46, 47, 48, 49, 50, 51, 52, 53, 54, 55, 56, 57, 58, 59, 60, 61, 62, 63, 64, 65, 66, 67, 17, 18, 68, 69, 70, 71, 72, 73, 21, 74, 82, 83, 84, 85, 86, 87, 88, 89, 90, 91, 92, 93, 94, 95, 96, 97, 98] (by decide +kernel) (by decide +kernel)
set_option maxRecDepth 20000 in
theorem gX5_half_X3_findHalves : GoodIn wsX5_half (wsV RX5 176 RX3 yX3_findHalves wsX3_findHalves) := goodIn_app (goodIn_of _ (by decide +kernel)) ggX5_half_X3_findHalves
set_option maxRecDepth 20000 in
theorem ggX5_half_X3_foundHalf : GoodIn wsX5_half wsX3_foundHalf := goodIn_r _ [78, 39, 94, 95, 96] (by decide +kernel) (by decide +kernel)
set_option maxRecDepth 20000 in
theorem gX5_half_X3_foundHalf : GoodIn wsX5_half (wsV RX5 179 RX3 yX3_foundHalf wsX3_foundHalf) := goodIn_app (goodIn_of _ (by decide +kernel)) ggX5_half_X3_foundHalf
theorem dX5_half_12 : decode cX5_half 12 = .ok (.aload 4, 2) := by decide +kernel
theorem dX5_half_14 : decode cX5_half 14 = .ok (.iload_n 2, 1) := by decide +kernel
theorem dX5_half_15 : decode cX5_half 15 = .ok (.invokevirtual 84, 3) := by decide +kernel
theorem dX5_half_18 : decode cX5_half 18 = .ok (.ifCond .ne 6, 3) := by decide +kernel
theorem dX5_half_24 : decode cX5_half 24 = .ok (.iload_n 3, 1) := by decide +kernel
theorem dX5_half_25 : decode cX5_half 25 = .ok (.ifCond .lt 28, 3) := by decide +kernel
theorem dX5_half_28 : decode cX5_half 28 = .ok (.iload_n 3, 1) := by decide +kernel
theorem dX5_half_29 : decode cX5_half 29 = .ok (.aload_n 0, 1) := by decide +kernel
theorem dX5_half_30 : decode cX5_half 30 = .ok (.getfield 22, 3) := by decide +kernel
theorem dX5_half_33 : decode cX5_half 33 = .ok (.aload 4, 2) := by decide +kernel
theorem dX5_half_35 : decode cX5_half 35 = .ok (.iload_n 2, 1) := by decide +kernel
theorem dX5_half_36 : decode cX5_half 36 = .ok (.invokevirtual 176, 3) := by decide +kernel
theorem dX5_half_39 : decode cX5_half 39 = .ok (.if_icmp .ge 14, 3) := by decide +kernel
theorem dX5_half_42 : decode cX5_half 42 = .ok (.aload_n 0, 1) := by decide +kernel
theorem dX5_half_43 : decode cX5_half 43 = .ok (.getfield 22, 3) := by decide +kernel
theorem dX5_half_46 : decode cX5_half 46 = .ok (.iload_n 3, 1) := by decide +kernel
theorem dX5_half_47 : decode cX5_half 47 = .ok (.invokevirtual 179, 3) := by decide +kernel
theorem dX5_half_50 : decode cX5_half 50 = .ok (.goto 4, 3) := by decide +kernel
theorem dX5_half_53 : decode cX5_half 53 = .ok (.iconst (-1), 1) := by decide +kernel
theorem dX5_half_54 : decode cX5_half 54 = .ok (.ireturn, 1) := by decide +kernel
set_option maxRecDepth 20000 in
theorem ggX5_log_X5_at : GoodIn wsX5_log wsX5_at := goodIn_r _ [6, 7, 8, 120, 121, 122] (by decide +kernel) (by decide +kernel)
set_option maxRecDepth 20000 in
theorem gX5_log_X5_at : GoodIn wsX5_log (wsV RX5 47 RX5 yX5_at wsX5_at) := goodIn_app (goodIn_of _ (by decide +kernel)) ggX5_log_X5_at
set_option maxRecDepth 20000 in
theorem ggX5_log_X0_holds : GoodIn wsX5_log wsX0_holds := goodIn_r _ [13, 14, 15, 5, 16, 17, 18, 19, 20, 21, 22, 23, 24, 25, 12, 26, 27, 28, 123, 124, 125, 126, 127, 128, 129, 130, 131, 132, 133, 134] (by decide +kernel) (by decide +kernel)
set_option maxRecDepth 20000 in
theorem gX5_log_X0_holds : GoodIn wsX5_log (wsV RX5 84 RX0 yX0_holds wsX0_holds) := goodIn_app (goodIn_of _ (by decide +kernel)) ggX5_log_X0_holds
set_option maxRecDepth 20000 in
theorem ggX5_log_X3_logarithm : GoodIn wsX5_log wsX3_logarithm := goodIn_r _ [33, 34, 35, 36, 37, 32, 38, 39, 40, 41, 42, 43, 44, 45, 46, 47, 48, 49, 50, 51, 52, 53, 54, 55, 56, 57, 58, 59, 60, 61, 62, 63, 64, 65, 12, 66, 67, 68, 21, 69, 70, 71, 72, 73, 74, 75, 76, 77, 14, 17, 5, 18, 15, 16, 78, 79, 80, 81, 82, 83, 27, 84, 85, 86, 87, 88, 89, 90, 91, 92, 93, 94, 95, 96, 97, 98, 99, 100, 101, 102, 103, 104, 105, 106, 107, 108, 109, 110, 111, 112, 113, 114, 115, 116, 117, 118, 119, 135, 136, 137, 123, 124, 125, 126, 127, 128, 129, 130, 131, 132, 133, 134, 138, 139, 140, 141, 142, 143, 144, 145] (by decide +kernel) (by decide +kernel)
set_option maxRecDepth 20000 in
theorem gX5_log_X3_logarithm : GoodIn wsX5_log (wsV RX5 182 RX3 yX3_logarithm wsX3_logarithm) := goodIn_app (goodIn_of _ (by decide +kernel)) ggX5_log_X3_logarithm
theorem dX5_log_12 : decode cX5_log 12 = .ok (.aload 4, 2) := by decide +kernel
theorem dX5_log_14 : decode cX5_log 14 = .ok (.iload_n 2, 1) := by decide +kernel
theorem dX5_log_15 : decode cX5_log 15 = .ok (.invokevirtual 84, 3) := by decide +kernel
theorem dX5_log_18 : decode cX5_log 18 = .ok (.ifCond .eq 12, 3) := by decide +kernel
theorem dX5_log_21 : decode cX5_log 21 = .ok (.aload 4, 2) := by decide +kernel
theorem dX5_log_23 : decode cX5_log 23 = .ok (.iload_n 3, 1) := by decide +kernel
theorem dX5_log_24 : decode cX5_log 24 = .ok (.invokevirtual 84, 3) := by decide +kernel
theorem dX5_log_27 : decode cX5_log 27 = .ok (.ifCond .ne 6, 3) := by decide +kernel
theorem dX5_log_33 : decode cX5_log 33 = .ok (.aload_n 0, 1) := by decide +kernel
theorem dX5_log_34 : decode cX5_log 34 = .ok (.getfield 22, 3) := by decide +kernel
theorem dX5_log_37 : decode cX5_log 37 = .ok (.aload 4, 2) := by decide +kernel
theorem dX5_log_39 : decode cX5_log 39 = .ok (.iload_n 2, 1) := by decide +kernel
theorem dX5_log_40 : decode cX5_log 40 = .ok (.iload_n 3, 1) := by decide +kernel
theorem dX5_log_41 : decode cX5_log 41 = .ok (.invokevirtual 182, 3) := by decide +kernel
theorem dX5_log_44 : decode cX5_log 44 = .ok (.ireturn, 1) := by decide +kernel
set_option maxRecDepth 20000 in
theorem ggX5_embedding_X5_at : GoodIn wsX5_embedding wsX5_at := goodIn_r _ [6, 7, 8, 28, 29, 30] (by decide +kernel) (by decide +kernel)
set_option maxRecDepth 20000 in
theorem gX5_embedding_X5_at : GoodIn wsX5_embedding (wsV RX5 47 RX5 yX5_at wsX5_at) := goodIn_app (goodIn_of _ (by decide +kernel)) ggX5_embedding_X5_at
set_option maxRecDepth 20000 in
theorem ggX5_embedding_X4_orderModulo : GoodIn wsX5_embedding wsX4_orderModulo := goodIn_r _ [12, 13, 14, 11, 15] (by decide +kernel) (by decide +kernel)
set_option maxRecDepth 20000 in
theorem gX5_embedding_X4_orderModulo : GoodIn wsX5_embedding (va_wsS RX5 186 yX4_orderModulo wsX4_orderModulo) := goodIn_app (goodIn_of _ (by decide +kernel)) ggX5_embedding_X4_orderModulo
theorem dX5_embedding_10 : decode cX5_embedding 10 = .ok (.iload_n 2, 1) := by decide +kernel
theorem dX5_embedding_11 : decode cX5_embedding 11 = .ok (.iconst 2, 1) := by decide +kernel
theorem dX5_embedding_12 : decode cX5_embedding 12 = .ok (.if_icmp .lt 10, 3) := by decide +kernel
theorem dX5_embedding_15 : decode cX5_embedding 15 = .ok (.iload_n 2, 1) := by decide +kernel
theorem dX5_embedding_16 : decode cX5_embedding 16 = .ok (.sipush 20000, 3) := by decide +kernel
theorem dX5_embedding_19 : decode cX5_embedding 19 = .ok (.if_icmp .le 6, 3) := by decide +kernel
theorem dX5_embedding_25 : decode cX5_embedding 25 = .ok (.aload_n 3, 1) := by decide +kernel
theorem dX5_embedding_26 : decode cX5_embedding 26 = .ok (.getfield 51, 3) := by decide +kernel
theorem dX5_embedding_29 : decode cX5_embedding 29 = .ok (.iload_n 2, 1) := by decide +kernel
theorem dX5_embedding_30 : decode cX5_embedding 30 = .ok (.irem, 1) := by decide +kernel
theorem dX5_embedding_31 : decode cX5_embedding 31 = .ok (.iload_n 2, 1) := by decide +kernel
theorem dX5_embedding_32 : decode cX5_embedding 32 = .ok (.invokestatic 186, 3) := by decide +kernel
theorem dX5_embedding_35 : decode cX5_embedding 35 = .ok (.ireturn, 1) := by decide +kernel
set_option maxRecDepth 20000 in
theorem ggX5_quotient_X5_at : GoodIn wsX5_quotient wsX5_at := goodIn_r _ [5, 6, 7, 62, 63, 64] (by decide +kernel) (by decide +kernel)
set_option maxRecDepth 20000 in
theorem gX5_quotient_X5_at : GoodIn wsX5_quotient (wsV RX5 47 RX5 yX5_at wsX5_at) := goodIn_app (goodIn_of _ (by decide +kernel)) ggX5_quotient_X5_at
set_option maxRecDepth 20000 in
theorem ggX5_quotient_X0_holds : GoodIn wsX5_quotient wsX0_holds := goodIn_r _ [12, 13, 14, 4, 15, 16, 17, 18, 19, 20, 21, 22, 23, 24, 11, 25, 26, 27, 65, 66, 67, 68, 69, 70, 71, 72, 73, 74, 75, 76] (by decide +kernel) (by decide +kernel)
set_option maxRecDepth 20000 in
theorem gX5_quotient_X0_holds : GoodIn wsX5_quotient (wsV RX5 84 RX0 yX0_holds wsX0_holds) := goodIn_app (goodIn_of _ (by decide +kernel)) ggX5_quotient_X0_holds
set_option maxRecDepth 20000 in
theorem ggX5_quotient_X0_dividedBy : GoodIn wsX5_quotient wsX0_dividedBy := goodIn_r _ [31, 13, 26, 27, 32, 33, 11, 34, 35, 36, 14, 4, 15, 37, 38, 39, 40, 16, 17, 41, 42, 20, 43, 44, 45, 46, 47, 48, 49, 50, 51, 52, 53, 54, 55, 56, 57, 65, 66, 67, 68, 69, 70, 71, 72, 73, 74, 75, 76] (by decide +kernel) (by decide +kernel)
set_option maxRecDepth 20000 in
theorem gX5_quotient_X0_dividedBy : GoodIn wsX5_quotient (wsV RX5 189 RX0 yX0_dividedBy wsX0_dividedBy) := goodIn_app (goodIn_of _ (by decide +kernel)) ggX5_quotient_X0_dividedBy
set_option maxRecDepth 20000 in
theorem ggX5_quotient_X5_keep : GoodIn wsX5_quotient wsX5_keep := goodIn_r _ [61, 6, 7, 62, 63, 64] (by decide +kernel) (by decide +kernel)
set_option maxRecDepth 20000 in
theorem gX5_quotient_X5_keep : GoodIn wsX5_quotient (wsV RX5 43 RX5 yX5_keep wsX5_keep) := goodIn_app (goodIn_of _ (by decide +kernel)) ggX5_quotient_X5_keep
theorem dX5_quotient_10 : decode cX5_quotient 10 = .ok (.aload_n 3, 1) := by decide +kernel
theorem dX5_quotient_11 : decode cX5_quotient 11 = .ok (.iload_n 2, 1) := by decide +kernel
theorem dX5_quotient_12 : decode cX5_quotient 12 = .ok (.invokevirtual 84, 3) := by decide +kernel
theorem dX5_quotient_15 : decode cX5_quotient 15 = .ok (.ifCond .ne 6, 3) := by decide +kernel
theorem dX5_quotient_21 : decode cX5_quotient 21 = .ok (.aload_n 3, 1) := by decide +kernel
theorem dX5_quotient_22 : decode cX5_quotient 22 = .ok (.iload_n 2, 1) := by decide +kernel
theorem dX5_quotient_23 : decode cX5_quotient 23 = .ok (.iload_n 1, 1) := by decide +kernel
theorem dX5_quotient_24 : decode cX5_quotient 24 = .ok (.invokevirtual 189, 3) := by decide +kernel
theorem dX5_quotient_27 : decode cX5_quotient 27 = .ok (.astore 4, 2) := by decide +kernel
theorem dX5_quotient_29 : decode cX5_quotient 29 = .ok (.aload 4, 2) := by decide +kernel
theorem dX5_quotient_31 : decode cX5_quotient 31 = .ok (.ifnonnull 8, 3) := by decide +kernel
theorem dX5_quotient_34 : decode cX5_quotient 34 = .ok (.bipush (-3), 2) := by decide +kernel
theorem dX5_quotient_36 : decode cX5_quotient 36 = .ok (.goto 9, 3) := by decide +kernel
theorem dX5_quotient_39 : decode cX5_quotient 39 = .ok (.aload_n 0, 1) := by decide +kernel
theorem dX5_quotient_40 : decode cX5_quotient 40 = .ok (.aload 4, 2) := by decide +kernel
theorem dX5_quotient_42 : decode cX5_quotient 42 = .ok (.invokevirtual 43, 3) := by decide +kernel
theorem dX5_quotient_45 : decode cX5_quotient 45 = .ok (.ireturn, 1) := by decide +kernel
set_option maxRecDepth 20000 in
theorem ggX5_image_X5_madeByKernel : GoodIn wsX5_image wsX5_madeByKernel := goodIn_r _ [8, 3, 9, 10, 11, 7, 12, 13, 14, 52, 53, 54, 55, 56, 57, 58, 59, 60, 61, 62, 63, 64, 65, 66] (by decide +kernel) (by decide +kernel)
set_option maxRecDepth 20000 in
theorem gX5_image_X5_madeByKernel : GoodIn wsX5_image (wsV RX5 193 RX5 yX5_madeByKernel wsX5_madeByKernel) := goodIn_app (goodIn_of _ (by decide +kernel)) ggX5_image_X5_madeByKernel
set_option maxRecDepth 20000 in
theorem ggX5_image_X5_at : GoodIn wsX5_image wsX5_at := goodIn_r _ [12, 13, 14, 64, 65, 66] (by decide +kernel) (by decide +kernel)
set_option maxRecDepth 20000 in
theorem gX5_image_X5_at : GoodIn wsX5_image (wsV RX5 47 RX5 yX5_at wsX5_at) := goodIn_app (goodIn_of _ (by decide +kernel)) ggX5_image_X5_at
set_option maxRecDepth 20000 in
theorem ggX5_image_X0_holds : GoodIn wsX5_image wsX0_holds := goodIn_r _ [19, 20, 21, 7, 22, 23, 24, 25, 26, 27, 28, 29, 30, 31, 18, 32, 33, 34, 52, 53, 54, 55, 56, 57, 58, 59, 60, 61, 62, 63] (by decide +kernel) (by decide +kernel)
set_option maxRecDepth 20000 in
theorem gX5_image_X0_holds : GoodIn wsX5_image (wsV RX5 84 RX0 yX0_holds wsX0_holds) := goodIn_app (goodIn_of _ (by decide +kernel)) ggX5_image_X0_holds
set_option maxRecDepth 20000 in
theorem ggX5_image_X0_imageOf : GoodIn wsX5_image wsX0_imageOf := goodIn_r _ [38, 20, 21, 7, 22, 23, 24, 39, 40, 41, 18, 42, 33, 43, 44, 27, 45, 46, 47, 48, 49, 50, 51, 52, 53, 54, 55, 56, 57, 58, 59, 60, 61, 62, 63] (by decide +kernel) (by decide +kernel)
set_option maxRecDepth 20000 in
theorem gX5_image_X0_imageOf : GoodIn wsX5_image (wsV RX5 205 RX0 yX0_imageOf wsX0_imageOf) := goodIn_app (goodIn_of _ (by decide +kernel)) ggX5_image_X0_imageOf
theorem dX5_image_14 : decode cX5_image 14 = .ok (.aload_n 0, 1) := by decide +kernel
theorem dX5_image_15 : decode cX5_image 15 = .ok (.aload_n 3, 1) := by decide +kernel
theorem dX5_image_16 : decode cX5_image 16 = .ok (.getfield 196, 3) := by decide +kernel
theorem dX5_image_19 : decode cX5_image 19 = .ok (.invokevirtual 47, 3) := by decide +kernel
theorem dX5_image_29 : decode cX5_image 29 = .ok (.aload 4, 2) := by decide +kernel
theorem dX5_image_31 : decode cX5_image 31 = .ok (.iload_n 2, 1) := by decide +kernel
theorem dX5_image_32 : decode cX5_image 32 = .ok (.invokevirtual 84, 3) := by decide +kernel
theorem dX5_image_35 : decode cX5_image 35 = .ok (.ifCond .ne 6, 3) := by decide +kernel
theorem dX5_image_41 : decode cX5_image 41 = .ok (.aload 4, 2) := by decide +kernel
theorem dX5_image_43 : decode cX5_image 43 = .ok (.iload_n 2, 1) := by decide +kernel
theorem dX5_image_44 : decode cX5_image 44 = .ok (.aload_n 3, 1) := by decide +kernel
theorem dX5_image_45 : decode cX5_image 45 = .ok (.getfield 199, 3) := by decide +kernel
theorem dX5_image_48 : decode cX5_image 48 = .ok (.aload_n 3, 1) := by decide +kernel
theorem dX5_image_49 : decode cX5_image 49 = .ok (.getfield 202, 3) := by decide +kernel
theorem dX5_image_52 : decode cX5_image 52 = .ok (.invokevirtual 205, 3) := by decide +kernel
theorem dX5_image_55 : decode cX5_image 55 = .ok (.ireturn, 1) := by decide +kernel
set_option maxRecDepth 20000 in
theorem ggX5_kernel_X5_madeByKernel : GoodIn wsX5_kernel wsX5_madeByKernel := goodIn_r _ [8, 3, 9, 10, 11, 7, 12, 13, 14, 15, 16, 17, 18, 19, 20, 21, 22, 23, 24, 25, 26, 27, 28, 29] (by decide +kernel) (by decide +kernel)
set_option maxRecDepth 20000 in
theorem gX5_kernel_X5_madeByKernel : GoodIn wsX5_kernel (wsV RX5 193 RX5 yX5_madeByKernel wsX5_madeByKernel) := goodIn_app (goodIn_of _ (by decide +kernel)) ggX5_kernel_X5_madeByKernel
theorem dX5_kernel_13 : decode cX5_kernel 13 = .ok (.iload_n 2, 1) := by decide +kernel
theorem dX5_kernel_14 : decode cX5_kernel 14 = .ok (.tableswitch 41 0 2 #[26, 31, 36], 26) := by decide +kernel
theorem dX5_kernel_40 : decode cX5_kernel 40 = .ok (.aload_n 3, 1) := by decide +kernel
theorem dX5_kernel_41 : decode cX5_kernel 41 = .ok (.getfield 196, 3) := by decide +kernel
theorem dX5_kernel_44 : decode cX5_kernel 44 = .ok (.ireturn, 1) := by decide +kernel
theorem dX5_kernel_45 : decode cX5_kernel 45 = .ok (.aload_n 3, 1) := by decide +kernel
theorem dX5_kernel_46 : decode cX5_kernel 46 = .ok (.getfield 199, 3) := by decide +kernel
theorem dX5_kernel_49 : decode cX5_kernel 49 = .ok (.ireturn, 1) := by decide +kernel
theorem dX5_kernel_50 : decode cX5_kernel 50 = .ok (.aload_n 3, 1) := by decide +kernel
theorem dX5_kernel_51 : decode cX5_kernel 51 = .ok (.getfield 202, 3) := by decide +kernel
theorem dX5_kernel_54 : decode cX5_kernel 54 = .ok (.ireturn, 1) := by decide +kernel
theorem dX5_kernel_55 : decode cX5_kernel 55 = .ok (.bipush (-2), 2) := by decide +kernel
theorem dX5_kernel_57 : decode cX5_kernel 57 = .ok (.ireturn, 1) := by decide +kernel
set_option maxRecDepth 20000 in
theorem ggX5_sign_X5_at : GoodIn wsX5_sign wsX5_at := goodIn_r _ [5, 6, 7, 93, 94, 95] (by decide +kernel) (by decide +kernel)
set_option maxRecDepth 20000 in
theorem gX5_sign_X5_at : GoodIn wsX5_sign (wsV RX5 47 RX5 yX5_at wsX5_at) := goodIn_app (goodIn_of _ (by decide +kernel)) ggX5_sign_X5_at
set_option maxRecDepth 20000 in
theorem ggX5_sign_X5_primeOrder : GoodIn wsX5_sign wsX5_primeOrder := goodIn_r _ [11, 12, 13, 14, 15, 16, 17, 18, 19, 4, 20, 21, 22, 23, 24, 25, 26, 27, 28, 29, 30, 31, 32, 33, 34, 35, 36, 37, 38, 39, 40, 41, 42, 43, 44, 45, 46, 47, 48, 49, 50, 51, 52, 53, 54, 55, 56, 57, 58, 59, 60, 61, 62, 63, 64, 65, 66, 67, 68, 69, 70, 71, 72, 73, 74, 75, 76, 77, 78, 79, 80, 81, 82, 83, 84, 85, 86, 87, 88, 89, 93, 94, 95, 96, 97, 98, 99, 100, 101, 102, 103, 104, 105, 106, 107, 108, 109, 110, 111, 112] (by decide +kernel) (by decide +kernel)
set_option maxRecDepth 20000 in
theorem gX5_sign_X5_primeOrder : GoodIn wsX5_sign (wsV RX5 208 RX5 yX5_primeOrder wsX5_primeOrder) := goodIn_app (goodIn_of _ (by decide +kernel)) ggX5_sign_X5_primeOrder
set_option maxRecDepth 20000 in
theorem ggX5_sign_X0_multiple : GoodIn wsX5_sign wsX0_multiple := goodIn_r _ [72, 73, 74, 75, 16, 76, 18, 21, 4, 22, 19, 20, 77, 78, 79, 80, 81, 82, 31, 83, 84, 25, 85, 96, 97, 98, 99, 100, 101, 102, 103, 104, 105, 106, 107] (by decide +kernel) (by decide +kernel)
set_option maxRecDepth 20000 in
theorem gX5_sign_X0_multiple : GoodIn wsX5_sign (wsV RX5 128 RX0 yX0_multiple wsX0_multiple) := goodIn_app (goodIn_of _ (by decide +kernel)) ggX5_sign_X0_multiple
set_option maxRecDepth 20000 in
theorem ggX5_sign_X5_xOf : GoodIn wsX5_sign wsX5_xOf := goodIn_r _ [20] (by decide +kernel) (by decide +kernel)
set_option maxRecDepth 20000 in
theorem gX5_sign_X5_xOf : GoodIn wsX5_sign (va_wsS RX5 87 yX5_xOf wsX5_xOf) := goodIn_app (goodIn_of _ (by decide +kernel)) ggX5_sign_X5_xOf
set_option maxRecDepth 20000 in
theorem ggX5_sign_X4_inverted : GoodIn wsX5_sign wsX4_inverted := goodIn_r _ [85] (by decide +kernel) (by decide +kernel)
set_option maxRecDepth 20000 in
theorem gX5_sign_X4_inverted : GoodIn wsX5_sign (va_wsS RX5 99 yX4_inverted wsX4_inverted) := goodIn_app (goodIn_of _ (by decide +kernel)) ggX5_sign_X4_inverted
theorem dX5_sign_21 : decode cX5_sign 21 = .ok (.iload_n 3, 1) := by decide +kernel
theorem dX5_sign_22 : decode cX5_sign 22 = .ok (.iconst 1, 1) := by decide +kernel
theorem dX5_sign_23 : decode cX5_sign 23 = .ok (.if_icmp .lt 38, 3) := by decide +kernel
theorem dX5_sign_26 : decode cX5_sign 26 = .ok (.iload_n 3, 1) := by decide +kernel
theorem dX5_sign_27 : decode cX5_sign 27 = .ok (.iload 8, 2) := by decide +kernel
theorem dX5_sign_29 : decode cX5_sign 29 = .ok (.if_icmp .ge 32, 3) := by decide +kernel
theorem dX5_sign_32 : decode cX5_sign 32 = .ok (.iload 4, 2) := by decide +kernel
theorem dX5_sign_34 : decode cX5_sign 34 = .ok (.iconst 1, 1) := by decide +kernel
theorem dX5_sign_35 : decode cX5_sign 35 = .ok (.if_icmp .lt 26, 3) := by decide +kernel
theorem dX5_sign_38 : decode cX5_sign 38 = .ok (.iload 4, 2) := by decide +kernel
theorem dX5_sign_40 : decode cX5_sign 40 = .ok (.iload 8, 2) := by decide +kernel
theorem dX5_sign_42 : decode cX5_sign 42 = .ok (.if_icmp .ge 19, 3) := by decide +kernel
theorem dX5_sign_45 : decode cX5_sign 45 = .ok (.iload 5, 2) := by decide +kernel
theorem dX5_sign_47 : decode cX5_sign 47 = .ok (.ifCond .lt 14, 3) := by decide +kernel
theorem dX5_sign_50 : decode cX5_sign 50 = .ok (.iload 6, 2) := by decide +kernel
theorem dX5_sign_52 : decode cX5_sign 52 = .ok (.ifCond .lt 9, 3) := by decide +kernel
theorem dX5_sign_55 : decode cX5_sign 55 = .ok (.iload 6, 2) := by decide +kernel
theorem dX5_sign_57 : decode cX5_sign 57 = .ok (.iconst 1, 1) := by decide +kernel
theorem dX5_sign_58 : decode cX5_sign 58 = .ok (.if_icmp .le 6, 3) := by decide +kernel
theorem dX5_sign_64 : decode cX5_sign 64 = .ok (.aload 7, 2) := by decide +kernel
theorem dX5_sign_66 : decode cX5_sign 66 = .ok (.iload_n 2, 1) := by decide +kernel
theorem dX5_sign_67 : decode cX5_sign 67 = .ok (.iload 4, 2) := by decide +kernel
theorem dX5_sign_69 : decode cX5_sign 69 = .ok (.i2l, 1) := by decide +kernel
theorem dX5_sign_70 : decode cX5_sign 70 = .ok (.invokevirtual 128, 3) := by decide +kernel
theorem dX5_sign_73 : decode cX5_sign 73 = .ok (.istore 9, 2) := by decide +kernel
theorem dX5_sign_75 : decode cX5_sign 75 = .ok (.iload 9, 2) := by decide +kernel
theorem dX5_sign_77 : decode cX5_sign 77 = .ok (.iconst (-1), 1) := by decide +kernel
theorem dX5_sign_78 : decode cX5_sign 78 = .ok (.if_icmp .ne 7, 3) := by decide +kernel
theorem dX5_sign_81 : decode cX5_sign 81 = .ok (.iconst 0, 1) := by decide +kernel
theorem dX5_sign_82 : decode cX5_sign 82 = .ok (.goto 11, 3) := by decide +kernel
theorem dX5_sign_85 : decode cX5_sign 85 = .ok (.iload 9, 2) := by decide +kernel
theorem dX5_sign_87 : decode cX5_sign 87 = .ok (.invokestatic 87, 3) := by decide +kernel
theorem dX5_sign_90 : decode cX5_sign 90 = .ok (.iload 8, 2) := by decide +kernel
theorem dX5_sign_92 : decode cX5_sign 92 = .ok (.irem, 1) := by decide +kernel
theorem dX5_sign_93 : decode cX5_sign 93 = .ok (.istore 10, 2) := by decide +kernel
theorem dX5_sign_95 : decode cX5_sign 95 = .ok (.iload 5, 2) := by decide +kernel
theorem dX5_sign_97 : decode cX5_sign 97 = .ok (.iload 8, 2) := by decide +kernel
theorem dX5_sign_99 : decode cX5_sign 99 = .ok (.irem, 1) := by decide +kernel
theorem dX5_sign_100 : decode cX5_sign 100 = .ok (.iload 10, 2) := by decide +kernel
theorem dX5_sign_102 : decode cX5_sign 102 = .ok (.iload_n 3, 1) := by decide +kernel
theorem dX5_sign_103 : decode cX5_sign 103 = .ok (.imul, 1) := by decide +kernel
theorem dX5_sign_104 : decode cX5_sign 104 = .ok (.iadd, 1) := by decide +kernel
theorem dX5_sign_105 : decode cX5_sign 105 = .ok (.iload 8, 2) := by decide +kernel
theorem dX5_sign_107 : decode cX5_sign 107 = .ok (.irem, 1) := by decide +kernel
theorem dX5_sign_108 : decode cX5_sign 108 = .ok (.iload 4, 2) := by decide +kernel
theorem dX5_sign_110 : decode cX5_sign 110 = .ok (.iload 8, 2) := by decide +kernel
theorem dX5_sign_112 : decode cX5_sign 112 = .ok (.invokestatic 99, 3) := by decide +kernel
theorem dX5_sign_115 : decode cX5_sign 115 = .ok (.imul, 1) := by decide +kernel
theorem dX5_sign_116 : decode cX5_sign 116 = .ok (.iload 8, 2) := by decide +kernel
theorem dX5_sign_118 : decode cX5_sign 118 = .ok (.irem, 1) := by decide +kernel
theorem dX5_sign_119 : decode cX5_sign 119 = .ok (.istore 11, 2) := by decide +kernel
theorem dX5_sign_121 : decode cX5_sign 121 = .ok (.iload 10, 2) := by decide +kernel
theorem dX5_sign_123 : decode cX5_sign 123 = .ok (.ifCond .eq 8, 3) := by decide +kernel
theorem dX5_sign_126 : decode cX5_sign 126 = .ok (.iload 11, 2) := by decide +kernel
theorem dX5_sign_128 : decode cX5_sign 128 = .ok (.ifCond .ne 6, 3) := by decide +kernel
theorem dX5_sign_131 : decode cX5_sign 131 = .ok (.bipush (-3), 2) := by decide +kernel
theorem dX5_sign_133 : decode cX5_sign 133 = .ok (.ireturn, 1) := by decide +kernel
theorem dX5_sign_134 : decode cX5_sign 134 = .ok (.iload 6, 2) := by decide +kernel
theorem dX5_sign_136 : decode cX5_sign 136 = .ok (.ifCond .ne 8, 3) := by decide +kernel
theorem dX5_sign_139 : decode cX5_sign 139 = .ok (.iload 10, 2) := by decide +kernel
theorem dX5_sign_141 : decode cX5_sign 141 = .ok (.goto 5, 3) := by decide +kernel
theorem dX5_sign_144 : decode cX5_sign 144 = .ok (.iload 11, 2) := by decide +kernel
theorem dX5_sign_146 : decode cX5_sign 146 = .ok (.ireturn, 1) := by decide +kernel
set_option maxRecDepth 20000 in
theorem ggX5_good_X5_at : GoodIn wsX5_good wsX5_at := goodIn_r _ [5, 6, 7, 94, 95, 96] (by decide +kernel) (by decide +kernel)
set_option maxRecDepth 20000 in
theorem gX5_good_X5_at : GoodIn wsX5_good (wsV RX5 47 RX5 yX5_at wsX5_at) := goodIn_app (goodIn_of _ (by decide +kernel)) ggX5_good_X5_at
set_option maxRecDepth 20000 in
theorem ggX5_good_X5_primeOrder : GoodIn wsX5_good wsX5_primeOrder := goodIn_r _ [11, 12, 13, 14, 15, 16, 17, 18, 19, 4, 20, 21, 22, 23, 24, 25, 26, 27, 28, 29, 30, 31, 32, 33, 34, 35, 36, 37, 38, 39, 40, 41, 42, 43, 44, 45, 46, 47, 48, 49, 50, 51, 52, 53, 54, 55, 56, 57, 58, 59, 60, 61, 62, 63, 64, 65, 66, 67, 68, 69, 70, 71, 72, 73, 74, 75, 76, 77, 78, 79, 80, 81, 82, 83, 84, 85, 86, 87, 88, 89, 94, 95, 96, 97, 98, 99, 100, 101, 102, 103, 104, 105, 106, 107, 108, 109, 110, 111, 112, 113] (by decide +kernel) (by decide +kernel)
set_option maxRecDepth 20000 in
theorem gX5_good_X5_primeOrder : GoodIn wsX5_good (wsV RX5 208 RX5 yX5_primeOrder wsX5_primeOrder) := goodIn_app (goodIn_of _ (by decide +kernel)) ggX5_good_X5_primeOrder
set_option maxRecDepth 20000 in
theorem ggX5_good_X0_holds : GoodIn wsX5_good wsX0_holds := goodIn_r _ [17, 18, 19, 4, 20, 21, 22, 23, 24, 25, 26, 27, 28, 29, 16, 30, 31, 32, 97, 98, 99, 100, 101, 102, 103, 104, 105, 106, 107, 108] (by decide +kernel) (by decide +kernel)
set_option maxRecDepth 20000 in
theorem gX5_good_X0_holds : GoodIn wsX5_good (wsV RX5 84 RX0 yX0_holds wsX0_holds) := goodIn_app (goodIn_of _ (by decide +kernel)) ggX5_good_X0_holds
set_option maxRecDepth 20000 in
theorem ggX5_good_X4_inverted : GoodIn wsX5_good wsX4_inverted := goodIn_r _ [85] (by decide +kernel) (by decide +kernel)
set_option maxRecDepth 20000 in
theorem gX5_good_X4_inverted : GoodIn wsX5_good (va_wsS RX5 99 yX4_inverted wsX4_inverted) := goodIn_app (goodIn_of _ (by decide +kernel)) ggX5_good_X4_inverted
set_option maxRecDepth 20000 in
theorem ggX5_good_X0_multiple : GoodIn wsX5_good wsX0_multiple := goodIn_r _ [72, 73, 74, 75, 16, 76, 18, 21, 4, 22, 19, 20, 77, 78, 79, 80, 81, 82, 31, 83, 84, 25, 85, 97, 98, 99, 100, 101, 102, 103, 104, 105, 106, 107, 108] (by decide +kernel) (by decide +kernel)
set_option maxRecDepth 20000 in
theorem gX5_good_X0_multiple : GoodIn wsX5_good (wsV RX5 128 RX0 yX0_multiple wsX0_multiple) := goodIn_app (goodIn_of _ (by decide +kernel)) ggX5_good_X0_multiple
set_option maxRecDepth 20000 in
theorem ggX5_good_X0_sum : GoodIn wsX5_good wsX0_sum := goodIn_r _ [82, 18, 31, 19, 4, 20, 21, 22, 83, 84, 25, 85, 77, 78, 97, 98, 99, 100, 101, 102, 103, 104, 105, 106, 107, 108] (by decide +kernel) (by decide +kernel)
set_option maxRecDepth 20000 in
theorem gX5_good_X0_sum : GoodIn wsX5_good (wsV RX5 125 RX0 yX0_sum wsX0_sum) := goodIn_app (goodIn_of _ (by decide +kernel)) ggX5_good_X0_sum
set_option maxRecDepth 20000 in
theorem ggX5_good_X5_xOf : GoodIn wsX5_good wsX5_xOf := goodIn_r _ [20] (by decide +kernel) (by decide +kernel)
set_option maxRecDepth 20000 in
theorem gX5_good_X5_xOf : GoodIn wsX5_good (va_wsS RX5 87 yX5_xOf wsX5_xOf) := goodIn_app (goodIn_of _ (by decide +kernel)) ggX5_good_X5_xOf
theorem dX5_good_21 : decode cX5_good 21 = .ok (.aload 7, 2) := by decide +kernel
theorem dX5_good_23 : decode cX5_good 23 = .ok (.iload_n 3, 1) := by decide +kernel
theorem dX5_good_24 : decode cX5_good 24 = .ok (.invokevirtual 84, 3) := by decide +kernel
theorem dX5_good_27 : decode cX5_good 27 = .ok (.ifCond .eq 8, 3) := by decide +kernel
theorem dX5_good_30 : decode cX5_good 30 = .ok (.iload 4, 2) := by decide +kernel
theorem dX5_good_32 : decode cX5_good 32 = .ok (.ifCond .ge 6, 3) := by decide +kernel
theorem dX5_good_38 : decode cX5_good 38 = .ok (.iload 5, 2) := by decide +kernel
theorem dX5_good_40 : decode cX5_good 40 = .ok (.iconst 1, 1) := by decide +kernel
theorem dX5_good_41 : decode cX5_good 41 = .ok (.if_icmp .lt 23, 3) := by decide +kernel
theorem dX5_good_44 : decode cX5_good 44 = .ok (.iload 5, 2) := by decide +kernel
theorem dX5_good_46 : decode cX5_good 46 = .ok (.iload 8, 2) := by decide +kernel
theorem dX5_good_48 : decode cX5_good 48 = .ok (.if_icmp .ge 16, 3) := by decide +kernel
theorem dX5_good_51 : decode cX5_good 51 = .ok (.iload 6, 2) := by decide +kernel
theorem dX5_good_53 : decode cX5_good 53 = .ok (.iconst 1, 1) := by decide +kernel
theorem dX5_good_54 : decode cX5_good 54 = .ok (.if_icmp .lt 10, 3) := by decide +kernel
theorem dX5_good_57 : decode cX5_good 57 = .ok (.iload 6, 2) := by decide +kernel
theorem dX5_good_59 : decode cX5_good 59 = .ok (.iload 8, 2) := by decide +kernel
theorem dX5_good_61 : decode cX5_good 61 = .ok (.if_icmp .lt 5, 3) := by decide +kernel
theorem dX5_good_64 : decode cX5_good 64 = .ok (.iconst 0, 1) := by decide +kernel
theorem dX5_good_65 : decode cX5_good 65 = .ok (.ireturn, 1) := by decide +kernel
theorem dX5_good_66 : decode cX5_good 66 = .ok (.iload 6, 2) := by decide +kernel
theorem dX5_good_68 : decode cX5_good 68 = .ok (.iload 8, 2) := by decide +kernel
theorem dX5_good_70 : decode cX5_good 70 = .ok (.invokestatic 99, 3) := by decide +kernel
theorem dX5_good_73 : decode cX5_good 73 = .ok (.istore 9, 2) := by decide +kernel
theorem dX5_good_75 : decode cX5_good 75 = .ok (.aload 7, 2) := by decide +kernel
theorem dX5_good_77 : decode cX5_good 77 = .ok (.aload 7, 2) := by decide +kernel
theorem dX5_good_79 : decode cX5_good 79 = .ok (.iload_n 2, 1) := by decide +kernel
theorem dX5_good_80 : decode cX5_good 80 = .ok (.iload 4, 2) := by decide +kernel
theorem dX5_good_82 : decode cX5_good 82 = .ok (.iload 8, 2) := by decide +kernel
theorem dX5_good_84 : decode cX5_good 84 = .ok (.irem, 1) := by decide +kernel
theorem dX5_good_85 : decode cX5_good 85 = .ok (.iload 9, 2) := by decide +kernel
theorem dX5_good_87 : decode cX5_good 87 = .ok (.imul, 1) := by decide +kernel
theorem dX5_good_88 : decode cX5_good 88 = .ok (.iload 8, 2) := by decide +kernel
theorem dX5_good_90 : decode cX5_good 90 = .ok (.irem, 1) := by decide +kernel
theorem dX5_good_91 : decode cX5_good 91 = .ok (.i2l, 1) := by decide +kernel
theorem dX5_good_92 : decode cX5_good 92 = .ok (.invokevirtual 128, 3) := by decide +kernel
theorem dX5_good_95 : decode cX5_good 95 = .ok (.aload 7, 2) := by decide +kernel
theorem dX5_good_97 : decode cX5_good 97 = .ok (.iload_n 3, 1) := by decide +kernel
theorem dX5_good_98 : decode cX5_good 98 = .ok (.iload 5, 2) := by decide +kernel
theorem dX5_good_100 : decode cX5_good 100 = .ok (.iload 9, 2) := by decide +kernel
theorem dX5_good_102 : decode cX5_good 102 = .ok (.imul, 1) := by decide +kernel
theorem dX5_good_103 : decode cX5_good 103 = .ok (.iload 8, 2) := by decide +kernel
theorem dX5_good_105 : decode cX5_good 105 = .ok (.irem, 1) := by decide +kernel
theorem dX5_good_106 : decode cX5_good 106 = .ok (.i2l, 1) := by decide +kernel
theorem dX5_good_107 : decode cX5_good 107 = .ok (.invokevirtual 128, 3) := by decide +kernel
theorem dX5_good_110 : decode cX5_good 110 = .ok (.invokevirtual 125, 3) := by decide +kernel
theorem dX5_good_113 : decode cX5_good 113 = .ok (.istore 10, 2) := by decide +kernel
theorem dX5_good_115 : decode cX5_good 115 = .ok (.iload 10, 2) := by decide +kernel
theorem dX5_good_117 : decode cX5_good 117 = .ok (.iconst (-1), 1) := by decide +kernel
theorem dX5_good_118 : decode cX5_good 118 = .ok (.if_icmp .eq 20, 3) := by decide +kernel
theorem dX5_good_121 : decode cX5_good 121 = .ok (.iload 10, 2) := by decide +kernel
theorem dX5_good_123 : decode cX5_good 123 = .ok (.invokestatic 87, 3) := by decide +kernel
theorem dX5_good_126 : decode cX5_good 126 = .ok (.iload 8, 2) := by decide +kernel
theorem dX5_good_128 : decode cX5_good 128 = .ok (.irem, 1) := by decide +kernel
theorem dX5_good_129 : decode cX5_good 129 = .ok (.iload 5, 2) := by decide +kernel
theorem dX5_good_131 : decode cX5_good 131 = .ok (.if_icmp .ne 7, 3) := by decide +kernel
theorem dX5_good_134 : decode cX5_good 134 = .ok (.iconst 1, 1) := by decide +kernel
theorem dX5_good_135 : decode cX5_good 135 = .ok (.goto 4, 3) := by decide +kernel
theorem dX5_good_138 : decode cX5_good 138 = .ok (.iconst 0, 1) := by decide +kernel
theorem dX5_good_139 : decode cX5_good 139 = .ok (.ireturn, 1) := by decide +kernel
theorem dX5_drop_10 : decode cX5_drop 10 = .ok (.aload_n 0, 1) := by decide +kernel
theorem dX5_drop_11 : decode cX5_drop 11 = .ok (.dup, 1) := by decide +kernel
theorem dX5_drop_12 : decode cX5_drop 12 = .ok (.getfield 15, 3) := by decide +kernel
theorem dX5_drop_15 : decode cX5_drop 15 = .ok (.iconst 1, 1) := by decide +kernel
theorem dX5_drop_16 : decode cX5_drop 16 = .ok (.isub, 1) := by decide +kernel
theorem dX5_drop_17 : decode cX5_drop 17 = .ok (.putfield 15, 3) := by decide +kernel
theorem dX5_drop_20 : decode cX5_drop 20 = .ok (.aload_n 0, 1) := by decide +kernel
theorem dX5_drop_21 : decode cX5_drop 21 = .ok (.getfield 11, 3) := by decide +kernel
theorem dX5_drop_24 : decode cX5_drop 24 = .ok (.aload_n 0, 1) := by decide +kernel
theorem dX5_drop_25 : decode cX5_drop 25 = .ok (.getfield 15, 3) := by decide +kernel
theorem dX5_drop_28 : decode cX5_drop 28 = .ok (.aconst_null, 1) := by decide +kernel
theorem dX5_drop_29 : decode cX5_drop 29 = .ok (.aastore, 1) := by decide +kernel
theorem dX5_drop_30 : decode cX5_drop 30 = .ok (.aload_n 0, 1) := by decide +kernel
theorem dX5_drop_31 : decode cX5_drop 31 = .ok (.getfield 15, 3) := by decide +kernel
theorem dX5_drop_34 : decode cX5_drop 34 = .ok (.ireturn, 1) := by decide +kernel
set_option maxRecDepth 20000 in
theorem ggX5_madeByKernel_X5_at : GoodIn wsX5_madeByKernel wsX5_at := goodIn_r _ [6, 7, 8, 21, 22, 23] (by decide +kernel) (by decide +kernel)
set_option maxRecDepth 20000 in
theorem gX5_madeByKernel_X5_at : GoodIn wsX5_madeByKernel (wsV RX5 47 RX5 yX5_at wsX5_at) := goodIn_app (goodIn_of _ (by decide +kernel)) ggX5_madeByKernel_X5_at
theorem dX5_madeByKernel_10 : decode cX5_madeByKernel 10 = .ok (.aload_n 2, 1) := by decide +kernel
theorem dX5_madeByKernel_11 : decode cX5_madeByKernel 11 = .ok (.getfield 202, 3) := by decide +kernel
theorem dX5_madeByKernel_14 : decode cX5_madeByKernel 14 = .ok (.ifCond .ne 7, 3) := by decide +kernel
theorem dX5_madeByKernel_21 : decode cX5_madeByKernel 21 = .ok (.aload_n 2, 1) := by decide +kernel
set_option maxRecDepth 20000 in
theorem ggX5_primeOrder_X0_holds : GoodIn wsX5_primeOrder wsX0_holds := goodIn_r _ [6, 7, 8, 9, 10, 11, 12, 13, 14, 15, 16, 17, 18, 19, 5, 20, 21, 22, 83, 84, 85, 86, 87, 88, 89, 90, 91, 92, 93, 94] (by decide +kernel) (by decide +kernel)
set_option maxRecDepth 20000 in
theorem gX5_primeOrder_X0_holds : GoodIn wsX5_primeOrder (wsV RX5 84 RX0 yX0_holds wsX0_holds) := goodIn_app (goodIn_of _ (by decide +kernel)) ggX5_primeOrder_X0_holds
set_option maxRecDepth 20000 in
theorem ggX5_primeOrder_X3_sizeOf : GoodIn wsX5_primeOrder wsX3_sizeOf := goodIn_r _ [27, 28, 29, 30, 31, 32, 33, 34, 26, 35, 36, 37, 38, 39, 40, 41, 42, 43, 44, 45, 46, 47, 48, 49, 50, 51, 83, 84, 85, 86, 87, 88, 89, 90, 91, 92, 93, 94, 95, 96, 97, 98, 99] (by decide +kernel) (by decide +kernel)
set_option maxRecDepth 20000 in
theorem gX5_primeOrder_X3_sizeOf : GoodIn wsX5_primeOrder (wsV RX5 132 RX3 yX3_sizeOf wsX3_sizeOf) := goodIn_app (goodIn_of _ (by decide +kernel)) ggX5_primeOrder_X3_sizeOf
set_option maxRecDepth 20000 in
theorem ggX5_primeOrder_X0_orderWithin : GoodIn wsX5_primeOrder wsX0_orderWithin := goodIn_r _ [55, 56, 57, 15, 58, 59, 60, 61, 5, 62, 63, 64, 65, 66, 7, 11, 9, 12, 8, 10, 67, 68, 69, 70, 71, 72, 21, 73, 74, 75, 83, 84, 85, 86, 87, 88, 89, 90, 91, 92, 93, 94] (by decide +kernel) (by decide +kernel)
set_option maxRecDepth 20000 in
theorem gX5_primeOrder_X0_orderWithin : GoodIn wsX5_primeOrder (wsV RX5 152 RX0 yX0_orderWithin wsX0_orderWithin) := goodIn_app (goodIn_of _ (by decide +kernel)) ggX5_primeOrder_X0_orderWithin
set_option maxRecDepth 20000 in
theorem ggX5_primeOrder_X4_isPrime : GoodIn wsX5_primeOrder wsX4_isPrime := goodIn_r _ [78, 79, 57, 15, 58] (by decide +kernel) (by decide +kernel)
set_option maxRecDepth 20000 in
theorem gX5_primeOrder_X4_isPrime : GoodIn wsX5_primeOrder (va_wsS RX5 217 yX4_isPrime wsX4_isPrime) := goodIn_app (goodIn_of _ (by decide +kernel)) ggX5_primeOrder_X4_isPrime
theorem dX5_primeOrder_4 : decode cX5_primeOrder 4 = .ok (.aload_n 1, 1) := by decide +kernel
theorem dX5_primeOrder_5 : decode cX5_primeOrder 5 = .ok (.iload_n 2, 1) := by decide +kernel
theorem dX5_primeOrder_6 : decode cX5_primeOrder 6 = .ok (.invokevirtual 84, 3) := by decide +kernel
theorem dX5_primeOrder_9 : decode cX5_primeOrder 9 = .ok (.ifCond .ne 5, 3) := by decide +kernel
theorem dX5_primeOrder_14 : decode cX5_primeOrder 14 = .ok (.aload_n 1, 1) := by decide +kernel
theorem dX5_primeOrder_15 : decode cX5_primeOrder 15 = .ok (.iload_n 2, 1) := by decide +kernel
theorem dX5_primeOrder_16 : decode cX5_primeOrder 16 = .ok (.aload_n 0, 1) := by decide +kernel
theorem dX5_primeOrder_17 : decode cX5_primeOrder 17 = .ok (.getfield 22, 3) := by decide +kernel
theorem dX5_primeOrder_20 : decode cX5_primeOrder 20 = .ok (.aload_n 1, 1) := by decide +kernel
theorem dX5_primeOrder_21 : decode cX5_primeOrder 21 = .ok (.invokevirtual 132, 3) := by decide +kernel
theorem dX5_primeOrder_24 : decode cX5_primeOrder 24 = .ok (.invokevirtual 152, 3) := by decide +kernel
theorem dX5_primeOrder_27 : decode cX5_primeOrder 27 = .ok (.istore_n 3, 1) := by decide +kernel
theorem dX5_primeOrder_28 : decode cX5_primeOrder 28 = .ok (.iload_n 3, 1) := by decide +kernel
theorem dX5_primeOrder_29 : decode cX5_primeOrder 29 = .ok (.invokestatic 217, 3) := by decide +kernel
theorem dX5_primeOrder_32 : decode cX5_primeOrder 32 = .ok (.ifCond .eq 7, 3) := by decide +kernel
theorem dX5_primeOrder_35 : decode cX5_primeOrder 35 = .ok (.iload_n 3, 1) := by decide +kernel
theorem dX5_primeOrder_36 : decode cX5_primeOrder 36 = .ok (.goto 4, 3) := by decide +kernel
theorem dX5_primeOrder_39 : decode cX5_primeOrder 39 = .ok (.iconst 0, 1) := by decide +kernel
theorem dX5_primeOrder_40 : decode cX5_primeOrder 40 = .ok (.ireturn, 1) := by decide +kernel
theorem dX5_pair_0 : decode cX5_pair 0 = .ok (.iload_n 0, 1) := by decide +kernel
theorem dX5_pair_1 : decode cX5_pair 1 = .ok (.bipush 14, 2) := by decide +kernel
theorem dX5_pair_3 : decode cX5_pair 3 = .ok (.ishl, 1) := by decide +kernel
theorem dX5_pair_4 : decode cX5_pair 4 = .ok (.iload_n 1, 1) := by decide +kernel
theorem dX5_pair_5 : decode cX5_pair 5 = .ok (.iadd, 1) := by decide +kernel
theorem dX5_pair_6 : decode cX5_pair 6 = .ok (.ireturn, 1) := by decide +kernel
theorem dX5_xOf_0 : decode cX5_xOf 0 = .ok (.iload_n 0, 1) := by decide +kernel
theorem dX5_xOf_1 : decode cX5_xOf 1 = .ok (.bipush 14, 2) := by decide +kernel
theorem dX5_xOf_3 : decode cX5_xOf 3 = .ok (.ishr, 1) := by decide +kernel
theorem dX5_xOf_4 : decode cX5_xOf 4 = .ok (.ireturn, 1) := by decide +kernel
theorem dX5_yOf_0 : decode cX5_yOf 0 = .ok (.iload_n 0, 1) := by decide +kernel
theorem dX5_yOf_1 : decode cX5_yOf 1 = .ok (.sipush 16383, 3) := by decide +kernel
theorem dX5_yOf_4 : decode cX5_yOf 4 = .ok (.iand, 1) := by decide +kernel
theorem dX5_yOf_5 : decode cX5_yOf 5 = .ok (.ireturn, 1) := by decide +kernel
set_option maxRecDepth 20000 in
theorem ggX6_powered_X6_mul : GoodIn wsX6_powered wsX6_mul := goodIn_r _ [5, 6, 7, 8, 9, 10, 11, 12, 13, 14, 15, 16, 17, 18, 19, 20, 21, 22, 23, 24] (by decide +kernel) (by decide +kernel)
set_option maxRecDepth 20000 in
theorem gX6_powered_X6_mul : GoodIn wsX6_powered (wsV RX6 57 RX6 yX6_mul wsX6_mul) := goodIn_app (goodIn_of _ (by decide +kernel)) ggX6_powered_X6_mul
theorem dX6_powered_0 : decode cX6_powered 0 = .ok (.iconst 1, 1) := by decide +kernel
theorem dX6_powered_1 : decode cX6_powered 1 = .ok (.istore 4, 2) := by decide +kernel
theorem dX6_powered_3 : decode cX6_powered 3 = .ok (.iload_n 1, 1) := by decide +kernel
theorem dX6_powered_4 : decode cX6_powered 4 = .ok (.istore 5, 2) := by decide +kernel
theorem dX6_powered_6 : decode cX6_powered 6 = .ok (.lload_n 2, 1) := by decide +kernel
theorem dX6_powered_7 : decode cX6_powered 7 = .ok (.lstore 6, 2) := by decide +kernel
theorem dX6_powered_9 : decode cX6_powered 9 = .ok (.lload 6, 2) := by decide +kernel
theorem dX6_powered_11 : decode cX6_powered 11 = .ok (.lconst 0, 1) := by decide +kernel
theorem dX6_powered_12 : decode cX6_powered 12 = .ok (.lcmp, 1) := by decide +kernel
theorem dX6_powered_13 : decode cX6_powered 13 = .ok (.ifCond .le 46, 3) := by decide +kernel
theorem dX6_powered_16 : decode cX6_powered 16 = .ok (.lload 6, 2) := by decide +kernel
theorem dX6_powered_18 : decode cX6_powered 18 = .ok (.lconst 1, 1) := by decide +kernel
theorem dX6_powered_19 : decode cX6_powered 19 = .ok (.land, 1) := by decide +kernel
theorem dX6_powered_20 : decode cX6_powered 20 = .ok (.lconst 1, 1) := by decide +kernel
theorem dX6_powered_21 : decode cX6_powered 21 = .ok (.lcmp, 1) := by decide +kernel
theorem dX6_powered_22 : decode cX6_powered 22 = .ok (.ifCond .ne 14, 3) := by decide +kernel
theorem dX6_powered_25 : decode cX6_powered 25 = .ok (.aload_n 0, 1) := by decide +kernel
theorem dX6_powered_26 : decode cX6_powered 26 = .ok (.iload 4, 2) := by decide +kernel
theorem dX6_powered_28 : decode cX6_powered 28 = .ok (.iload 5, 2) := by decide +kernel
theorem dX6_powered_30 : decode cX6_powered 30 = .ok (.invokevirtual 57, 3) := by decide +kernel
theorem dX6_powered_33 : decode cX6_powered 33 = .ok (.goto 5, 3) := by decide +kernel
theorem dX6_powered_36 : decode cX6_powered 36 = .ok (.iload 4, 2) := by decide +kernel
theorem dX6_powered_38 : decode cX6_powered 38 = .ok (.istore 4, 2) := by decide +kernel
theorem dX6_powered_40 : decode cX6_powered 40 = .ok (.aload_n 0, 1) := by decide +kernel
theorem dX6_powered_41 : decode cX6_powered 41 = .ok (.iload 5, 2) := by decide +kernel
theorem dX6_powered_43 : decode cX6_powered 43 = .ok (.iload 5, 2) := by decide +kernel
theorem dX6_powered_45 : decode cX6_powered 45 = .ok (.invokevirtual 57, 3) := by decide +kernel
theorem dX6_powered_48 : decode cX6_powered 48 = .ok (.istore 5, 2) := by decide +kernel
theorem dX6_powered_50 : decode cX6_powered 50 = .ok (.lload 6, 2) := by decide +kernel
theorem dX6_powered_52 : decode cX6_powered 52 = .ok (.iconst 1, 1) := by decide +kernel
theorem dX6_powered_53 : decode cX6_powered 53 = .ok (.lshr, 1) := by decide +kernel
theorem dX6_powered_54 : decode cX6_powered 54 = .ok (.lstore 6, 2) := by decide +kernel
theorem dX6_powered_56 : decode cX6_powered 56 = .ok (.goto (-47), 3) := by decide +kernel
theorem dX6_powered_59 : decode cX6_powered 59 = .ok (.iload 4, 2) := by decide +kernel
theorem dX6_powered_61 : decode cX6_powered 61 = .ok (.ireturn, 1) := by decide +kernel
theorem dX6_noSquare_0 : decode cX6_noSquare 0 = .ok (.iconst 2, 1) := by decide +kernel
theorem dX6_noSquare_1 : decode cX6_noSquare 1 = .ok (.istore_n 1, 1) := by decide +kernel
theorem dX6_noSquare_2 : decode cX6_noSquare 2 = .ok (.aload_n 0, 1) := by decide +kernel
theorem dX6_noSquare_3 : decode cX6_noSquare 3 = .ok (.getfield 13, 3) := by decide +kernel
theorem dX6_noSquare_6 : decode cX6_noSquare 6 = .ok (.iload_n 1, 1) := by decide +kernel
theorem dX6_noSquare_7 : decode cX6_noSquare 7 = .ok (.iaload, 1) := by decide +kernel
theorem dX6_noSquare_8 : decode cX6_noSquare 8 = .ok (.iconst (-1), 1) := by decide +kernel
theorem dX6_noSquare_9 : decode cX6_noSquare 9 = .ok (.if_icmp .eq 9, 3) := by decide +kernel
theorem dX6_noSquare_12 : decode cX6_noSquare 12 = .ok (.iinc 1 1, 3) := by decide +kernel
theorem dX6_noSquare_15 : decode cX6_noSquare 15 = .ok (.goto (-13), 3) := by decide +kernel
theorem dX6_noSquare_18 : decode cX6_noSquare 18 = .ok (.iload_n 1, 1) := by decide +kernel
theorem dX6_noSquare_19 : decode cX6_noSquare 19 = .ok (.ireturn, 1) := by decide +kernel
set_option maxRecDepth 20000 in
theorem ggX6_list_X6_right : GoodIn wsX6_list wsX6_right := goodIn_r _ [10, 11, 12, 13, 14, 15, 9, 16, 3, 17, 18, 19, 20, 21, 22, 23, 24, 25, 26, 27, 28, 29, 30, 31, 32, 33, 34, 35, 36, 37, 38] (by decide +kernel) (by decide +kernel)
set_option maxRecDepth 20000 in
theorem gX6_list_X6_right : GoodIn wsX6_list (wsV RX6 75 RX6 yX6_right wsX6_right) := goodIn_app (goodIn_of _ (by decide +kernel)) ggX6_list_X6_right
theorem dX6_list_0 : decode cX6_list 0 = .ok (.aload_n 0, 1) := by decide +kernel
theorem dX6_list_1 : decode cX6_list 1 = .ok (.getfield 54, 3) := by decide +kernel
theorem dX6_list_4 : decode cX6_list 4 = .ok (.ifCond .le 4, 3) := by decide +kernel
theorem dX6_list_7 : decode cX6_list 7 = .ok (.return_, 1) := by decide +kernel
theorem dX6_list_8 : decode cX6_list 8 = .ok (.aload_n 0, 1) := by decide +kernel
theorem dX6_list_9 : decode cX6_list 9 = .ok (.getfield 16, 3) := by decide +kernel
theorem dX6_list_12 : decode cX6_list 12 = .ok (.iconst 0, 1) := by decide +kernel
theorem dX6_list_13 : decode cX6_list 13 = .ok (.iconst (-1), 1) := by decide +kernel
theorem dX6_list_14 : decode cX6_list 14 = .ok (.iastore, 1) := by decide +kernel
theorem dX6_list_15 : decode cX6_list 15 = .ok (.aload_n 0, 1) := by decide +kernel
theorem dX6_list_16 : decode cX6_list 16 = .ok (.iconst 1, 1) := by decide +kernel
theorem dX6_list_17 : decode cX6_list 17 = .ok (.putfield 54, 3) := by decide +kernel
theorem dX6_list_20 : decode cX6_list 20 = .ok (.iconst 0, 1) := by decide +kernel
theorem dX6_list_21 : decode cX6_list 21 = .ok (.istore_n 1, 1) := by decide +kernel
theorem dX6_list_22 : decode cX6_list 22 = .ok (.iload_n 1, 1) := by decide +kernel
theorem dX6_list_23 : decode cX6_list 23 = .ok (.aload_n 0, 1) := by decide +kernel
theorem dX6_list_24 : decode cX6_list 24 = .ok (.getfield 47, 3) := by decide +kernel
theorem dX6_list_27 : decode cX6_list 27 = .ok (.if_icmp .ge 96, 3) := by decide +kernel
theorem dX6_list_30 : decode cX6_list 30 = .ok (.aload_n 0, 1) := by decide +kernel
theorem dX6_list_31 : decode cX6_list 31 = .ok (.getfield 19, 3) := by decide +kernel
theorem dX6_list_34 : decode cX6_list 34 = .ok (.iload_n 1, 1) := by decide +kernel
theorem dX6_list_35 : decode cX6_list 35 = .ok (.aload_n 0, 1) := by decide +kernel
theorem dX6_list_36 : decode cX6_list 36 = .ok (.getfield 54, 3) := by decide +kernel
theorem dX6_list_39 : decode cX6_list 39 = .ok (.iastore, 1) := by decide +kernel
theorem dX6_list_40 : decode cX6_list 40 = .ok (.aload_n 0, 1) := by decide +kernel
theorem dX6_list_41 : decode cX6_list 41 = .ok (.getfield 13, 3) := by decide +kernel
theorem dX6_list_44 : decode cX6_list 44 = .ok (.aload_n 0, 1) := by decide +kernel
theorem dX6_list_45 : decode cX6_list 45 = .ok (.iload_n 1, 1) := by decide +kernel
theorem dX6_list_46 : decode cX6_list 46 = .ok (.invokevirtual 75, 3) := by decide +kernel
theorem dX6_list_49 : decode cX6_list 49 = .ok (.iaload, 1) := by decide +kernel
theorem dX6_list_50 : decode cX6_list 50 = .ok (.istore_n 2, 1) := by decide +kernel
theorem dX6_list_51 : decode cX6_list 51 = .ok (.iload_n 2, 1) := by decide +kernel
theorem dX6_list_52 : decode cX6_list 52 = .ok (.iconst (-1), 1) := by decide +kernel
theorem dX6_list_53 : decode cX6_list 53 = .ok (.if_icmp .eq 64, 3) := by decide +kernel
theorem dX6_list_56 : decode cX6_list 56 = .ok (.aload_n 0, 1) := by decide +kernel
theorem dX6_list_57 : decode cX6_list 57 = .ok (.getfield 16, 3) := by decide +kernel
theorem dX6_list_60 : decode cX6_list 60 = .ok (.aload_n 0, 1) := by decide +kernel
theorem dX6_list_61 : decode cX6_list 61 = .ok (.getfield 54, 3) := by decide +kernel
theorem dX6_list_64 : decode cX6_list 64 = .ok (.sipush 16384, 3) := by decide +kernel
theorem dX6_list_67 : decode cX6_list 67 = .ok (.iload_n 1, 1) := by decide +kernel
theorem dX6_list_68 : decode cX6_list 68 = .ok (.imul, 1) := by decide +kernel
theorem dX6_list_69 : decode cX6_list 69 = .ok (.iload_n 2, 1) := by decide +kernel
theorem dX6_list_70 : decode cX6_list 70 = .ok (.iadd, 1) := by decide +kernel
theorem dX6_list_71 : decode cX6_list 71 = .ok (.iastore, 1) := by decide +kernel
theorem dX6_list_72 : decode cX6_list 72 = .ok (.aload_n 0, 1) := by decide +kernel
theorem dX6_list_73 : decode cX6_list 73 = .ok (.dup, 1) := by decide +kernel
theorem dX6_list_74 : decode cX6_list 74 = .ok (.getfield 54, 3) := by decide +kernel
theorem dX6_list_77 : decode cX6_list 77 = .ok (.iconst 1, 1) := by decide +kernel
theorem dX6_list_78 : decode cX6_list 78 = .ok (.iadd, 1) := by decide +kernel
theorem dX6_list_79 : decode cX6_list 79 = .ok (.putfield 54, 3) := by decide +kernel
theorem dX6_list_82 : decode cX6_list 82 = .ok (.iload_n 2, 1) := by decide +kernel
theorem dX6_list_83 : decode cX6_list 83 = .ok (.ifCond .le 34, 3) := by decide +kernel
theorem dX6_list_86 : decode cX6_list 86 = .ok (.aload_n 0, 1) := by decide +kernel
theorem dX6_list_87 : decode cX6_list 87 = .ok (.getfield 16, 3) := by decide +kernel
theorem dX6_list_90 : decode cX6_list 90 = .ok (.aload_n 0, 1) := by decide +kernel
theorem dX6_list_91 : decode cX6_list 91 = .ok (.getfield 54, 3) := by decide +kernel
theorem dX6_list_94 : decode cX6_list 94 = .ok (.sipush 16384, 3) := by decide +kernel
theorem dX6_list_97 : decode cX6_list 97 = .ok (.iload_n 1, 1) := by decide +kernel
theorem dX6_list_98 : decode cX6_list 98 = .ok (.imul, 1) := by decide +kernel
theorem dX6_list_99 : decode cX6_list 99 = .ok (.aload_n 0, 1) := by decide +kernel
theorem dX6_list_100 : decode cX6_list 100 = .ok (.getfield 47, 3) := by decide +kernel
theorem dX6_list_103 : decode cX6_list 103 = .ok (.iadd, 1) := by decide +kernel
theorem dX6_list_104 : decode cX6_list 104 = .ok (.iload_n 2, 1) := by decide +kernel
theorem dX6_list_105 : decode cX6_list 105 = .ok (.isub, 1) := by decide +kernel
theorem dX6_list_106 : decode cX6_list 106 = .ok (.iastore, 1) := by decide +kernel
theorem dX6_list_107 : decode cX6_list 107 = .ok (.aload_n 0, 1) := by decide +kernel
theorem dX6_list_108 : decode cX6_list 108 = .ok (.dup, 1) := by decide +kernel
theorem dX6_list_109 : decode cX6_list 109 = .ok (.getfield 54, 3) := by decide +kernel
theorem dX6_list_112 : decode cX6_list 112 = .ok (.iconst 1, 1) := by decide +kernel
theorem dX6_list_113 : decode cX6_list 113 = .ok (.iadd, 1) := by decide +kernel
theorem dX6_list_114 : decode cX6_list 114 = .ok (.putfield 54, 3) := by decide +kernel
theorem dX6_list_117 : decode cX6_list 117 = .ok (.iinc 1 1, 3) := by decide +kernel
theorem dX6_list_120 : decode cX6_list 120 = .ok (.goto (-98), 3) := by decide +kernel
theorem dX6_list_123 : decode cX6_list 123 = .ok (.return_, 1) := by decide +kernel
set_option maxRecDepth 20000 in
theorem ggX6_isPoint_X6_mul : GoodIn wsX6_isPoint wsX6_mul := goodIn_r _ [6, 1, 17, 18, 19, 20, 21, 22, 23, 24, 25, 26, 27, 28, 29, 30, 31, 32, 33, 34] (by decide +kernel) (by decide +kernel)
set_option maxRecDepth 20000 in
theorem gX6_isPoint_X6_mul : GoodIn wsX6_isPoint (wsV RX6 57 RX6 yX6_mul wsX6_mul) := goodIn_app (goodIn_of _ (by decide +kernel)) ggX6_isPoint_X6_mul
set_option maxRecDepth 20000 in
theorem ggX6_isPoint_X6_right : GoodIn wsX6_isPoint wsX6_right := goodIn_r _ [10, 11, 12, 2, 3, 4, 5, 6, 1, 13, 14, 15, 16, 17, 18, 19, 20, 21, 22, 23, 24, 25, 26, 27, 28, 29, 30, 31, 32, 33, 34] (by decide +kernel) (by decide +kernel)
set_option maxRecDepth 20000 in
theorem gX6_isPoint_X6_right : GoodIn wsX6_isPoint (wsV RX6 75 RX6 yX6_right wsX6_right) := goodIn_app (goodIn_of _ (by decide +kernel)) ggX6_isPoint_X6_right
theorem dX6_isPoint_0 : decode cX6_isPoint 0 = .ok (.iload_n 1, 1) := by decide +kernel
theorem dX6_isPoint_1 : decode cX6_isPoint 1 = .ok (.iconst (-1), 1) := by decide +kernel
theorem dX6_isPoint_2 : decode cX6_isPoint 2 = .ok (.if_icmp .ne 5, 3) := by decide +kernel
theorem dX6_isPoint_5 : decode cX6_isPoint 5 = .ok (.iconst 1, 1) := by decide +kernel
theorem dX6_isPoint_6 : decode cX6_isPoint 6 = .ok (.ireturn, 1) := by decide +kernel
theorem dX6_isPoint_7 : decode cX6_isPoint 7 = .ok (.iload_n 1, 1) := by decide +kernel
theorem dX6_isPoint_8 : decode cX6_isPoint 8 = .ok (.ifCond .lt 27, 3) := by decide +kernel
theorem dX6_isPoint_11 : decode cX6_isPoint 11 = .ok (.iload_n 1, 1) := by decide +kernel
theorem dX6_isPoint_12 : decode cX6_isPoint 12 = .ok (.sipush 16384, 3) := by decide +kernel
theorem dX6_isPoint_15 : decode cX6_isPoint 15 = .ok (.idiv, 1) := by decide +kernel
theorem dX6_isPoint_16 : decode cX6_isPoint 16 = .ok (.aload_n 0, 1) := by decide +kernel
theorem dX6_isPoint_17 : decode cX6_isPoint 17 = .ok (.getfield 47, 3) := by decide +kernel
theorem dX6_isPoint_20 : decode cX6_isPoint 20 = .ok (.if_icmp .ge 15, 3) := by decide +kernel
theorem dX6_isPoint_23 : decode cX6_isPoint 23 = .ok (.iload_n 1, 1) := by decide +kernel
theorem dX6_isPoint_24 : decode cX6_isPoint 24 = .ok (.sipush 16384, 3) := by decide +kernel
theorem dX6_isPoint_27 : decode cX6_isPoint 27 = .ok (.irem, 1) := by decide +kernel
theorem dX6_isPoint_28 : decode cX6_isPoint 28 = .ok (.aload_n 0, 1) := by decide +kernel
theorem dX6_isPoint_29 : decode cX6_isPoint 29 = .ok (.getfield 47, 3) := by decide +kernel
theorem dX6_isPoint_32 : decode cX6_isPoint 32 = .ok (.if_icmp .lt 5, 3) := by decide +kernel
theorem dX6_isPoint_35 : decode cX6_isPoint 35 = .ok (.iconst 0, 1) := by decide +kernel
theorem dX6_isPoint_36 : decode cX6_isPoint 36 = .ok (.ireturn, 1) := by decide +kernel
theorem dX6_isPoint_37 : decode cX6_isPoint 37 = .ok (.iload_n 1, 1) := by decide +kernel
theorem dX6_isPoint_38 : decode cX6_isPoint 38 = .ok (.sipush 16384, 3) := by decide +kernel
theorem dX6_isPoint_41 : decode cX6_isPoint 41 = .ok (.irem, 1) := by decide +kernel
theorem dX6_isPoint_42 : decode cX6_isPoint 42 = .ok (.istore_n 2, 1) := by decide +kernel
theorem dX6_isPoint_43 : decode cX6_isPoint 43 = .ok (.aload_n 0, 1) := by decide +kernel
theorem dX6_isPoint_44 : decode cX6_isPoint 44 = .ok (.iload_n 2, 1) := by decide +kernel
theorem dX6_isPoint_45 : decode cX6_isPoint 45 = .ok (.iload_n 2, 1) := by decide +kernel
theorem dX6_isPoint_46 : decode cX6_isPoint 46 = .ok (.invokevirtual 57, 3) := by decide +kernel
theorem dX6_isPoint_49 : decode cX6_isPoint 49 = .ok (.aload_n 0, 1) := by decide +kernel
theorem dX6_isPoint_50 : decode cX6_isPoint 50 = .ok (.iload_n 1, 1) := by decide +kernel
theorem dX6_isPoint_51 : decode cX6_isPoint 51 = .ok (.sipush 16384, 3) := by decide +kernel
theorem dX6_isPoint_54 : decode cX6_isPoint 54 = .ok (.idiv, 1) := by decide +kernel
theorem dX6_isPoint_55 : decode cX6_isPoint 55 = .ok (.invokevirtual 75, 3) := by decide +kernel
theorem dX6_isPoint_58 : decode cX6_isPoint 58 = .ok (.if_icmp .ne 7, 3) := by decide +kernel
theorem dX6_isPoint_61 : decode cX6_isPoint 61 = .ok (.iconst 1, 1) := by decide +kernel
theorem dX6_isPoint_62 : decode cX6_isPoint 62 = .ok (.goto 4, 3) := by decide +kernel
theorem dX6_isPoint_65 : decode cX6_isPoint 65 = .ok (.iconst 0, 1) := by decide +kernel
theorem dX6_isPoint_66 : decode cX6_isPoint 66 = .ok (.ireturn, 1) := by decide +kernel
theorem dX6_negativeOf_0 : decode cX6_negativeOf 0 = .ok (.iload_n 1, 1) := by decide +kernel
theorem dX6_negativeOf_1 : decode cX6_negativeOf 1 = .ok (.iconst (-1), 1) := by decide +kernel
theorem dX6_negativeOf_2 : decode cX6_negativeOf 2 = .ok (.if_icmp .ne 5, 3) := by decide +kernel
theorem dX6_negativeOf_5 : decode cX6_negativeOf 5 = .ok (.iload_n 1, 1) := by decide +kernel
theorem dX6_negativeOf_6 : decode cX6_negativeOf 6 = .ok (.ireturn, 1) := by decide +kernel
theorem dX6_negativeOf_7 : decode cX6_negativeOf 7 = .ok (.iload_n 1, 1) := by decide +kernel
theorem dX6_negativeOf_8 : decode cX6_negativeOf 8 = .ok (.sipush 16384, 3) := by decide +kernel
theorem dX6_negativeOf_11 : decode cX6_negativeOf 11 = .ok (.irem, 1) := by decide +kernel
theorem dX6_negativeOf_12 : decode cX6_negativeOf 12 = .ok (.istore_n 2, 1) := by decide +kernel
theorem dX6_negativeOf_13 : decode cX6_negativeOf 13 = .ok (.iload_n 1, 1) := by decide +kernel
theorem dX6_negativeOf_14 : decode cX6_negativeOf 14 = .ok (.iload_n 2, 1) := by decide +kernel
theorem dX6_negativeOf_15 : decode cX6_negativeOf 15 = .ok (.isub, 1) := by decide +kernel
theorem dX6_negativeOf_16 : decode cX6_negativeOf 16 = .ok (.iload_n 2, 1) := by decide +kernel
theorem dX6_negativeOf_17 : decode cX6_negativeOf 17 = .ok (.ifCond .ne 7, 3) := by decide +kernel
theorem dX6_negativeOf_20 : decode cX6_negativeOf 20 = .ok (.iconst 0, 1) := by decide +kernel
theorem dX6_negativeOf_21 : decode cX6_negativeOf 21 = .ok (.goto 9, 3) := by decide +kernel
theorem dX6_negativeOf_24 : decode cX6_negativeOf 24 = .ok (.aload_n 0, 1) := by decide +kernel
theorem dX6_negativeOf_25 : decode cX6_negativeOf 25 = .ok (.getfield 47, 3) := by decide +kernel
theorem dX6_negativeOf_28 : decode cX6_negativeOf 28 = .ok (.iload_n 2, 1) := by decide +kernel
theorem dX6_negativeOf_29 : decode cX6_negativeOf 29 = .ok (.isub, 1) := by decide +kernel
theorem dX6_negativeOf_30 : decode cX6_negativeOf 30 = .ok (.iadd, 1) := by decide +kernel
theorem dX6_negativeOf_31 : decode cX6_negativeOf 31 = .ok (.ireturn, 1) := by decide +kernel
set_option maxRecDepth 20000 in
theorem ggX6_sum_X6_mul : GoodIn wsX6_sum wsX6_mul := goodIn_r _ [10, 1, 15, 16, 17, 18, 19, 20, 21, 22, 23, 24, 25, 26, 27, 28, 29, 30, 31, 32] (by decide +kernel) (by decide +kernel)
set_option maxRecDepth 20000 in
theorem gX6_sum_X6_mul : GoodIn wsX6_sum (wsV RX6 57 RX6 yX6_mul wsX6_mul) := goodIn_app (goodIn_of _ (by decide +kernel)) ggX6_sum_X6_mul
set_option maxRecDepth 20000 in
theorem ggX6_sum_X6_mod : GoodIn wsX6_sum wsX6_mod := goodIn_r _ [14, 1, 15, 16, 17, 18, 19, 20, 21, 22, 23, 24, 25, 26, 27, 28, 29, 30, 31, 32] (by decide +kernel) (by decide +kernel)
set_option maxRecDepth 20000 in
theorem gX6_sum_X6_mod : GoodIn wsX6_sum (wsV RX6 67 RX6 yX6_mod wsX6_mod) := goodIn_app (goodIn_of _ (by decide +kernel)) ggX6_sum_X6_mod
theorem dX6_sum_0 : decode cX6_sum 0 = .ok (.iload_n 1, 1) := by decide +kernel
theorem dX6_sum_1 : decode cX6_sum 1 = .ok (.iconst (-1), 1) := by decide +kernel
theorem dX6_sum_2 : decode cX6_sum 2 = .ok (.if_icmp .eq 8, 3) := by decide +kernel
theorem dX6_sum_5 : decode cX6_sum 5 = .ok (.iload_n 2, 1) := by decide +kernel
theorem dX6_sum_6 : decode cX6_sum 6 = .ok (.iconst (-1), 1) := by decide +kernel
theorem dX6_sum_7 : decode cX6_sum 7 = .ok (.if_icmp .ne 14, 3) := by decide +kernel
theorem dX6_sum_10 : decode cX6_sum 10 = .ok (.iload_n 1, 1) := by decide +kernel
theorem dX6_sum_11 : decode cX6_sum 11 = .ok (.iconst (-1), 1) := by decide +kernel
theorem dX6_sum_12 : decode cX6_sum 12 = .ok (.if_icmp .ne 7, 3) := by decide +kernel
theorem dX6_sum_15 : decode cX6_sum 15 = .ok (.iload_n 2, 1) := by decide +kernel
theorem dX6_sum_16 : decode cX6_sum 16 = .ok (.goto 4, 3) := by decide +kernel
theorem dX6_sum_19 : decode cX6_sum 19 = .ok (.iload_n 1, 1) := by decide +kernel
theorem dX6_sum_20 : decode cX6_sum 20 = .ok (.ireturn, 1) := by decide +kernel
theorem dX6_sum_21 : decode cX6_sum 21 = .ok (.iload_n 1, 1) := by decide +kernel
theorem dX6_sum_22 : decode cX6_sum 22 = .ok (.sipush 16384, 3) := by decide +kernel
theorem dX6_sum_25 : decode cX6_sum 25 = .ok (.idiv, 1) := by decide +kernel
theorem dX6_sum_26 : decode cX6_sum 26 = .ok (.istore_n 3, 1) := by decide +kernel
theorem dX6_sum_27 : decode cX6_sum 27 = .ok (.iload_n 1, 1) := by decide +kernel
theorem dX6_sum_28 : decode cX6_sum 28 = .ok (.sipush 16384, 3) := by decide +kernel
theorem dX6_sum_31 : decode cX6_sum 31 = .ok (.irem, 1) := by decide +kernel
theorem dX6_sum_32 : decode cX6_sum 32 = .ok (.istore 4, 2) := by decide +kernel
theorem dX6_sum_34 : decode cX6_sum 34 = .ok (.iload_n 2, 1) := by decide +kernel
theorem dX6_sum_35 : decode cX6_sum 35 = .ok (.sipush 16384, 3) := by decide +kernel
theorem dX6_sum_38 : decode cX6_sum 38 = .ok (.idiv, 1) := by decide +kernel
theorem dX6_sum_39 : decode cX6_sum 39 = .ok (.istore 5, 2) := by decide +kernel
theorem dX6_sum_41 : decode cX6_sum 41 = .ok (.iload_n 2, 1) := by decide +kernel
theorem dX6_sum_42 : decode cX6_sum 42 = .ok (.sipush 16384, 3) := by decide +kernel
theorem dX6_sum_45 : decode cX6_sum 45 = .ok (.irem, 1) := by decide +kernel
theorem dX6_sum_46 : decode cX6_sum 46 = .ok (.istore 6, 2) := by decide +kernel
theorem dX6_sum_48 : decode cX6_sum 48 = .ok (.iconst 0, 1) := by decide +kernel
theorem dX6_sum_49 : decode cX6_sum 49 = .ok (.istore 7, 2) := by decide +kernel
theorem dX6_sum_51 : decode cX6_sum 51 = .ok (.iload_n 3, 1) := by decide +kernel
theorem dX6_sum_52 : decode cX6_sum 52 = .ok (.iload 5, 2) := by decide +kernel
theorem dX6_sum_54 : decode cX6_sum 54 = .ok (.if_icmp .ne 64, 3) := by decide +kernel
theorem dX6_sum_57 : decode cX6_sum 57 = .ok (.iload 4, 2) := by decide +kernel
theorem dX6_sum_59 : decode cX6_sum 59 = .ok (.iload 6, 2) := by decide +kernel
theorem dX6_sum_61 : decode cX6_sum 61 = .ok (.iadd, 1) := by decide +kernel
theorem dX6_sum_62 : decode cX6_sum 62 = .ok (.aload_n 0, 1) := by decide +kernel
theorem dX6_sum_63 : decode cX6_sum 63 = .ok (.getfield 47, 3) := by decide +kernel
theorem dX6_sum_66 : decode cX6_sum 66 = .ok (.irem, 1) := by decide +kernel
theorem dX6_sum_67 : decode cX6_sum 67 = .ok (.ifCond .ne 5, 3) := by decide +kernel
theorem dX6_sum_70 : decode cX6_sum 70 = .ok (.iconst (-1), 1) := by decide +kernel
theorem dX6_sum_71 : decode cX6_sum 71 = .ok (.ireturn, 1) := by decide +kernel
theorem dX6_sum_72 : decode cX6_sum 72 = .ok (.aload_n 0, 1) := by decide +kernel
theorem dX6_sum_73 : decode cX6_sum 73 = .ok (.aload_n 0, 1) := by decide +kernel
theorem dX6_sum_74 : decode cX6_sum 74 = .ok (.ldc2_w 79, 3) := by decide +kernel
theorem dX6_sum_77 : decode cX6_sum 77 = .ok (.aload_n 0, 1) := by decide +kernel
theorem dX6_sum_78 : decode cX6_sum 78 = .ok (.iload_n 3, 1) := by decide +kernel
theorem dX6_sum_79 : decode cX6_sum 79 = .ok (.iload_n 3, 1) := by decide +kernel
theorem dX6_sum_80 : decode cX6_sum 80 = .ok (.invokevirtual 57, 3) := by decide +kernel
theorem dX6_sum_83 : decode cX6_sum 83 = .ok (.i2l, 1) := by decide +kernel
theorem dX6_sum_84 : decode cX6_sum 84 = .ok (.lmul, 1) := by decide +kernel
theorem dX6_sum_85 : decode cX6_sum 85 = .ok (.aload_n 0, 1) := by decide +kernel
theorem dX6_sum_86 : decode cX6_sum 86 = .ok (.getfield 61, 3) := by decide +kernel
theorem dX6_sum_89 : decode cX6_sum 89 = .ok (.i2l, 1) := by decide +kernel
theorem dX6_sum_90 : decode cX6_sum 90 = .ok (.ladd, 1) := by decide +kernel
theorem dX6_sum_91 : decode cX6_sum 91 = .ok (.invokevirtual 67, 3) := by decide +kernel
theorem dX6_sum_94 : decode cX6_sum 94 = .ok (.aload_n 0, 1) := by decide +kernel
theorem dX6_sum_95 : decode cX6_sum 95 = .ok (.getfield 7, 3) := by decide +kernel
theorem dX6_sum_98 : decode cX6_sum 98 = .ok (.aload_n 0, 1) := by decide +kernel
theorem dX6_sum_99 : decode cX6_sum 99 = .ok (.ldc2_w 81, 3) := by decide +kernel
theorem dX6_sum_102 : decode cX6_sum 102 = .ok (.iload 4, 2) := by decide +kernel
theorem dX6_sum_104 : decode cX6_sum 104 = .ok (.i2l, 1) := by decide +kernel
theorem dX6_sum_105 : decode cX6_sum 105 = .ok (.lmul, 1) := by decide +kernel
theorem dX6_sum_106 : decode cX6_sum 106 = .ok (.invokevirtual 67, 3) := by decide +kernel
theorem dX6_sum_109 : decode cX6_sum 109 = .ok (.iaload, 1) := by decide +kernel
theorem dX6_sum_110 : decode cX6_sum 110 = .ok (.invokevirtual 57, 3) := by decide +kernel
theorem dX6_sum_113 : decode cX6_sum 113 = .ok (.istore 7, 2) := by decide +kernel
theorem dX6_sum_115 : decode cX6_sum 115 = .ok (.goto 35, 3) := by decide +kernel
theorem dX6_sum_118 : decode cX6_sum 118 = .ok (.aload_n 0, 1) := by decide +kernel
theorem dX6_sum_119 : decode cX6_sum 119 = .ok (.aload_n 0, 1) := by decide +kernel
theorem dX6_sum_120 : decode cX6_sum 120 = .ok (.iload 6, 2) := by decide +kernel
theorem dX6_sum_122 : decode cX6_sum 122 = .ok (.i2l, 1) := by decide +kernel
theorem dX6_sum_123 : decode cX6_sum 123 = .ok (.iload 4, 2) := by decide +kernel
theorem dX6_sum_125 : decode cX6_sum 125 = .ok (.i2l, 1) := by decide +kernel
theorem dX6_sum_126 : decode cX6_sum 126 = .ok (.lsub, 1) := by decide +kernel
theorem dX6_sum_127 : decode cX6_sum 127 = .ok (.invokevirtual 67, 3) := by decide +kernel
theorem dX6_sum_130 : decode cX6_sum 130 = .ok (.aload_n 0, 1) := by decide +kernel
theorem dX6_sum_131 : decode cX6_sum 131 = .ok (.getfield 7, 3) := by decide +kernel
theorem dX6_sum_134 : decode cX6_sum 134 = .ok (.aload_n 0, 1) := by decide +kernel
theorem dX6_sum_135 : decode cX6_sum 135 = .ok (.iload 5, 2) := by decide +kernel
theorem dX6_sum_137 : decode cX6_sum 137 = .ok (.i2l, 1) := by decide +kernel
theorem dX6_sum_138 : decode cX6_sum 138 = .ok (.iload_n 3, 1) := by decide +kernel
theorem dX6_sum_139 : decode cX6_sum 139 = .ok (.i2l, 1) := by decide +kernel
theorem dX6_sum_140 : decode cX6_sum 140 = .ok (.lsub, 1) := by decide +kernel
theorem dX6_sum_141 : decode cX6_sum 141 = .ok (.invokevirtual 67, 3) := by decide +kernel
theorem dX6_sum_144 : decode cX6_sum 144 = .ok (.iaload, 1) := by decide +kernel
theorem dX6_sum_145 : decode cX6_sum 145 = .ok (.invokevirtual 57, 3) := by decide +kernel
theorem dX6_sum_148 : decode cX6_sum 148 = .ok (.istore 7, 2) := by decide +kernel
theorem dX6_sum_150 : decode cX6_sum 150 = .ok (.aload_n 0, 1) := by decide +kernel
theorem dX6_sum_151 : decode cX6_sum 151 = .ok (.aload_n 0, 1) := by decide +kernel
theorem dX6_sum_152 : decode cX6_sum 152 = .ok (.iload 7, 2) := by decide +kernel
theorem dX6_sum_154 : decode cX6_sum 154 = .ok (.iload 7, 2) := by decide +kernel
theorem dX6_sum_156 : decode cX6_sum 156 = .ok (.invokevirtual 57, 3) := by decide +kernel
theorem dX6_sum_159 : decode cX6_sum 159 = .ok (.i2l, 1) := by decide +kernel
theorem dX6_sum_160 : decode cX6_sum 160 = .ok (.iload_n 3, 1) := by decide +kernel
theorem dX6_sum_161 : decode cX6_sum 161 = .ok (.i2l, 1) := by decide +kernel
theorem dX6_sum_162 : decode cX6_sum 162 = .ok (.lsub, 1) := by decide +kernel
theorem dX6_sum_163 : decode cX6_sum 163 = .ok (.iload 5, 2) := by decide +kernel
theorem dX6_sum_165 : decode cX6_sum 165 = .ok (.i2l, 1) := by decide +kernel
theorem dX6_sum_166 : decode cX6_sum 166 = .ok (.lsub, 1) := by decide +kernel
theorem dX6_sum_167 : decode cX6_sum 167 = .ok (.invokevirtual 67, 3) := by decide +kernel
theorem dX6_sum_170 : decode cX6_sum 170 = .ok (.istore 8, 2) := by decide +kernel
theorem dX6_sum_172 : decode cX6_sum 172 = .ok (.sipush 16384, 3) := by decide +kernel
theorem dX6_sum_175 : decode cX6_sum 175 = .ok (.iload 8, 2) := by decide +kernel
theorem dX6_sum_177 : decode cX6_sum 177 = .ok (.imul, 1) := by decide +kernel
theorem dX6_sum_178 : decode cX6_sum 178 = .ok (.aload_n 0, 1) := by decide +kernel
theorem dX6_sum_179 : decode cX6_sum 179 = .ok (.aload_n 0, 1) := by decide +kernel
theorem dX6_sum_180 : decode cX6_sum 180 = .ok (.iload 7, 2) := by decide +kernel
theorem dX6_sum_182 : decode cX6_sum 182 = .ok (.aload_n 0, 1) := by decide +kernel
theorem dX6_sum_183 : decode cX6_sum 183 = .ok (.iload_n 3, 1) := by decide +kernel
theorem dX6_sum_184 : decode cX6_sum 184 = .ok (.i2l, 1) := by decide +kernel
theorem dX6_sum_185 : decode cX6_sum 185 = .ok (.iload 8, 2) := by decide +kernel
theorem dX6_sum_187 : decode cX6_sum 187 = .ok (.i2l, 1) := by decide +kernel
theorem dX6_sum_188 : decode cX6_sum 188 = .ok (.lsub, 1) := by decide +kernel
theorem dX6_sum_189 : decode cX6_sum 189 = .ok (.invokevirtual 67, 3) := by decide +kernel
theorem dX6_sum_192 : decode cX6_sum 192 = .ok (.invokevirtual 57, 3) := by decide +kernel
theorem dX6_sum_195 : decode cX6_sum 195 = .ok (.i2l, 1) := by decide +kernel
theorem dX6_sum_196 : decode cX6_sum 196 = .ok (.iload 4, 2) := by decide +kernel
theorem dX6_sum_198 : decode cX6_sum 198 = .ok (.i2l, 1) := by decide +kernel
theorem dX6_sum_199 : decode cX6_sum 199 = .ok (.lsub, 1) := by decide +kernel
theorem dX6_sum_200 : decode cX6_sum 200 = .ok (.invokevirtual 67, 3) := by decide +kernel
theorem dX6_sum_203 : decode cX6_sum 203 = .ok (.iadd, 1) := by decide +kernel
theorem dX6_sum_204 : decode cX6_sum 204 = .ok (.ireturn, 1) := by decide +kernel
set_option maxRecDepth 20000 in
theorem ggX6_multiple_X6_negativeOf : GoodIn wsX6_multiple wsX6_negativeOf := goodIn_r _ [6, 7, 23, 24, 25, 26, 27, 28, 29, 30, 31, 32, 33, 34, 35, 36, 37, 38, 39, 40] (by decide +kernel) (by decide +kernel)
set_option maxRecDepth 20000 in
theorem gX6_multiple_X6_negativeOf : GoodIn wsX6_multiple (wsV RX6 83 RX6 yX6_negativeOf wsX6_negativeOf) := goodIn_app (goodIn_of _ (by decide +kernel)) ggX6_multiple_X6_negativeOf
set_option maxRecDepth 20000 in
theorem ggX6_multiple_X6_sum : GoodIn wsX6_multiple wsX6_sum := goodIn_r _ [11, 7, 12, 13, 14, 1, 15, 16, 17, 5, 18, 19, 20, 21, 22, 23, 24, 25, 26, 27, 28, 29, 30, 31, 32, 33, 34, 35, 36, 37, 38, 39, 40] (by decide +kernel) (by decide +kernel)
set_option maxRecDepth 20000 in
theorem gX6_multiple_X6_sum : GoodIn wsX6_multiple (wsV RX6 86 RX6 yX6_sum wsX6_sum) := goodIn_app (goodIn_of _ (by decide +kernel)) ggX6_multiple_X6_sum
theorem dX6_multiple_0 : decode cX6_multiple 0 = .ok (.iconst (-1), 1) := by decide +kernel
theorem dX6_multiple_1 : decode cX6_multiple 1 = .ok (.istore 4, 2) := by decide +kernel
theorem dX6_multiple_3 : decode cX6_multiple 3 = .ok (.lload_n 2, 1) := by decide +kernel
theorem dX6_multiple_4 : decode cX6_multiple 4 = .ok (.lconst 0, 1) := by decide +kernel
theorem dX6_multiple_5 : decode cX6_multiple 5 = .ok (.lcmp, 1) := by decide +kernel
theorem dX6_multiple_6 : decode cX6_multiple 6 = .ok (.ifCond .ge 11, 3) := by decide +kernel
theorem dX6_multiple_9 : decode cX6_multiple 9 = .ok (.aload_n 0, 1) := by decide +kernel
theorem dX6_multiple_10 : decode cX6_multiple 10 = .ok (.iload_n 1, 1) := by decide +kernel
theorem dX6_multiple_11 : decode cX6_multiple 11 = .ok (.invokevirtual 83, 3) := by decide +kernel
theorem dX6_multiple_14 : decode cX6_multiple 14 = .ok (.goto 4, 3) := by decide +kernel
theorem dX6_multiple_17 : decode cX6_multiple 17 = .ok (.iload_n 1, 1) := by decide +kernel
theorem dX6_multiple_18 : decode cX6_multiple 18 = .ok (.istore 5, 2) := by decide +kernel
theorem dX6_multiple_20 : decode cX6_multiple 20 = .ok (.lload_n 2, 1) := by decide +kernel
theorem dX6_multiple_21 : decode cX6_multiple 21 = .ok (.lstore 6, 2) := by decide +kernel
theorem dX6_multiple_23 : decode cX6_multiple 23 = .ok (.lload 6, 2) := by decide +kernel
theorem dX6_multiple_25 : decode cX6_multiple 25 = .ok (.lconst 0, 1) := by decide +kernel
theorem dX6_multiple_26 : decode cX6_multiple 26 = .ok (.lcmp, 1) := by decide +kernel
theorem dX6_multiple_27 : decode cX6_multiple 27 = .ok (.ifCond .eq 50, 3) := by decide +kernel
theorem dX6_multiple_30 : decode cX6_multiple 30 = .ok (.lload 6, 2) := by decide +kernel
theorem dX6_multiple_32 : decode cX6_multiple 32 = .ok (.ldc2_w 81, 3) := by decide +kernel
theorem dX6_multiple_35 : decode cX6_multiple 35 = .ok (.lrem, 1) := by decide +kernel
theorem dX6_multiple_36 : decode cX6_multiple 36 = .ok (.lconst 0, 1) := by decide +kernel
theorem dX6_multiple_37 : decode cX6_multiple 37 = .ok (.lcmp, 1) := by decide +kernel
theorem dX6_multiple_38 : decode cX6_multiple 38 = .ok (.ifCond .eq 14, 3) := by decide +kernel
theorem dX6_multiple_41 : decode cX6_multiple 41 = .ok (.aload_n 0, 1) := by decide +kernel
theorem dX6_multiple_42 : decode cX6_multiple 42 = .ok (.iload 4, 2) := by decide +kernel
theorem dX6_multiple_44 : decode cX6_multiple 44 = .ok (.iload 5, 2) := by decide +kernel
theorem dX6_multiple_46 : decode cX6_multiple 46 = .ok (.invokevirtual 86, 3) := by decide +kernel
theorem dX6_multiple_49 : decode cX6_multiple 49 = .ok (.goto 5, 3) := by decide +kernel
theorem dX6_multiple_52 : decode cX6_multiple 52 = .ok (.iload 4, 2) := by decide +kernel
theorem dX6_multiple_54 : decode cX6_multiple 54 = .ok (.istore 4, 2) := by decide +kernel
theorem dX6_multiple_56 : decode cX6_multiple 56 = .ok (.aload_n 0, 1) := by decide +kernel
theorem dX6_multiple_57 : decode cX6_multiple 57 = .ok (.iload 5, 2) := by decide +kernel
theorem dX6_multiple_59 : decode cX6_multiple 59 = .ok (.iload 5, 2) := by decide +kernel
theorem dX6_multiple_61 : decode cX6_multiple 61 = .ok (.invokevirtual 86, 3) := by decide +kernel
theorem dX6_multiple_64 : decode cX6_multiple 64 = .ok (.istore 5, 2) := by decide +kernel
theorem dX6_multiple_66 : decode cX6_multiple 66 = .ok (.lload 6, 2) := by decide +kernel
theorem dX6_multiple_68 : decode cX6_multiple 68 = .ok (.ldc2_w 81, 3) := by decide +kernel
theorem dX6_multiple_71 : decode cX6_multiple 71 = .ok (.ldiv, 1) := by decide +kernel
theorem dX6_multiple_72 : decode cX6_multiple 72 = .ok (.lstore 6, 2) := by decide +kernel
theorem dX6_multiple_74 : decode cX6_multiple 74 = .ok (.goto (-51), 3) := by decide +kernel
theorem dX6_multiple_77 : decode cX6_multiple 77 = .ok (.iload 4, 2) := by decide +kernel
theorem dX6_multiple_79 : decode cX6_multiple 79 = .ok (.ireturn, 1) := by decide +kernel
set_option maxRecDepth 20000 in
theorem ggX6_orderOf_X6_list : GoodIn wsX6_orderOf wsX6_list := goodIn_r _ [6, 1, 7, 8, 9, 10, 11, 12, 13, 5, 14, 15, 16, 17, 18, 19, 20, 21, 22, 23, 24, 40, 41, 42, 43, 44, 45, 46, 47, 48, 49, 50, 51, 52, 53, 54, 55, 56, 57] (by decide +kernel) (by decide +kernel)
set_option maxRecDepth 20000 in
theorem gX6_orderOf_X6_list : GoodIn wsX6_orderOf (wsV RX6 89 RX6 yX6_list wsX6_list) := goodIn_app (goodIn_of _ (by decide +kernel)) ggX6_orderOf_X6_list
set_option maxRecDepth 20000 in
theorem ggX6_orderOf_X6_multiple : GoodIn wsX6_orderOf wsX6_multiple := goodIn_r _ [28, 29, 30, 31, 32, 5, 33, 8, 34, 35, 36, 37, 38, 15, 39, 17, 18, 19, 20, 21, 22, 23, 24, 40, 41, 42, 43, 44, 45, 46, 47, 48, 49, 50, 51, 52, 53, 54, 55, 56, 57] (by decide +kernel) (by decide +kernel)
set_option maxRecDepth 20000 in
theorem gX6_orderOf_X6_multiple : GoodIn wsX6_orderOf (wsV RX6 92 RX6 yX6_multiple wsX6_multiple) := goodIn_app (goodIn_of _ (by decide +kernel)) ggX6_orderOf_X6_multiple
theorem dX6_orderOf_0 : decode cX6_orderOf 0 = .ok (.aload_n 0, 1) := by decide +kernel
theorem dX6_orderOf_1 : decode cX6_orderOf 1 = .ok (.invokevirtual 89, 3) := by decide +kernel
theorem dX6_orderOf_4 : decode cX6_orderOf 4 = .ok (.aload_n 0, 1) := by decide +kernel
theorem dX6_orderOf_5 : decode cX6_orderOf 5 = .ok (.getfield 54, 3) := by decide +kernel
theorem dX6_orderOf_8 : decode cX6_orderOf 8 = .ok (.istore_n 2, 1) := by decide +kernel
theorem dX6_orderOf_9 : decode cX6_orderOf 9 = .ok (.aload_n 0, 1) := by decide +kernel
theorem dX6_orderOf_10 : decode cX6_orderOf 10 = .ok (.getfield 54, 3) := by decide +kernel
theorem dX6_orderOf_13 : decode cX6_orderOf 13 = .ok (.istore_n 3, 1) := by decide +kernel
theorem dX6_orderOf_14 : decode cX6_orderOf 14 = .ok (.iconst 2, 1) := by decide +kernel
theorem dX6_orderOf_15 : decode cX6_orderOf 15 = .ok (.istore 4, 2) := by decide +kernel
theorem dX6_orderOf_17 : decode cX6_orderOf 17 = .ok (.iload 4, 2) := by decide +kernel
theorem dX6_orderOf_19 : decode cX6_orderOf 19 = .ok (.iload_n 3, 1) := by decide +kernel
theorem dX6_orderOf_20 : decode cX6_orderOf 20 = .ok (.if_icmp .gt 43, 3) := by decide +kernel
theorem dX6_orderOf_23 : decode cX6_orderOf 23 = .ok (.iload_n 3, 1) := by decide +kernel
theorem dX6_orderOf_24 : decode cX6_orderOf 24 = .ok (.iload 4, 2) := by decide +kernel
theorem dX6_orderOf_26 : decode cX6_orderOf 26 = .ok (.irem, 1) := by decide +kernel
theorem dX6_orderOf_27 : decode cX6_orderOf 27 = .ok (.ifCond .ne 30, 3) := by decide +kernel
theorem dX6_orderOf_30 : decode cX6_orderOf 30 = .ok (.iload_n 3, 1) := by decide +kernel
theorem dX6_orderOf_31 : decode cX6_orderOf 31 = .ok (.iload 4, 2) := by decide +kernel
theorem dX6_orderOf_33 : decode cX6_orderOf 33 = .ok (.idiv, 1) := by decide +kernel
theorem dX6_orderOf_34 : decode cX6_orderOf 34 = .ok (.istore_n 3, 1) := by decide +kernel
theorem dX6_orderOf_35 : decode cX6_orderOf 35 = .ok (.aload_n 0, 1) := by decide +kernel
theorem dX6_orderOf_36 : decode cX6_orderOf 36 = .ok (.iload_n 1, 1) := by decide +kernel
theorem dX6_orderOf_37 : decode cX6_orderOf 37 = .ok (.iload_n 2, 1) := by decide +kernel
theorem dX6_orderOf_38 : decode cX6_orderOf 38 = .ok (.iload 4, 2) := by decide +kernel
theorem dX6_orderOf_40 : decode cX6_orderOf 40 = .ok (.idiv, 1) := by decide +kernel
theorem dX6_orderOf_41 : decode cX6_orderOf 41 = .ok (.i2l, 1) := by decide +kernel
theorem dX6_orderOf_42 : decode cX6_orderOf 42 = .ok (.invokevirtual 92, 3) := by decide +kernel
theorem dX6_orderOf_45 : decode cX6_orderOf 45 = .ok (.iconst (-1), 1) := by decide +kernel
theorem dX6_orderOf_46 : decode cX6_orderOf 46 = .ok (.if_icmp .ne (-23), 3) := by decide +kernel
theorem dX6_orderOf_49 : decode cX6_orderOf 49 = .ok (.iload_n 2, 1) := by decide +kernel
theorem dX6_orderOf_50 : decode cX6_orderOf 50 = .ok (.iload 4, 2) := by decide +kernel
theorem dX6_orderOf_52 : decode cX6_orderOf 52 = .ok (.idiv, 1) := by decide +kernel
theorem dX6_orderOf_53 : decode cX6_orderOf 53 = .ok (.istore_n 2, 1) := by decide +kernel
theorem dX6_orderOf_54 : decode cX6_orderOf 54 = .ok (.goto (-31), 3) := by decide +kernel
theorem dX6_orderOf_57 : decode cX6_orderOf 57 = .ok (.iinc 4 1, 3) := by decide +kernel
theorem dX6_orderOf_60 : decode cX6_orderOf 60 = .ok (.goto (-43), 3) := by decide +kernel
theorem dX6_orderOf_63 : decode cX6_orderOf 63 = .ok (.iload_n 2, 1) := by decide +kernel
theorem dX6_orderOf_64 : decode cX6_orderOf 64 = .ok (.ireturn, 1) := by decide +kernel
set_option maxRecDepth 20000 in
theorem ggX6_has_X6_in : GoodIn wsX6_has wsX6_in := goodIn_r _ [8] (by decide +kernel) (by decide +kernel)
set_option maxRecDepth 20000 in
theorem gX6_has_X6_in : GoodIn wsX6_has (va_wsS RX6 100 yX6_in wsX6_in) := goodIn_app (goodIn_of _ (by decide +kernel)) ggX6_has_X6_in
set_option maxRecDepth 20000 in
theorem ggX6_has_X6_take : GoodIn wsX6_has wsX6_take := goodIn_r _ [12, 13, 14, 15, 16, 17, 18, 7, 19, 20, 21, 22, 23, 24, 25, 26, 27, 28, 29, 30, 31, 32, 33, 34, 35, 36, 37, 38, 39, 40, 41] (by decide +kernel) (by decide +kernel)
set_option maxRecDepth 20000 in
theorem gX6_has_X6_take : GoodIn wsX6_has (wsV RX6 118 RX6 yX6_take wsX6_take) := goodIn_app (goodIn_of _ (by decide +kernel)) ggX6_has_X6_take
theorem dX6_has_18 : decode cX6_has 18 = .ok (.aload_n 0, 1) := by decide +kernel
theorem dX6_has_19 : decode cX6_has 19 = .ok (.aload_n 0, 1) := by decide +kernel
theorem dX6_has_20 : decode cX6_has 20 = .ok (.getfield 22, 3) := by decide +kernel
theorem dX6_has_23 : decode cX6_has 23 = .ok (.iload_n 1, 1) := by decide +kernel
theorem dX6_has_24 : decode cX6_has 24 = .ok (.iaload, 1) := by decide +kernel
theorem dX6_has_25 : decode cX6_has 25 = .ok (.aload_n 0, 1) := by decide +kernel
theorem dX6_has_26 : decode cX6_has 26 = .ok (.getfield 25, 3) := by decide +kernel
theorem dX6_has_29 : decode cX6_has 29 = .ok (.iload_n 1, 1) := by decide +kernel
theorem dX6_has_30 : decode cX6_has 30 = .ok (.iaload, 1) := by decide +kernel
theorem dX6_has_31 : decode cX6_has 31 = .ok (.aload_n 0, 1) := by decide +kernel
theorem dX6_has_32 : decode cX6_has 32 = .ok (.getfield 28, 3) := by decide +kernel
theorem dX6_has_35 : decode cX6_has 35 = .ok (.iload_n 1, 1) := by decide +kernel
theorem dX6_has_36 : decode cX6_has 36 = .ok (.iaload, 1) := by decide +kernel
theorem dX6_has_37 : decode cX6_has 37 = .ok (.invokevirtual 118, 3) := by decide +kernel
theorem dX6_has_40 : decode cX6_has 40 = .ok (.iconst 1, 1) := by decide +kernel
theorem dX6_has_41 : decode cX6_has 41 = .ok (.ireturn, 1) := by decide +kernel
set_option maxRecDepth 20000 in
theorem ggX6_told_X6_has : GoodIn wsX6_told wsX6_has := goodIn_r _ [11, 12, 13, 14, 15, 16, 17, 10, 18, 19, 20, 21, 22, 2, 3, 23, 24, 25, 26, 27, 1, 28, 29, 30, 57, 58, 59, 60, 61, 62, 63, 64, 65, 66, 67, 68, 69, 70, 71, 72, 73, 74] (by decide +kernel) (by decide +kernel)
set_option maxRecDepth 20000 in
theorem gX6_told_X6_has : GoodIn wsX6_told (wsV RX6 132 RX6 yX6_has wsX6_has) := goodIn_app (goodIn_of _ (by decide +kernel)) ggX6_told_X6_has
set_option maxRecDepth 20000 in
theorem ggX6_told_X6_jOf : GoodIn wsX6_told wsX6_jOf := goodIn_r _ [34, 2, 35, 29, 36, 37, 38, 10, 39, 1, 40, 41, 42, 43, 44, 45, 46, 47, 5, 48, 3, 57, 58, 59, 60, 61, 62, 63, 64, 65, 66, 67, 68, 69, 70, 71, 72, 73, 74] (by decide +kernel) (by decide +kernel)
set_option maxRecDepth 20000 in
theorem gX6_told_X6_jOf : GoodIn wsX6_told (wsV RX6 135 RX6 yX6_jOf wsX6_jOf) := goodIn_app (goodIn_of _ (by decide +kernel)) ggX6_told_X6_jOf
set_option maxRecDepth 20000 in
theorem ggX6_told_X6_split : GoodIn wsX6_told wsX6_split := goodIn_r _ [47, 5, 2, 48, 3, 36, 37, 38, 10, 39, 1, 40, 41, 42, 43, 57, 58, 59, 60, 61, 62, 63, 64, 65, 66, 67, 68, 69, 70, 71, 72, 73, 74] (by decide +kernel) (by decide +kernel)
set_option maxRecDepth 20000 in
theorem gX6_told_X6_split : GoodIn wsX6_told (wsV RX6 122 RX6 yX6_split wsX6_split) := goodIn_app (goodIn_of _ (by decide +kernel)) ggX6_told_X6_split
set_option maxRecDepth 20000 in
theorem ggX6_told_X6_mod : GoodIn wsX6_told wsX6_mod := goodIn_r _ [43, 1, 57, 58, 59, 60, 61, 62, 63, 64, 65, 66, 67, 68, 69, 70, 71, 72, 73, 74] (by decide +kernel) (by decide +kernel)
set_option maxRecDepth 20000 in
theorem gX6_told_X6_mod : GoodIn wsX6_told (wsV RX6 67 RX6 yX6_mod wsX6_mod) := goodIn_app (goodIn_of _ (by decide +kernel)) ggX6_told_X6_mod
set_option maxRecDepth 20000 in
theorem ggX6_told_X6_noSquare : GoodIn wsX6_told wsX6_noSquare := goodIn_r _ [52, 30, 57, 58, 59, 60, 61, 62, 63, 64, 65, 66, 67, 68, 69, 70, 71, 72, 73, 74] (by decide +kernel) (by decide +kernel)
set_option maxRecDepth 20000 in
theorem gX6_told_X6_noSquare : GoodIn wsX6_told (wsV RX6 140 RX6 yX6_noSquare wsX6_noSquare) := goodIn_app (goodIn_of _ (by decide +kernel)) ggX6_told_X6_noSquare
set_option maxRecDepth 20000 in
theorem ggX6_told_X6_powered : GoodIn wsX6_told wsX6_powered := goodIn_r _ [56, 36, 37, 38, 10, 39, 1, 57, 58, 59, 60, 61, 62, 63, 64, 65, 66, 67, 68, 69, 70, 71, 72, 73, 74] (by decide +kernel) (by decide +kernel)
set_option maxRecDepth 20000 in
theorem gX6_told_X6_powered : GoodIn wsX6_told (wsV RX6 143 RX6 yX6_powered wsX6_powered) := goodIn_app (goodIn_of _ (by decide +kernel)) ggX6_told_X6_powered
set_option maxRecDepth 20000 in
theorem ggX6_told_X6_mul : GoodIn wsX6_told wsX6_mul := goodIn_r _ [39, 1, 57, 58, 59, 60, 61, 62, 63, 64, 65, 66, 67, 68, 69, 70, 71, 72, 73, 74] (by decide +kernel) (by decide +kernel)
set_option maxRecDepth 20000 in
theorem gX6_told_X6_mul : GoodIn wsX6_told (wsV RX6 57 RX6 yX6_mul wsX6_mul) := goodIn_app (goodIn_of _ (by decide +kernel)) ggX6_told_X6_mul
theorem dX6_told_11 : decode cX6_told 11 = .ok (.iload_n 2, 1) := by decide +kernel
theorem dX6_told_12 : decode cX6_told 12 = .ok (.tableswitch 161 0 6 #[44, 49, 54, 59, 64, 78, 83], 44) := by decide +kernel
theorem dX6_told_56 : decode cX6_told 56 = .ok (.aload_n 0, 1) := by decide +kernel
theorem dX6_told_57 : decode cX6_told 57 = .ok (.getfield 47, 3) := by decide +kernel
theorem dX6_told_60 : decode cX6_told 60 = .ok (.ireturn, 1) := by decide +kernel
theorem dX6_told_61 : decode cX6_told 61 = .ok (.aload_n 0, 1) := by decide +kernel
theorem dX6_told_62 : decode cX6_told 62 = .ok (.getfield 61, 3) := by decide +kernel
theorem dX6_told_65 : decode cX6_told 65 = .ok (.ireturn, 1) := by decide +kernel
theorem dX6_told_66 : decode cX6_told 66 = .ok (.aload_n 0, 1) := by decide +kernel
theorem dX6_told_67 : decode cX6_told 67 = .ok (.getfield 64, 3) := by decide +kernel
theorem dX6_told_70 : decode cX6_told 70 = .ok (.ireturn, 1) := by decide +kernel
theorem dX6_told_71 : decode cX6_told 71 = .ok (.aload_n 0, 1) := by decide +kernel
theorem dX6_told_72 : decode cX6_told 72 = .ok (.invokevirtual 135, 3) := by decide +kernel
theorem dX6_told_75 : decode cX6_told 75 = .ok (.ireturn, 1) := by decide +kernel
theorem dX6_told_76 : decode cX6_told 76 = .ok (.aload_n 0, 1) := by decide +kernel
theorem dX6_told_77 : decode cX6_told 77 = .ok (.ldc2_w 138, 3) := by decide +kernel
theorem dX6_told_80 : decode cX6_told 80 = .ok (.aload_n 0, 1) := by decide +kernel
theorem dX6_told_81 : decode cX6_told 81 = .ok (.invokevirtual 122, 3) := by decide +kernel
theorem dX6_told_84 : decode cX6_told 84 = .ok (.i2l, 1) := by decide +kernel
theorem dX6_told_85 : decode cX6_told 85 = .ok (.lmul, 1) := by decide +kernel
theorem dX6_told_86 : decode cX6_told 86 = .ok (.invokevirtual 67, 3) := by decide +kernel
theorem dX6_told_89 : decode cX6_told 89 = .ok (.ireturn, 1) := by decide +kernel
theorem dX6_told_90 : decode cX6_told 90 = .ok (.aload_n 0, 1) := by decide +kernel
theorem dX6_told_91 : decode cX6_told 91 = .ok (.invokevirtual 140, 3) := by decide +kernel
theorem dX6_told_94 : decode cX6_told 94 = .ok (.ireturn, 1) := by decide +kernel
theorem dX6_told_95 : decode cX6_told 95 = .ok (.iconst 0, 1) := by decide +kernel
theorem dX6_told_96 : decode cX6_told 96 = .ok (.istore_n 3, 1) := by decide +kernel
theorem dX6_told_97 : decode cX6_told 97 = .ok (.iconst 1, 1) := by decide +kernel
theorem dX6_told_98 : decode cX6_told 98 = .ok (.istore 4, 2) := by decide +kernel
theorem dX6_told_100 : decode cX6_told 100 = .ok (.iload 4, 2) := by decide +kernel
theorem dX6_told_102 : decode cX6_told 102 = .ok (.aload_n 0, 1) := by decide +kernel
theorem dX6_told_103 : decode cX6_told 103 = .ok (.getfield 47, 3) := by decide +kernel
theorem dX6_told_106 : decode cX6_told 106 = .ok (.if_icmp .ge 65, 3) := by decide +kernel
theorem dX6_told_109 : decode cX6_told 109 = .ok (.iload_n 3, 1) := by decide +kernel
theorem dX6_told_110 : decode cX6_told 110 = .ok (.aload_n 0, 1) := by decide +kernel
theorem dX6_told_111 : decode cX6_told 111 = .ok (.aload_n 0, 1) := by decide +kernel
theorem dX6_told_112 : decode cX6_told 112 = .ok (.getfield 61, 3) := by decide +kernel
theorem dX6_told_115 : decode cX6_told 115 = .ok (.aload_n 0, 1) := by decide +kernel
theorem dX6_told_116 : decode cX6_told 116 = .ok (.iload 4, 2) := by decide +kernel
