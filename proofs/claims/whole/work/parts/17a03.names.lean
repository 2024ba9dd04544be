theorem dX6_told_118 : decode cX6_told 118 = .ok (.ldc2_w 108, 3) := by decide +kernel
theorem dX6_told_121 : decode cX6_told 121 = .ok (.invokevirtual 143, 3) := by decide +kernel
theorem dX6_told_124 : decode cX6_told 124 = .ok (.invokevirtual 57, 3) := by decide +kernel
theorem dX6_told_127 : decode cX6_told 127 = .ok (.aload_n 0, 1) := by decide +kernel
theorem dX6_told_128 : decode cX6_told 128 = .ok (.getfield 61, 3) := by decide +kernel
theorem dX6_told_131 : decode cX6_told 131 = .ok (.if_icmp .ne 31, 3) := by decide +kernel
theorem dX6_told_134 : decode cX6_told 134 = .ok (.aload_n 0, 1) := by decide +kernel
theorem dX6_told_135 : decode cX6_told 135 = .ok (.aload_n 0, 1) := by decide +kernel
theorem dX6_told_136 : decode cX6_told 136 = .ok (.getfield 64, 3) := by decide +kernel
theorem dX6_told_139 : decode cX6_told 139 = .ok (.aload_n 0, 1) := by decide +kernel
theorem dX6_told_140 : decode cX6_told 140 = .ok (.iload 4, 2) := by decide +kernel
theorem dX6_told_142 : decode cX6_told 142 = .ok (.ldc2_w 146, 3) := by decide +kernel
theorem dX6_told_145 : decode cX6_told 145 = .ok (.invokevirtual 143, 3) := by decide +kernel
theorem dX6_told_148 : decode cX6_told 148 = .ok (.invokevirtual 57, 3) := by decide +kernel
theorem dX6_told_151 : decode cX6_told 151 = .ok (.aload_n 0, 1) := by decide +kernel
theorem dX6_told_152 : decode cX6_told 152 = .ok (.getfield 64, 3) := by decide +kernel
theorem dX6_told_155 : decode cX6_told 155 = .ok (.if_icmp .ne 7, 3) := by decide +kernel
theorem dX6_told_158 : decode cX6_told 158 = .ok (.iconst 1, 1) := by decide +kernel
theorem dX6_told_159 : decode cX6_told 159 = .ok (.goto 4, 3) := by decide +kernel
theorem dX6_told_162 : decode cX6_told 162 = .ok (.iconst 0, 1) := by decide +kernel
theorem dX6_told_163 : decode cX6_told 163 = .ok (.iadd, 1) := by decide +kernel
theorem dX6_told_164 : decode cX6_told 164 = .ok (.istore_n 3, 1) := by decide +kernel
theorem dX6_told_165 : decode cX6_told 165 = .ok (.iinc 4 1, 3) := by decide +kernel
theorem dX6_told_168 : decode cX6_told 168 = .ok (.goto (-68), 3) := by decide +kernel
theorem dX6_told_171 : decode cX6_told 171 = .ok (.iload_n 3, 1) := by decide +kernel
theorem dX6_told_172 : decode cX6_told 172 = .ok (.ireturn, 1) := by decide +kernel
theorem dX6_told_173 : decode cX6_told 173 = .ok (.bipush (-2), 2) := by decide +kernel
theorem dX6_told_175 : decode cX6_told 175 = .ok (.ireturn, 1) := by decide +kernel
set_option maxRecDepth 20000 in
theorem ggX6_turn_X6_noSquare : GoodIn wsX6_turn wsX6_noSquare := goodIn_r _ [8, 9, 25, 26, 27, 28, 29, 30, 31, 32, 33, 34, 35, 36, 37, 38, 39, 40, 41, 42] (by decide +kernel) (by decide +kernel)
set_option maxRecDepth 20000 in
theorem gX6_turn_X6_noSquare : GoodIn wsX6_turn (wsV RX6 140 RX6 yX6_noSquare wsX6_noSquare) := goodIn_app (goodIn_of _ (by decide +kernel)) ggX6_turn_X6_noSquare
set_option maxRecDepth 20000 in
theorem ggX6_turn_X6_mul : GoodIn wsX6_turn wsX6_mul := goodIn_r _ [13, 1, 25, 26, 27, 28, 29, 30, 31, 32, 33, 34, 35, 36, 37, 38, 39, 40, 41, 42] (by decide +kernel) (by decide +kernel)
set_option maxRecDepth 20000 in
theorem gX6_turn_X6_mul : GoodIn wsX6_turn (wsV RX6 57 RX6 yX6_mul wsX6_mul) := goodIn_app (goodIn_of _ (by decide +kernel)) ggX6_turn_X6_mul
set_option maxRecDepth 20000 in
theorem ggX6_turn_X6_take : GoodIn wsX6_turn wsX6_take := goodIn_r _ [17, 2, 3, 18, 19, 20, 21, 7, 22, 1, 23, 24, 9, 25, 26, 27, 28, 29, 30, 31, 32, 33, 34, 35, 36, 37, 38, 39, 40, 41, 42] (by decide +kernel) (by decide +kernel)
set_option maxRecDepth 20000 in
theorem gX6_turn_X6_take : GoodIn wsX6_turn (wsV RX6 118 RX6 yX6_take wsX6_take) := goodIn_app (goodIn_of _ (by decide +kernel)) ggX6_turn_X6_take
theorem dX6_turn_0 : decode cX6_turn 0 = .ok (.aload_n 0, 1) := by decide +kernel
theorem dX6_turn_1 : decode cX6_turn 1 = .ok (.invokevirtual 140, 3) := by decide +kernel
theorem dX6_turn_4 : decode cX6_turn 4 = .ok (.istore_n 1, 1) := by decide +kernel
theorem dX6_turn_5 : decode cX6_turn 5 = .ok (.aload_n 0, 1) := by decide +kernel
theorem dX6_turn_6 : decode cX6_turn 6 = .ok (.aload_n 0, 1) := by decide +kernel
theorem dX6_turn_7 : decode cX6_turn 7 = .ok (.getfield 47, 3) := by decide +kernel
theorem dX6_turn_10 : decode cX6_turn 10 = .ok (.aload_n 0, 1) := by decide +kernel
theorem dX6_turn_11 : decode cX6_turn 11 = .ok (.aload_n 0, 1) := by decide +kernel
theorem dX6_turn_12 : decode cX6_turn 12 = .ok (.getfield 61, 3) := by decide +kernel
theorem dX6_turn_15 : decode cX6_turn 15 = .ok (.aload_n 0, 1) := by decide +kernel
theorem dX6_turn_16 : decode cX6_turn 16 = .ok (.iload_n 1, 1) := by decide +kernel
theorem dX6_turn_17 : decode cX6_turn 17 = .ok (.iload_n 1, 1) := by decide +kernel
theorem dX6_turn_18 : decode cX6_turn 18 = .ok (.invokevirtual 57, 3) := by decide +kernel
theorem dX6_turn_21 : decode cX6_turn 21 = .ok (.invokevirtual 57, 3) := by decide +kernel
theorem dX6_turn_24 : decode cX6_turn 24 = .ok (.aload_n 0, 1) := by decide +kernel
theorem dX6_turn_25 : decode cX6_turn 25 = .ok (.aload_n 0, 1) := by decide +kernel
theorem dX6_turn_26 : decode cX6_turn 26 = .ok (.getfield 64, 3) := by decide +kernel
theorem dX6_turn_29 : decode cX6_turn 29 = .ok (.aload_n 0, 1) := by decide +kernel
theorem dX6_turn_30 : decode cX6_turn 30 = .ok (.iload_n 1, 1) := by decide +kernel
theorem dX6_turn_31 : decode cX6_turn 31 = .ok (.aload_n 0, 1) := by decide +kernel
theorem dX6_turn_32 : decode cX6_turn 32 = .ok (.iload_n 1, 1) := by decide +kernel
theorem dX6_turn_33 : decode cX6_turn 33 = .ok (.iload_n 1, 1) := by decide +kernel
theorem dX6_turn_34 : decode cX6_turn 34 = .ok (.invokevirtual 57, 3) := by decide +kernel
theorem dX6_turn_37 : decode cX6_turn 37 = .ok (.invokevirtual 57, 3) := by decide +kernel
theorem dX6_turn_40 : decode cX6_turn 40 = .ok (.invokevirtual 57, 3) := by decide +kernel
theorem dX6_turn_43 : decode cX6_turn 43 = .ok (.invokevirtual 118, 3) := by decide +kernel
theorem dX6_turn_46 : decode cX6_turn 46 = .ok (.return_, 1) := by decide +kernel
set_option maxRecDepth 20000 in
theorem ggX6_twist_X6_has : GoodIn wsX6_twist wsX6_has := goodIn_r _ [9, 1, 10, 11, 12, 13, 14, 8, 15, 16, 17, 18, 19, 3, 4, 20, 21, 22, 23, 24, 2, 25, 26, 27, 45, 46, 47, 48, 49, 50, 51, 52, 53, 54, 55, 56, 57, 58, 59, 60, 61, 62] (by decide +kernel) (by decide +kernel)
set_option maxRecDepth 20000 in
theorem gX6_twist_X6_has : GoodIn wsX6_twist (wsV RX6 132 RX6 yX6_has wsX6_has) := goodIn_app (goodIn_of _ (by decide +kernel)) ggX6_twist_X6_has
set_option maxRecDepth 20000 in
theorem ggX6_twist_X6_turn : GoodIn wsX6_twist wsX6_turn := goodIn_r _ [31, 2, 3, 4, 32, 33, 34, 8, 35, 27, 36, 37, 38, 39, 16, 17, 18, 19, 20, 21, 22, 23, 24, 25, 26, 45, 46, 47, 48, 49, 50, 51, 52, 53, 54, 55, 56, 57, 58, 59, 60, 61, 62] (by decide +kernel) (by decide +kernel)
set_option maxRecDepth 20000 in
theorem gX6_twist_X6_turn : GoodIn wsX6_twist (wsV RX6 148 RX6 yX6_turn wsX6_turn) := goodIn_app (goodIn_of _ (by decide +kernel)) ggX6_twist_X6_turn
set_option maxRecDepth 20000 in
theorem ggX6_twist_X6_make : GoodIn wsX6_twist wsX6_make := goodIn_r _ [43, 10, 1, 11, 12, 44, 45, 46, 47, 48, 49, 50, 51, 52, 53, 54, 55, 56, 57, 58, 59, 60, 61, 62] (by decide +kernel) (by decide +kernel)
set_option maxRecDepth 20000 in
theorem gX6_twist_X6_make : GoodIn wsX6_twist (wsV RX6 126 RX6 yX6_make wsX6_make) := goodIn_app (goodIn_of _ (by decide +kernel)) ggX6_twist_X6_make
theorem dX6_twist_11 : decode cX6_twist 11 = .ok (.aload_n 0, 1) := by decide +kernel
theorem dX6_twist_12 : decode cX6_twist 12 = .ok (.getfield 112, 3) := by decide +kernel
theorem dX6_twist_15 : decode cX6_twist 15 = .ok (.bipush 24, 2) := by decide +kernel
theorem dX6_twist_17 : decode cX6_twist 17 = .ok (.if_icmp .ne 6, 3) := by decide +kernel
theorem dX6_twist_20 : decode cX6_twist 20 = .ok (.bipush (-4), 2) := by decide +kernel
theorem dX6_twist_22 : decode cX6_twist 22 = .ok (.ireturn, 1) := by decide +kernel
theorem dX6_twist_23 : decode cX6_twist 23 = .ok (.aload_n 0, 1) := by decide +kernel
theorem dX6_twist_24 : decode cX6_twist 24 = .ok (.invokevirtual 148, 3) := by decide +kernel
theorem dX6_twist_27 : decode cX6_twist 27 = .ok (.aload_n 0, 1) := by decide +kernel
theorem dX6_twist_28 : decode cX6_twist 28 = .ok (.aload_n 0, 1) := by decide +kernel
theorem dX6_twist_29 : decode cX6_twist 29 = .ok (.getfield 47, 3) := by decide +kernel
theorem dX6_twist_32 : decode cX6_twist 32 = .ok (.aload_n 0, 1) := by decide +kernel
theorem dX6_twist_33 : decode cX6_twist 33 = .ok (.getfield 61, 3) := by decide +kernel
theorem dX6_twist_36 : decode cX6_twist 36 = .ok (.aload_n 0, 1) := by decide +kernel
theorem dX6_twist_37 : decode cX6_twist 37 = .ok (.getfield 64, 3) := by decide +kernel
theorem dX6_twist_40 : decode cX6_twist 40 = .ok (.invokevirtual 126, 3) := by decide +kernel
theorem dX6_twist_43 : decode cX6_twist 43 = .ok (.ireturn, 1) := by decide +kernel
set_option maxRecDepth 20000 in
theorem ggX6_map_X6_has : GoodIn wsX6_map wsX6_has := goodIn_r _ [13, 14, 1, 5, 8, 15, 16, 12, 17, 18, 19, 20, 21, 3, 6, 22, 23, 24, 25, 26, 2, 27, 28, 29, 38, 39, 40, 41, 42, 43, 44, 45, 46, 47, 48, 49, 50, 51, 52, 53, 54, 55] (by decide +kernel) (by decide +kernel)
set_option maxRecDepth 20000 in
theorem gX6_map_X6_has : GoodIn wsX6_map (wsV RX6 132 RX6 yX6_has wsX6_has) := goodIn_app (goodIn_of _ (by decide +kernel)) ggX6_map_X6_has
set_option maxRecDepth 20000 in
theorem ggX6_map_X6_powered : GoodIn wsX6_map wsX6_powered := goodIn_r _ [33, 34, 35, 36, 12, 37, 2, 38, 39, 40, 41, 42, 43, 44, 45, 46, 47, 48, 49, 50, 51, 52, 53, 54, 55] (by decide +kernel) (by decide +kernel)
set_option maxRecDepth 20000 in
theorem gX6_map_X6_powered : GoodIn wsX6_map (wsV RX6 143 RX6 yX6_powered wsX6_powered) := goodIn_app (goodIn_of _ (by decide +kernel)) ggX6_map_X6_powered
set_option maxRecDepth 20000 in
theorem ggX6_map_X6_mul : GoodIn wsX6_map wsX6_mul := goodIn_r _ [37, 2, 38, 39, 40, 41, 42, 43, 44, 45, 46, 47, 48, 49, 50, 51, 52, 53, 54, 55] (by decide +kernel) (by decide +kernel)
set_option maxRecDepth 20000 in
theorem gX6_map_X6_mul : GoodIn wsX6_map (wsV RX6 57 RX6 yX6_mul wsX6_mul) := goodIn_app (goodIn_of _ (by decide +kernel)) ggX6_map_X6_mul
theorem dX6_map_8 : decode cX6_map 8 = .ok (.aload_n 0, 1) := by decide +kernel
theorem dX6_map_9 : decode cX6_map 9 = .ok (.iload_n 1, 1) := by decide +kernel
theorem dX6_map_10 : decode cX6_map 10 = .ok (.invokevirtual 132, 3) := by decide +kernel
theorem dX6_map_13 : decode cX6_map 13 = .ok (.ifCond .ne 6, 3) := by decide +kernel
theorem dX6_map_19 : decode cX6_map 19 = .ok (.aload_n 0, 1) := by decide +kernel
theorem dX6_map_20 : decode cX6_map 20 = .ok (.getfield 22, 3) := by decide +kernel
theorem dX6_map_23 : decode cX6_map 23 = .ok (.iload_n 2, 1) := by decide +kernel
theorem dX6_map_24 : decode cX6_map 24 = .ok (.iaload, 1) := by decide +kernel
theorem dX6_map_25 : decode cX6_map 25 = .ok (.aload_n 0, 1) := by decide +kernel
theorem dX6_map_26 : decode cX6_map 26 = .ok (.getfield 47, 3) := by decide +kernel
theorem dX6_map_29 : decode cX6_map 29 = .ok (.if_icmp .eq 5, 3) := by decide +kernel
theorem dX6_map_32 : decode cX6_map 32 = .ok (.iconst (-1), 1) := by decide +kernel
theorem dX6_map_33 : decode cX6_map 33 = .ok (.ireturn, 1) := by decide +kernel
theorem dX6_map_34 : decode cX6_map 34 = .ok (.iconst 1, 1) := by decide +kernel
theorem dX6_map_35 : decode cX6_map 35 = .ok (.istore_n 3, 1) := by decide +kernel
theorem dX6_map_36 : decode cX6_map 36 = .ok (.iload_n 3, 1) := by decide +kernel
theorem dX6_map_37 : decode cX6_map 37 = .ok (.aload_n 0, 1) := by decide +kernel
theorem dX6_map_38 : decode cX6_map 38 = .ok (.getfield 47, 3) := by decide +kernel
theorem dX6_map_41 : decode cX6_map 41 = .ok (.if_icmp .ge 61, 3) := by decide +kernel
theorem dX6_map_44 : decode cX6_map 44 = .ok (.aload_n 0, 1) := by decide +kernel
theorem dX6_map_45 : decode cX6_map 45 = .ok (.aload_n 0, 1) := by decide +kernel
theorem dX6_map_46 : decode cX6_map 46 = .ok (.getfield 61, 3) := by decide +kernel
theorem dX6_map_49 : decode cX6_map 49 = .ok (.aload_n 0, 1) := by decide +kernel
theorem dX6_map_50 : decode cX6_map 50 = .ok (.iload_n 3, 1) := by decide +kernel
theorem dX6_map_51 : decode cX6_map 51 = .ok (.ldc2_w 108, 3) := by decide +kernel
theorem dX6_map_54 : decode cX6_map 54 = .ok (.invokevirtual 143, 3) := by decide +kernel
theorem dX6_map_57 : decode cX6_map 57 = .ok (.invokevirtual 57, 3) := by decide +kernel
theorem dX6_map_60 : decode cX6_map 60 = .ok (.aload_n 0, 1) := by decide +kernel
theorem dX6_map_61 : decode cX6_map 61 = .ok (.getfield 25, 3) := by decide +kernel
theorem dX6_map_64 : decode cX6_map 64 = .ok (.iload_n 2, 1) := by decide +kernel
theorem dX6_map_65 : decode cX6_map 65 = .ok (.iaload, 1) := by decide +kernel
theorem dX6_map_66 : decode cX6_map 66 = .ok (.if_icmp .ne 30, 3) := by decide +kernel
theorem dX6_map_69 : decode cX6_map 69 = .ok (.aload_n 0, 1) := by decide +kernel
theorem dX6_map_70 : decode cX6_map 70 = .ok (.aload_n 0, 1) := by decide +kernel
theorem dX6_map_71 : decode cX6_map 71 = .ok (.getfield 64, 3) := by decide +kernel
theorem dX6_map_74 : decode cX6_map 74 = .ok (.aload_n 0, 1) := by decide +kernel
theorem dX6_map_75 : decode cX6_map 75 = .ok (.iload_n 3, 1) := by decide +kernel
theorem dX6_map_76 : decode cX6_map 76 = .ok (.ldc2_w 146, 3) := by decide +kernel
theorem dX6_map_79 : decode cX6_map 79 = .ok (.invokevirtual 143, 3) := by decide +kernel
theorem dX6_map_82 : decode cX6_map 82 = .ok (.invokevirtual 57, 3) := by decide +kernel
theorem dX6_map_85 : decode cX6_map 85 = .ok (.aload_n 0, 1) := by decide +kernel
theorem dX6_map_86 : decode cX6_map 86 = .ok (.getfield 28, 3) := by decide +kernel
theorem dX6_map_89 : decode cX6_map 89 = .ok (.iload_n 2, 1) := by decide +kernel
theorem dX6_map_90 : decode cX6_map 90 = .ok (.iaload, 1) := by decide +kernel
theorem dX6_map_91 : decode cX6_map 91 = .ok (.if_icmp .ne 5, 3) := by decide +kernel
theorem dX6_map_94 : decode cX6_map 94 = .ok (.iload_n 3, 1) := by decide +kernel
theorem dX6_map_95 : decode cX6_map 95 = .ok (.ireturn, 1) := by decide +kernel
theorem dX6_map_96 : decode cX6_map 96 = .ok (.iinc 3 1, 3) := by decide +kernel
theorem dX6_map_99 : decode cX6_map 99 = .ok (.goto (-63), 3) := by decide +kernel
theorem dX6_map_102 : decode cX6_map 102 = .ok (.iconst (-1), 1) := by decide +kernel
theorem dX6_map_103 : decode cX6_map 103 = .ok (.ireturn, 1) := by decide +kernel
set_option maxRecDepth 20000 in
theorem ggX6_mapped_X6_has : GoodIn wsX6_mapped wsX6_has := goodIn_r _ [6, 7, 8, 9, 10, 11, 12, 5, 13, 14, 15, 16, 17, 18, 19, 20, 21, 22, 23, 24, 1, 25, 26, 27, 44, 45, 46, 47, 48, 49, 50, 51, 52, 53, 54, 55, 56, 57, 58, 59, 60, 61] (by decide +kernel) (by decide +kernel)
set_option maxRecDepth 20000 in
theorem gX6_mapped_X6_has : GoodIn wsX6_mapped (wsV RX6 132 RX6 yX6_has wsX6_has) := goodIn_app (goodIn_of _ (by decide +kernel)) ggX6_mapped_X6_has
set_option maxRecDepth 20000 in
theorem ggX6_mapped_X6_in : GoodIn wsX6_mapped wsX6_in := goodIn_r _ [13] (by decide +kernel) (by decide +kernel)
set_option maxRecDepth 20000 in
theorem gX6_mapped_X6_in : GoodIn wsX6_mapped (va_wsS RX6 100 yX6_in wsX6_in) := goodIn_app (goodIn_of _ (by decide +kernel)) ggX6_mapped_X6_in
set_option maxRecDepth 20000 in
theorem ggX6_mapped_X6_isPoint : GoodIn wsX6_mapped wsX6_isPoint := goodIn_r _ [31, 1, 32, 33, 34, 5, 35, 36, 37, 38, 39, 18, 19, 40, 41, 42, 43, 44, 45, 46, 47, 48, 49, 50, 51, 52, 53, 54, 55, 56, 57, 58, 59, 60, 61] (by decide +kernel) (by decide +kernel)
set_option maxRecDepth 20000 in
theorem gX6_mapped_X6_isPoint : GoodIn wsX6_mapped (wsV RX6 151 RX6 yX6_isPoint wsX6_isPoint) := goodIn_app (goodIn_of _ (by decide +kernel)) ggX6_mapped_X6_isPoint
set_option maxRecDepth 20000 in
theorem ggX6_mapped_X6_mul : GoodIn wsX6_mapped wsX6_mul := goodIn_r _ [35, 1, 44, 45, 46, 47, 48, 49, 50, 51, 52, 53, 54, 55, 56, 57, 58, 59, 60, 61] (by decide +kernel) (by decide +kernel)
set_option maxRecDepth 20000 in
theorem gX6_mapped_X6_mul : GoodIn wsX6_mapped (wsV RX6 57 RX6 yX6_mul wsX6_mul) := goodIn_app (goodIn_of _ (by decide +kernel)) ggX6_mapped_X6_mul
theorem dX6_mapped_8 : decode cX6_mapped 8 = .ok (.iload_n 2, 1) := by decide +kernel
theorem dX6_mapped_9 : decode cX6_mapped 9 = .ok (.i2l, 1) := by decide +kernel
theorem dX6_mapped_10 : decode cX6_mapped 10 = .ok (.lconst 1, 1) := by decide +kernel
theorem dX6_mapped_11 : decode cX6_mapped 11 = .ok (.aload_n 0, 1) := by decide +kernel
theorem dX6_mapped_12 : decode cX6_mapped 12 = .ok (.getfield 47, 3) := by decide +kernel
theorem dX6_mapped_15 : decode cX6_mapped 15 = .ok (.iconst 1, 1) := by decide +kernel
theorem dX6_mapped_16 : decode cX6_mapped 16 = .ok (.isub, 1) := by decide +kernel
theorem dX6_mapped_17 : decode cX6_mapped 17 = .ok (.i2l, 1) := by decide +kernel
theorem dX6_mapped_18 : decode cX6_mapped 18 = .ok (.invokestatic 100, 3) := by decide +kernel
theorem dX6_mapped_21 : decode cX6_mapped 21 = .ok (.ifCond .eq 11, 3) := by decide +kernel
theorem dX6_mapped_24 : decode cX6_mapped 24 = .ok (.aload_n 0, 1) := by decide +kernel
theorem dX6_mapped_25 : decode cX6_mapped 25 = .ok (.iload_n 3, 1) := by decide +kernel
theorem dX6_mapped_26 : decode cX6_mapped 26 = .ok (.invokevirtual 151, 3) := by decide +kernel
theorem dX6_mapped_29 : decode cX6_mapped 29 = .ok (.ifCond .ne 6, 3) := by decide +kernel
theorem dX6_mapped_35 : decode cX6_mapped 35 = .ok (.iload_n 3, 1) := by decide +kernel
theorem dX6_mapped_36 : decode cX6_mapped 36 = .ok (.iconst (-1), 1) := by decide +kernel
theorem dX6_mapped_37 : decode cX6_mapped 37 = .ok (.if_icmp .ne 7, 3) := by decide +kernel
theorem dX6_mapped_40 : decode cX6_mapped 40 = .ok (.iload_n 3, 1) := by decide +kernel
theorem dX6_mapped_41 : decode cX6_mapped 41 = .ok (.goto 43, 3) := by decide +kernel
theorem dX6_mapped_44 : decode cX6_mapped 44 = .ok (.sipush 16384, 3) := by decide +kernel
theorem dX6_mapped_47 : decode cX6_mapped 47 = .ok (.aload_n 0, 1) := by decide +kernel
theorem dX6_mapped_48 : decode cX6_mapped 48 = .ok (.iload_n 3, 1) := by decide +kernel
theorem dX6_mapped_49 : decode cX6_mapped 49 = .ok (.sipush 16384, 3) := by decide +kernel
theorem dX6_mapped_52 : decode cX6_mapped 52 = .ok (.idiv, 1) := by decide +kernel
theorem dX6_mapped_53 : decode cX6_mapped 53 = .ok (.aload_n 0, 1) := by decide +kernel
theorem dX6_mapped_54 : decode cX6_mapped 54 = .ok (.iload_n 2, 1) := by decide +kernel
theorem dX6_mapped_55 : decode cX6_mapped 55 = .ok (.iload_n 2, 1) := by decide +kernel
theorem dX6_mapped_56 : decode cX6_mapped 56 = .ok (.invokevirtual 57, 3) := by decide +kernel
theorem dX6_mapped_59 : decode cX6_mapped 59 = .ok (.invokevirtual 57, 3) := by decide +kernel
theorem dX6_mapped_62 : decode cX6_mapped 62 = .ok (.imul, 1) := by decide +kernel
theorem dX6_mapped_63 : decode cX6_mapped 63 = .ok (.aload_n 0, 1) := by decide +kernel
theorem dX6_mapped_64 : decode cX6_mapped 64 = .ok (.iload_n 3, 1) := by decide +kernel
theorem dX6_mapped_65 : decode cX6_mapped 65 = .ok (.sipush 16384, 3) := by decide +kernel
theorem dX6_mapped_68 : decode cX6_mapped 68 = .ok (.irem, 1) := by decide +kernel
theorem dX6_mapped_69 : decode cX6_mapped 69 = .ok (.aload_n 0, 1) := by decide +kernel
theorem dX6_mapped_70 : decode cX6_mapped 70 = .ok (.iload_n 2, 1) := by decide +kernel
theorem dX6_mapped_71 : decode cX6_mapped 71 = .ok (.aload_n 0, 1) := by decide +kernel
theorem dX6_mapped_72 : decode cX6_mapped 72 = .ok (.iload_n 2, 1) := by decide +kernel
theorem dX6_mapped_73 : decode cX6_mapped 73 = .ok (.iload_n 2, 1) := by decide +kernel
theorem dX6_mapped_74 : decode cX6_mapped 74 = .ok (.invokevirtual 57, 3) := by decide +kernel
theorem dX6_mapped_77 : decode cX6_mapped 77 = .ok (.invokevirtual 57, 3) := by decide +kernel
theorem dX6_mapped_80 : decode cX6_mapped 80 = .ok (.invokevirtual 57, 3) := by decide +kernel
theorem dX6_mapped_83 : decode cX6_mapped 83 = .ok (.iadd, 1) := by decide +kernel
theorem dX6_mapped_84 : decode cX6_mapped 84 = .ok (.ireturn, 1) := by decide +kernel
set_option maxRecDepth 20000 in
theorem ggX6_root_X6_has : GoodIn wsX6_root wsX6_has := goodIn_r _ [6, 7, 8, 9, 10, 11, 12, 5, 13, 14, 15, 16, 17, 18, 19, 20, 21, 22, 23, 24, 25, 26, 27, 1, 32, 33, 34, 35, 36, 37, 38, 39, 40, 41, 42, 43, 44, 45, 46, 47, 48, 49] (by decide +kernel) (by decide +kernel)
set_option maxRecDepth 20000 in
theorem gX6_root_X6_has : GoodIn wsX6_root (wsV RX6 132 RX6 yX6_has wsX6_has) := goodIn_app (goodIn_of _ (by decide +kernel)) ggX6_root_X6_has
set_option maxRecDepth 20000 in
theorem ggX6_root_X6_mod : GoodIn wsX6_root wsX6_mod := goodIn_r _ [31, 25, 32, 33, 34, 35, 36, 37, 38, 39, 40, 41, 42, 43, 44, 45, 46, 47, 48, 49] (by decide +kernel) (by decide +kernel)
set_option maxRecDepth 20000 in
theorem gX6_root_X6_mod : GoodIn wsX6_root (wsV RX6 67 RX6 yX6_mod wsX6_mod) := goodIn_app (goodIn_of _ (by decide +kernel)) ggX6_root_X6_mod
theorem dX6_root_8 : decode cX6_root 8 = .ok (.aload_n 0, 1) := by decide +kernel
theorem dX6_root_9 : decode cX6_root 9 = .ok (.getfield 13, 3) := by decide +kernel
theorem dX6_root_12 : decode cX6_root 12 = .ok (.aload_n 0, 1) := by decide +kernel
theorem dX6_root_13 : decode cX6_root 13 = .ok (.iload_n 2, 1) := by decide +kernel
theorem dX6_root_14 : decode cX6_root 14 = .ok (.i2l, 1) := by decide +kernel
theorem dX6_root_15 : decode cX6_root 15 = .ok (.invokevirtual 67, 3) := by decide +kernel
theorem dX6_root_18 : decode cX6_root 18 = .ok (.iaload, 1) := by decide +kernel
theorem dX6_root_19 : decode cX6_root 19 = .ok (.goto 5, 3) := by decide +kernel
set_option maxRecDepth 20000 in
theorem ggX6_inverse_X6_has : GoodIn wsX6_inverse wsX6_has := goodIn_r _ [6, 7, 8, 9, 10, 11, 12, 5, 13, 14, 15, 16, 17, 18, 19, 20, 21, 22, 23, 24, 25, 26, 1, 27, 32, 33, 34, 35, 36, 37, 38, 39, 40, 41, 42, 43, 44, 45, 46, 47, 48, 49] (by decide +kernel) (by decide +kernel)
set_option maxRecDepth 20000 in
theorem gX6_inverse_X6_has : GoodIn wsX6_inverse (wsV RX6 132 RX6 yX6_has wsX6_has) := goodIn_app (goodIn_of _ (by decide +kernel)) ggX6_inverse_X6_has
set_option maxRecDepth 20000 in
theorem ggX6_inverse_X6_mod : GoodIn wsX6_inverse wsX6_mod := goodIn_r _ [31, 25, 32, 33, 34, 35, 36, 37, 38, 39, 40, 41, 42, 43, 44, 45, 46, 47, 48, 49] (by decide +kernel) (by decide +kernel)
set_option maxRecDepth 20000 in
theorem gX6_inverse_X6_mod : GoodIn wsX6_inverse (wsV RX6 67 RX6 yX6_mod wsX6_mod) := goodIn_app (goodIn_of _ (by decide +kernel)) ggX6_inverse_X6_mod
theorem dX6_inverse_11 : decode cX6_inverse 11 = .ok (.aload_n 0, 1) := by decide +kernel
theorem dX6_inverse_12 : decode cX6_inverse 12 = .ok (.iload_n 2, 1) := by decide +kernel
theorem dX6_inverse_13 : decode cX6_inverse 13 = .ok (.i2l, 1) := by decide +kernel
theorem dX6_inverse_14 : decode cX6_inverse 14 = .ok (.invokevirtual 67, 3) := by decide +kernel
theorem dX6_inverse_17 : decode cX6_inverse 17 = .ok (.ifCond .ne 7, 3) := by decide +kernel
theorem dX6_inverse_20 : decode cX6_inverse 20 = .ok (.iconst (-1), 1) := by decide +kernel
theorem dX6_inverse_21 : decode cX6_inverse 21 = .ok (.goto 14, 3) := by decide +kernel
theorem dX6_inverse_24 : decode cX6_inverse 24 = .ok (.aload_n 0, 1) := by decide +kernel
theorem dX6_inverse_25 : decode cX6_inverse 25 = .ok (.getfield 7, 3) := by decide +kernel
theorem dX6_inverse_28 : decode cX6_inverse 28 = .ok (.aload_n 0, 1) := by decide +kernel
theorem dX6_inverse_29 : decode cX6_inverse 29 = .ok (.iload_n 2, 1) := by decide +kernel
theorem dX6_inverse_30 : decode cX6_inverse 30 = .ok (.i2l, 1) := by decide +kernel
theorem dX6_inverse_31 : decode cX6_inverse 31 = .ok (.invokevirtual 67, 3) := by decide +kernel
theorem dX6_inverse_34 : decode cX6_inverse 34 = .ok (.iaload, 1) := by decide +kernel
theorem dX6_inverse_35 : decode cX6_inverse 35 = .ok (.ireturn, 1) := by decide +kernel
set_option maxRecDepth 20000 in
theorem ggX6_power_X6_has : GoodIn wsX6_power wsX6_has := goodIn_r _ [5, 6, 7, 8, 9, 10, 11, 4, 12, 13, 14, 15, 16, 17, 18, 19, 20, 21, 22, 23, 24, 25, 26, 27, 40, 41, 42, 43, 44, 45, 46, 47, 48, 49, 50, 51, 52, 53, 54, 55, 56, 57] (by decide +kernel) (by decide +kernel)
set_option maxRecDepth 20000 in
theorem gX6_power_X6_has : GoodIn wsX6_power (wsV RX6 132 RX6 yX6_has wsX6_has) := goodIn_app (goodIn_of _ (by decide +kernel)) ggX6_power_X6_has
set_option maxRecDepth 20000 in
theorem ggX6_power_X6_mod : GoodIn wsX6_power wsX6_mod := goodIn_r _ [31, 24, 40, 41, 42, 43, 44, 45, 46, 47, 48, 49, 50, 51, 52, 53, 54, 55, 56, 57] (by decide +kernel) (by decide +kernel)
set_option maxRecDepth 20000 in
theorem gX6_power_X6_mod : GoodIn wsX6_power (wsV RX6 67 RX6 yX6_mod wsX6_mod) := goodIn_app (goodIn_of _ (by decide +kernel)) ggX6_power_X6_mod
set_option maxRecDepth 20000 in
theorem ggX6_power_X6_powered : GoodIn wsX6_power wsX6_powered := goodIn_r _ [35, 36, 37, 38, 4, 39, 24, 40, 41, 42, 43, 44, 45, 46, 47, 48, 49, 50, 51, 52, 53, 54, 55, 56, 57] (by decide +kernel) (by decide +kernel)
set_option maxRecDepth 20000 in
theorem gX6_power_X6_powered : GoodIn wsX6_power (wsV RX6 143 RX6 yX6_powered wsX6_powered) := goodIn_app (goodIn_of _ (by decide +kernel)) ggX6_power_X6_powered
theorem dX6_power_8 : decode cX6_power 8 = .ok (.lload_n 3, 1) := by decide +kernel
theorem dX6_power_9 : decode cX6_power 9 = .ok (.lconst 0, 1) := by decide +kernel
theorem dX6_power_10 : decode cX6_power 10 = .ok (.lcmp, 1) := by decide +kernel
theorem dX6_power_11 : decode cX6_power 11 = .ok (.ifCond .lt 17, 3) := by decide +kernel
theorem dX6_power_14 : decode cX6_power 14 = .ok (.aload_n 0, 1) := by decide +kernel
theorem dX6_power_15 : decode cX6_power 15 = .ok (.aload_n 0, 1) := by decide +kernel
theorem dX6_power_16 : decode cX6_power 16 = .ok (.iload_n 2, 1) := by decide +kernel
theorem dX6_power_17 : decode cX6_power 17 = .ok (.i2l, 1) := by decide +kernel
theorem dX6_power_18 : decode cX6_power 18 = .ok (.invokevirtual 67, 3) := by decide +kernel
theorem dX6_power_21 : decode cX6_power 21 = .ok (.lload_n 3, 1) := by decide +kernel
theorem dX6_power_22 : decode cX6_power 22 = .ok (.invokevirtual 143, 3) := by decide +kernel
theorem dX6_power_25 : decode cX6_power 25 = .ok (.goto 5, 3) := by decide +kernel
set_option maxRecDepth 20000 in
theorem ggX6_generator_X6_has : GoodIn wsX6_generator wsX6_has := goodIn_r _ [6, 7, 8, 9, 10, 11, 12, 5, 13, 14, 15, 16, 17, 18, 19, 20, 21, 22, 23, 24, 1, 25, 26, 27, 32, 33, 34, 35, 36, 37, 38, 39, 40, 41, 42, 43, 44, 45, 46, 47, 48, 49] (by decide +kernel) (by decide +kernel)
set_option maxRecDepth 20000 in
theorem gX6_generator_X6_has : GoodIn wsX6_generator (wsV RX6 132 RX6 yX6_has wsX6_has) := goodIn_app (goodIn_of _ (by decide +kernel)) ggX6_generator_X6_has
set_option maxRecDepth 20000 in
theorem ggX6_generator_X6_mul : GoodIn wsX6_generator wsX6_mul := goodIn_r _ [31, 1, 32, 33, 34, 35, 36, 37, 38, 39, 40, 41, 42, 43, 44, 45, 46, 47, 48, 49] (by decide +kernel) (by decide +kernel)
set_option maxRecDepth 20000 in
theorem gX6_generator_X6_mul : GoodIn wsX6_generator (wsV RX6 57 RX6 yX6_mul wsX6_mul) := goodIn_app (goodIn_of _ (by decide +kernel)) ggX6_generator_X6_mul
theorem dX6_generator_11 : decode cX6_generator 11 = .ok (.iconst 1, 1) := by decide +kernel
theorem dX6_generator_12 : decode cX6_generator 12 = .ok (.istore_n 2, 1) := by decide +kernel
theorem dX6_generator_13 : decode cX6_generator 13 = .ok (.iconst 0, 1) := by decide +kernel
theorem dX6_generator_14 : decode cX6_generator 14 = .ok (.istore_n 3, 1) := by decide +kernel
theorem dX6_generator_15 : decode cX6_generator 15 = .ok (.iload_n 3, 1) := by decide +kernel
theorem dX6_generator_16 : decode cX6_generator 16 = .ok (.aload_n 0, 1) := by decide +kernel
theorem dX6_generator_17 : decode cX6_generator 17 = .ok (.getfield 47, 3) := by decide +kernel
theorem dX6_generator_20 : decode cX6_generator 20 = .ok (.iconst 1, 1) := by decide +kernel
theorem dX6_generator_21 : decode cX6_generator 21 = .ok (.isub, 1) := by decide +kernel
theorem dX6_generator_22 : decode cX6_generator 22 = .ok (.if_icmp .eq 35, 3) := by decide +kernel
theorem dX6_generator_25 : decode cX6_generator 25 = .ok (.iinc 2 1, 3) := by decide +kernel
theorem dX6_generator_28 : decode cX6_generator 28 = .ok (.iconst 1, 1) := by decide +kernel
theorem dX6_generator_29 : decode cX6_generator 29 = .ok (.istore_n 3, 1) := by decide +kernel
theorem dX6_generator_30 : decode cX6_generator 30 = .ok (.iload_n 2, 1) := by decide +kernel
theorem dX6_generator_31 : decode cX6_generator 31 = .ok (.istore 4, 2) := by decide +kernel
theorem dX6_generator_33 : decode cX6_generator 33 = .ok (.iload 4, 2) := by decide +kernel
theorem dX6_generator_35 : decode cX6_generator 35 = .ok (.iconst 1, 1) := by decide +kernel
theorem dX6_generator_36 : decode cX6_generator 36 = .ok (.if_icmp .eq 18, 3) := by decide +kernel
theorem dX6_generator_39 : decode cX6_generator 39 = .ok (.aload_n 0, 1) := by decide +kernel
theorem dX6_generator_40 : decode cX6_generator 40 = .ok (.iload 4, 2) := by decide +kernel
theorem dX6_generator_42 : decode cX6_generator 42 = .ok (.iload_n 2, 1) := by decide +kernel
theorem dX6_generator_43 : decode cX6_generator 43 = .ok (.invokevirtual 57, 3) := by decide +kernel
theorem dX6_generator_46 : decode cX6_generator 46 = .ok (.istore 4, 2) := by decide +kernel
theorem dX6_generator_48 : decode cX6_generator 48 = .ok (.iinc 3 1, 3) := by decide +kernel
theorem dX6_generator_51 : decode cX6_generator 51 = .ok (.goto (-18), 3) := by decide +kernel
theorem dX6_generator_54 : decode cX6_generator 54 = .ok (.goto (-39), 3) := by decide +kernel
theorem dX6_generator_57 : decode cX6_generator 57 = .ok (.iload_n 2, 1) := by decide +kernel
theorem dX6_generator_58 : decode cX6_generator 58 = .ok (.ireturn, 1) := by decide +kernel
set_option maxRecDepth 20000 in
theorem ggX6_point_X6_has : GoodIn wsX6_point wsX6_has := goodIn_r _ [6, 7, 8, 9, 10, 11, 12, 5, 13, 14, 15, 16, 17, 18, 19, 20, 21, 22, 23, 24, 1, 25, 26, 27, 44, 45, 46, 47, 48, 49, 50, 51, 52, 53, 54, 55, 56, 57, 58, 59, 60, 61] (by decide +kernel) (by decide +kernel)
set_option maxRecDepth 20000 in
theorem gX6_point_X6_has : GoodIn wsX6_point (wsV RX6 132 RX6 yX6_has wsX6_has) := goodIn_app (goodIn_of _ (by decide +kernel)) ggX6_point_X6_has
set_option maxRecDepth 20000 in
theorem ggX6_point_X6_in : GoodIn wsX6_point wsX6_in := goodIn_r _ [13] (by decide +kernel) (by decide +kernel)
set_option maxRecDepth 20000 in
theorem gX6_point_X6_in : GoodIn wsX6_point (va_wsS RX6 100 yX6_in wsX6_in) := goodIn_app (goodIn_of _ (by decide +kernel)) ggX6_point_X6_in
set_option maxRecDepth 20000 in
theorem ggX6_point_X6_isPoint : GoodIn wsX6_point wsX6_isPoint := goodIn_r _ [31, 1, 32, 33, 34, 5, 35, 36, 37, 38, 39, 18, 19, 40, 41, 42, 43, 44, 45, 46, 47, 48, 49, 50, 51, 52, 53, 54, 55, 56, 57, 58, 59, 60, 61] (by decide +kernel) (by decide +kernel)
set_option maxRecDepth 20000 in
theorem gX6_point_X6_isPoint : GoodIn wsX6_point (wsV RX6 151 RX6 yX6_isPoint wsX6_isPoint) := goodIn_app (goodIn_of _ (by decide +kernel)) ggX6_point_X6_isPoint
theorem dX6_point_8 : decode cX6_point 8 = .ok (.iload_n 2, 1) := by decide +kernel
theorem dX6_point_9 : decode cX6_point 9 = .ok (.i2l, 1) := by decide +kernel
theorem dX6_point_10 : decode cX6_point 10 = .ok (.lconst 0, 1) := by decide +kernel
theorem dX6_point_11 : decode cX6_point 11 = .ok (.aload_n 0, 1) := by decide +kernel
theorem dX6_point_12 : decode cX6_point 12 = .ok (.getfield 47, 3) := by decide +kernel
theorem dX6_point_15 : decode cX6_point 15 = .ok (.iconst 1, 1) := by decide +kernel
theorem dX6_point_16 : decode cX6_point 16 = .ok (.isub, 1) := by decide +kernel
theorem dX6_point_17 : decode cX6_point 17 = .ok (.i2l, 1) := by decide +kernel
theorem dX6_point_18 : decode cX6_point 18 = .ok (.invokestatic 100, 3) := by decide +kernel
theorem dX6_point_21 : decode cX6_point 21 = .ok (.ifCond .eq 19, 3) := by decide +kernel
theorem dX6_point_24 : decode cX6_point 24 = .ok (.iload_n 3, 1) := by decide +kernel
theorem dX6_point_25 : decode cX6_point 25 = .ok (.i2l, 1) := by decide +kernel
theorem dX6_point_26 : decode cX6_point 26 = .ok (.lconst 0, 1) := by decide +kernel
theorem dX6_point_27 : decode cX6_point 27 = .ok (.aload_n 0, 1) := by decide +kernel
theorem dX6_point_28 : decode cX6_point 28 = .ok (.getfield 47, 3) := by decide +kernel
theorem dX6_point_31 : decode cX6_point 31 = .ok (.iconst 1, 1) := by decide +kernel
theorem dX6_point_32 : decode cX6_point 32 = .ok (.isub, 1) := by decide +kernel
theorem dX6_point_33 : decode cX6_point 33 = .ok (.i2l, 1) := by decide +kernel
theorem dX6_point_34 : decode cX6_point 34 = .ok (.invokestatic 100, 3) := by decide +kernel
theorem dX6_point_37 : decode cX6_point 37 = .ok (.ifCond .ne 6, 3) := by decide +kernel
theorem dX6_point_43 : decode cX6_point 43 = .ok (.aload_n 0, 1) := by decide +kernel
theorem dX6_point_44 : decode cX6_point 44 = .ok (.sipush 16384, 3) := by decide +kernel
theorem dX6_point_47 : decode cX6_point 47 = .ok (.iload_n 2, 1) := by decide +kernel
theorem dX6_point_48 : decode cX6_point 48 = .ok (.imul, 1) := by decide +kernel
theorem dX6_point_49 : decode cX6_point 49 = .ok (.iload_n 3, 1) := by decide +kernel
theorem dX6_point_50 : decode cX6_point 50 = .ok (.iadd, 1) := by decide +kernel
theorem dX6_point_51 : decode cX6_point 51 = .ok (.invokevirtual 151, 3) := by decide +kernel
theorem dX6_point_54 : decode cX6_point 54 = .ok (.ifCond .eq 13, 3) := by decide +kernel
theorem dX6_point_57 : decode cX6_point 57 = .ok (.sipush 16384, 3) := by decide +kernel
theorem dX6_point_60 : decode cX6_point 60 = .ok (.iload_n 2, 1) := by decide +kernel
theorem dX6_point_61 : decode cX6_point 61 = .ok (.imul, 1) := by decide +kernel
theorem dX6_point_62 : decode cX6_point 62 = .ok (.iload_n 3, 1) := by decide +kernel
theorem dX6_point_63 : decode cX6_point 63 = .ok (.iadd, 1) := by decide +kernel
theorem dX6_point_64 : decode cX6_point 64 = .ok (.goto 4, 3) := by decide +kernel
theorem dX6_point_67 : decode cX6_point 67 = .ok (.iconst (-1), 1) := by decide +kernel
theorem dX6_point_68 : decode cX6_point 68 = .ok (.ireturn, 1) := by decide +kernel
set_option maxRecDepth 20000 in
theorem ggX6_lift_X6_has : GoodIn wsX6_lift wsX6_has := goodIn_r _ [7, 8, 9, 10, 11, 12, 13, 6, 14, 15, 16, 17, 18, 19, 20, 21, 22, 23, 24, 25, 1, 26, 27, 2, 40, 41, 42, 43, 44, 45, 46, 47, 48, 49, 50, 51, 52, 53, 54, 55, 56, 57] (by decide +kernel) (by decide +kernel)
set_option maxRecDepth 20000 in
theorem gX6_lift_X6_has : GoodIn wsX6_lift (wsV RX6 132 RX6 yX6_has wsX6_has) := goodIn_app (goodIn_of _ (by decide +kernel)) ggX6_lift_X6_has
set_option maxRecDepth 20000 in
theorem ggX6_lift_X6_in : GoodIn wsX6_lift wsX6_in := goodIn_r _ [14] (by decide +kernel) (by decide +kernel)
set_option maxRecDepth 20000 in
theorem gX6_lift_X6_in : GoodIn wsX6_lift (va_wsS RX6 100 yX6_in wsX6_in) := goodIn_app (goodIn_of _ (by decide +kernel)) ggX6_lift_X6_in
set_option maxRecDepth 20000 in
theorem ggX6_lift_X6_right : GoodIn wsX6_lift wsX6_right := goodIn_r _ [31, 19, 20, 32, 33, 34, 6, 35, 1, 36, 37, 38, 39, 40, 41, 42, 43, 44, 45, 46, 47, 48, 49, 50, 51, 52, 53, 54, 55, 56, 57] (by decide +kernel) (by decide +kernel)
set_option maxRecDepth 20000 in
theorem gX6_lift_X6_right : GoodIn wsX6_lift (wsV RX6 75 RX6 yX6_right wsX6_right) := goodIn_app (goodIn_of _ (by decide +kernel)) ggX6_lift_X6_right
theorem dX6_lift_8 : decode cX6_lift 8 = .ok (.iload_n 2, 1) := by decide +kernel
theorem dX6_lift_9 : decode cX6_lift 9 = .ok (.i2l, 1) := by decide +kernel
theorem dX6_lift_10 : decode cX6_lift 10 = .ok (.lconst 0, 1) := by decide +kernel
theorem dX6_lift_11 : decode cX6_lift 11 = .ok (.aload_n 0, 1) := by decide +kernel
theorem dX6_lift_12 : decode cX6_lift 12 = .ok (.getfield 47, 3) := by decide +kernel
theorem dX6_lift_15 : decode cX6_lift 15 = .ok (.iconst 1, 1) := by decide +kernel
theorem dX6_lift_16 : decode cX6_lift 16 = .ok (.isub, 1) := by decide +kernel
theorem dX6_lift_17 : decode cX6_lift 17 = .ok (.i2l, 1) := by decide +kernel
theorem dX6_lift_18 : decode cX6_lift 18 = .ok (.invokestatic 100, 3) := by decide +kernel
theorem dX6_lift_21 : decode cX6_lift 21 = .ok (.ifCond .ne 6, 3) := by decide +kernel
theorem dX6_lift_27 : decode cX6_lift 27 = .ok (.aload_n 0, 1) := by decide +kernel
theorem dX6_lift_28 : decode cX6_lift 28 = .ok (.getfield 13, 3) := by decide +kernel
theorem dX6_lift_31 : decode cX6_lift 31 = .ok (.aload_n 0, 1) := by decide +kernel
theorem dX6_lift_32 : decode cX6_lift 32 = .ok (.iload_n 2, 1) := by decide +kernel
theorem dX6_lift_33 : decode cX6_lift 33 = .ok (.invokevirtual 75, 3) := by decide +kernel
theorem dX6_lift_36 : decode cX6_lift 36 = .ok (.iaload, 1) := by decide +kernel
theorem dX6_lift_37 : decode cX6_lift 37 = .ok (.istore 4, 2) := by decide +kernel
theorem dX6_lift_39 : decode cX6_lift 39 = .ok (.iload 4, 2) := by decide +kernel
theorem dX6_lift_41 : decode cX6_lift 41 = .ok (.iconst (-1), 1) := by decide +kernel
theorem dX6_lift_42 : decode cX6_lift 42 = .ok (.if_icmp .eq 12, 3) := by decide +kernel
theorem dX6_lift_45 : decode cX6_lift 45 = .ok (.iload 4, 2) := by decide +kernel
theorem dX6_lift_47 : decode cX6_lift 47 = .ok (.ifCond .ne 9, 3) := by decide +kernel
theorem dX6_lift_50 : decode cX6_lift 50 = .ok (.iload_n 3, 1) := by decide +kernel
theorem dX6_lift_51 : decode cX6_lift 51 = .ok (.ifCond .eq 5, 3) := by decide +kernel
theorem dX6_lift_54 : decode cX6_lift 54 = .ok (.iconst (-1), 1) := by decide +kernel
theorem dX6_lift_55 : decode cX6_lift 55 = .ok (.ireturn, 1) := by decide +kernel
theorem dX6_lift_56 : decode cX6_lift 56 = .ok (.iload 4, 2) := by decide +kernel
theorem dX6_lift_58 : decode cX6_lift 58 = .ok (.iconst 2, 1) := by decide +kernel
theorem dX6_lift_59 : decode cX6_lift 59 = .ok (.irem, 1) := by decide +kernel
theorem dX6_lift_60 : decode cX6_lift 60 = .ok (.iconst 1, 1) := by decide +kernel
theorem dX6_lift_61 : decode cX6_lift 61 = .ok (.if_icmp .ne 7, 3) := by decide +kernel
theorem dX6_lift_64 : decode cX6_lift 64 = .ok (.iconst 1, 1) := by decide +kernel
theorem dX6_lift_65 : decode cX6_lift 65 = .ok (.goto 4, 3) := by decide +kernel
theorem dX6_lift_68 : decode cX6_lift 68 = .ok (.iconst 0, 1) := by decide +kernel
theorem dX6_lift_69 : decode cX6_lift 69 = .ok (.iload_n 3, 1) := by decide +kernel
theorem dX6_lift_70 : decode cX6_lift 70 = .ok (.if_icmp .ne 7, 3) := by decide +kernel
theorem dX6_lift_73 : decode cX6_lift 73 = .ok (.iconst 1, 1) := by decide +kernel
theorem dX6_lift_74 : decode cX6_lift 74 = .ok (.goto 4, 3) := by decide +kernel
theorem dX6_lift_77 : decode cX6_lift 77 = .ok (.iconst 0, 1) := by decide +kernel
theorem dX6_lift_78 : decode cX6_lift 78 = .ok (.istore 5, 2) := by decide +kernel
theorem dX6_lift_80 : decode cX6_lift 80 = .ok (.sipush 16384, 3) := by decide +kernel
theorem dX6_lift_83 : decode cX6_lift 83 = .ok (.iload_n 2, 1) := by decide +kernel
theorem dX6_lift_84 : decode cX6_lift 84 = .ok (.imul, 1) := by decide +kernel
theorem dX6_lift_85 : decode cX6_lift 85 = .ok (.iload 5, 2) := by decide +kernel
theorem dX6_lift_87 : decode cX6_lift 87 = .ok (.ifCond .eq 8, 3) := by decide +kernel
theorem dX6_lift_90 : decode cX6_lift 90 = .ok (.iload 4, 2) := by decide +kernel
theorem dX6_lift_92 : decode cX6_lift 92 = .ok (.goto 10, 3) := by decide +kernel
theorem dX6_lift_95 : decode cX6_lift 95 = .ok (.aload_n 0, 1) := by decide +kernel
theorem dX6_lift_96 : decode cX6_lift 96 = .ok (.getfield 47, 3) := by decide +kernel
theorem dX6_lift_99 : decode cX6_lift 99 = .ok (.iload 4, 2) := by decide +kernel
theorem dX6_lift_101 : decode cX6_lift 101 = .ok (.isub, 1) := by decide +kernel
theorem dX6_lift_102 : decode cX6_lift 102 = .ok (.iadd, 1) := by decide +kernel
theorem dX6_lift_103 : decode cX6_lift 103 = .ok (.ireturn, 1) := by decide +kernel
set_option maxRecDepth 20000 in
theorem ggX6_near_X6_has : GoodIn wsX6_near wsX6_has := goodIn_r _ [7, 8, 9, 10, 11, 12, 13, 6, 14, 15, 16, 17, 18, 19, 20, 21, 22, 23, 24, 25, 1, 26, 27, 2, 40, 41, 42, 43, 44, 45, 46, 47, 48, 49, 50, 51, 52, 53, 54, 55, 56, 57] (by decide +kernel) (by decide +kernel)
set_option maxRecDepth 20000 in
theorem gX6_near_X6_has : GoodIn wsX6_near (wsV RX6 132 RX6 yX6_has wsX6_has) := goodIn_app (goodIn_of _ (by decide +kernel)) ggX6_near_X6_has
set_option maxRecDepth 20000 in
theorem ggX6_near_X6_mod : GoodIn wsX6_near wsX6_mod := goodIn_r _ [31, 1, 40, 41, 42, 43, 44, 45, 46, 47, 48, 49, 50, 51, 52, 53, 54, 55, 56, 57] (by decide +kernel) (by decide +kernel)
set_option maxRecDepth 20000 in
theorem gX6_near_X6_mod : GoodIn wsX6_near (wsV RX6 67 RX6 yX6_mod wsX6_mod) := goodIn_app (goodIn_of _ (by decide +kernel)) ggX6_near_X6_mod
set_option maxRecDepth 20000 in
theorem ggX6_near_X6_right : GoodIn wsX6_near wsX6_right := goodIn_r _ [35, 19, 20, 36, 37, 38, 6, 39, 1, 28, 29, 30, 31, 40, 41, 42, 43, 44, 45, 46, 47, 48, 49, 50, 51, 52, 53, 54, 55, 56, 57] (by decide +kernel) (by decide +kernel)
set_option maxRecDepth 20000 in
theorem gX6_near_X6_right : GoodIn wsX6_near (wsV RX6 75 RX6 yX6_right wsX6_right) := goodIn_app (goodIn_of _ (by decide +kernel)) ggX6_near_X6_right
theorem dX6_near_11 : decode cX6_near 11 = .ok (.aload_n 0, 1) := by decide +kernel
theorem dX6_near_12 : decode cX6_near 12 = .ok (.iload_n 2, 1) := by decide +kernel
theorem dX6_near_13 : decode cX6_near 13 = .ok (.i2l, 1) := by decide +kernel
theorem dX6_near_14 : decode cX6_near 14 = .ok (.invokevirtual 67, 3) := by decide +kernel
theorem dX6_near_17 : decode cX6_near 17 = .ok (.istore_n 3, 1) := by decide +kernel
theorem dX6_near_18 : decode cX6_near 18 = .ok (.iconst 0, 1) := by decide +kernel
theorem dX6_near_19 : decode cX6_near 19 = .ok (.istore 4, 2) := by decide +kernel
theorem dX6_near_21 : decode cX6_near 21 = .ok (.iload 4, 2) := by decide +kernel
theorem dX6_near_23 : decode cX6_near 23 = .ok (.aload_n 0, 1) := by decide +kernel
theorem dX6_near_24 : decode cX6_near 24 = .ok (.getfield 47, 3) := by decide +kernel
theorem dX6_near_27 : decode cX6_near 27 = .ok (.if_icmp .ge 58, 3) := by decide +kernel
theorem dX6_near_30 : decode cX6_near 30 = .ok (.aload_n 0, 1) := by decide +kernel
theorem dX6_near_31 : decode cX6_near 31 = .ok (.getfield 13, 3) := by decide +kernel
theorem dX6_near_34 : decode cX6_near 34 = .ok (.aload_n 0, 1) := by decide +kernel
theorem dX6_near_35 : decode cX6_near 35 = .ok (.iload_n 3, 1) := by decide +kernel
theorem dX6_near_36 : decode cX6_near 36 = .ok (.invokevirtual 75, 3) := by decide +kernel
theorem dX6_near_39 : decode cX6_near 39 = .ok (.iaload, 1) := by decide +kernel
theorem dX6_near_40 : decode cX6_near 40 = .ok (.iconst (-1), 1) := by decide +kernel
theorem dX6_near_41 : decode cX6_near 41 = .ok (.if_icmp .eq 20, 3) := by decide +kernel
theorem dX6_near_44 : decode cX6_near 44 = .ok (.sipush 16384, 3) := by decide +kernel
theorem dX6_near_47 : decode cX6_near 47 = .ok (.iload_n 3, 1) := by decide +kernel
theorem dX6_near_48 : decode cX6_near 48 = .ok (.imul, 1) := by decide +kernel
theorem dX6_near_49 : decode cX6_near 49 = .ok (.aload_n 0, 1) := by decide +kernel
theorem dX6_near_50 : decode cX6_near 50 = .ok (.getfield 13, 3) := by decide +kernel
theorem dX6_near_53 : decode cX6_near 53 = .ok (.aload_n 0, 1) := by decide +kernel
theorem dX6_near_54 : decode cX6_near 54 = .ok (.iload_n 3, 1) := by decide +kernel
theorem dX6_near_55 : decode cX6_near 55 = .ok (.invokevirtual 75, 3) := by decide +kernel
theorem dX6_near_58 : decode cX6_near 58 = .ok (.iaload, 1) := by decide +kernel
theorem dX6_near_59 : decode cX6_near 59 = .ok (.iadd, 1) := by decide +kernel
theorem dX6_near_60 : decode cX6_near 60 = .ok (.ireturn, 1) := by decide +kernel
theorem dX6_near_61 : decode cX6_near 61 = .ok (.iload_n 3, 1) := by decide +kernel
theorem dX6_near_62 : decode cX6_near 62 = .ok (.iconst 1, 1) := by decide +kernel
theorem dX6_near_63 : decode cX6_near 63 = .ok (.iadd, 1) := by decide +kernel
theorem dX6_near_64 : decode cX6_near 64 = .ok (.aload_n 0, 1) := by decide +kernel
theorem dX6_near_65 : decode cX6_near 65 = .ok (.getfield 47, 3) := by decide +kernel
theorem dX6_near_68 : decode cX6_near 68 = .ok (.if_icmp .ne 7, 3) := by decide +kernel
theorem dX6_near_71 : decode cX6_near 71 = .ok (.iconst 0, 1) := by decide +kernel
theorem dX6_near_72 : decode cX6_near 72 = .ok (.goto 6, 3) := by decide +kernel
theorem dX6_near_75 : decode cX6_near 75 = .ok (.iload_n 3, 1) := by decide +kernel
theorem dX6_near_76 : decode cX6_near 76 = .ok (.iconst 1, 1) := by decide +kernel
theorem dX6_near_77 : decode cX6_near 77 = .ok (.iadd, 1) := by decide +kernel
theorem dX6_near_78 : decode cX6_near 78 = .ok (.istore_n 3, 1) := by decide +kernel
theorem dX6_near_79 : decode cX6_near 79 = .ok (.iinc 4 1, 3) := by decide +kernel
theorem dX6_near_82 : decode cX6_near 82 = .ok (.goto (-61), 3) := by decide +kernel
theorem dX6_near_85 : decode cX6_near 85 = .ok (.iconst (-1), 1) := by decide +kernel
theorem dX6_near_86 : decode cX6_near 86 = .ok (.ireturn, 1) := by decide +kernel
set_option maxRecDepth 20000 in
theorem ggX6_nth_X6_has : GoodIn wsX6_nth wsX6_has := goodIn_r _ [7, 8, 9, 10, 11, 12, 13, 6, 14, 15, 16, 17, 18, 19, 20, 1, 21, 22, 23, 24, 25, 26, 27, 28, 46, 47, 48, 49, 50, 51, 52, 53, 54, 55, 56, 57, 58, 59, 60, 61, 62, 63] (by decide +kernel) (by decide +kernel)
set_option maxRecDepth 20000 in
theorem gX6_nth_X6_has : GoodIn wsX6_nth (wsV RX6 132 RX6 yX6_has wsX6_has) := goodIn_app (goodIn_of _ (by decide +kernel)) ggX6_nth_X6_has
set_option maxRecDepth 20000 in
theorem ggX6_nth_X6_list : GoodIn wsX6_nth wsX6_list := goodIn_r _ [32, 1, 2, 25, 33, 28, 34, 35, 36, 6, 37, 19, 20, 38, 39, 40, 41, 42, 43, 44, 45, 46, 47, 48, 49, 50, 51, 52, 53, 54, 55, 56, 57, 58, 59, 60, 61, 62, 63] (by decide +kernel) (by decide +kernel)
set_option maxRecDepth 20000 in
theorem gX6_nth_X6_list : GoodIn wsX6_nth (wsV RX6 89 RX6 yX6_list wsX6_list) := goodIn_app (goodIn_of _ (by decide +kernel)) ggX6_nth_X6_list
set_option maxRecDepth 20000 in
theorem ggX6_nth_X6_in : GoodIn wsX6_nth wsX6_in := goodIn_r _ [14] (by decide +kernel) (by decide +kernel)
set_option maxRecDepth 20000 in
theorem gX6_nth_X6_in : GoodIn wsX6_nth (va_wsS RX6 100 yX6_in wsX6_in) := goodIn_app (goodIn_of _ (by decide +kernel)) ggX6_nth_X6_in
theorem dX6_nth_11 : decode cX6_nth 11 = .ok (.aload_n 0, 1) := by decide +kernel
theorem dX6_nth_12 : decode cX6_nth 12 = .ok (.invokevirtual 89, 3) := by decide +kernel
theorem dX6_nth_15 : decode cX6_nth 15 = .ok (.iload_n 2, 1) := by decide +kernel
theorem dX6_nth_16 : decode cX6_nth 16 = .ok (.i2l, 1) := by decide +kernel
theorem dX6_nth_17 : decode cX6_nth 17 = .ok (.lconst 0, 1) := by decide +kernel
theorem dX6_nth_18 : decode cX6_nth 18 = .ok (.aload_n 0, 1) := by decide +kernel
theorem dX6_nth_19 : decode cX6_nth 19 = .ok (.getfield 54, 3) := by decide +kernel
theorem dX6_nth_22 : decode cX6_nth 22 = .ok (.iconst 1, 1) := by decide +kernel
theorem dX6_nth_23 : decode cX6_nth 23 = .ok (.isub, 1) := by decide +kernel
theorem dX6_nth_24 : decode cX6_nth 24 = .ok (.i2l, 1) := by decide +kernel
theorem dX6_nth_25 : decode cX6_nth 25 = .ok (.invokestatic 100, 3) := by decide +kernel
theorem dX6_nth_28 : decode cX6_nth 28 = .ok (.ifCond .eq 12, 3) := by decide +kernel
theorem dX6_nth_31 : decode cX6_nth 31 = .ok (.aload_n 0, 1) := by decide +kernel
theorem dX6_nth_32 : decode cX6_nth 32 = .ok (.getfield 16, 3) := by decide +kernel
theorem dX6_nth_35 : decode cX6_nth 35 = .ok (.iload_n 2, 1) := by decide +kernel
theorem dX6_nth_36 : decode cX6_nth 36 = .ok (.iaload, 1) := by decide +kernel
theorem dX6_nth_37 : decode cX6_nth 37 = .ok (.goto 4, 3) := by decide +kernel
theorem dX6_nth_40 : decode cX6_nth 40 = .ok (.iconst (-1), 1) := by decide +kernel
theorem dX6_nth_41 : decode cX6_nth 41 = .ok (.ireturn, 1) := by decide +kernel
set_option maxRecDepth 20000 in
theorem ggX6_rank_X6_has : GoodIn wsX6_rank wsX6_has := goodIn_r _ [6, 7, 8, 9, 10, 11, 12, 5, 13, 14, 15, 16, 17, 18, 19, 20, 21, 22, 23, 24, 25, 26, 27, 28, 50, 51, 52, 53, 54, 55, 56, 57, 58, 59, 60, 61, 62, 63, 64, 65, 66, 67] (by decide +kernel) (by decide +kernel)
set_option maxRecDepth 20000 in
theorem gX6_rank_X6_has : GoodIn wsX6_rank (wsV RX6 132 RX6 yX6_has wsX6_has) := goodIn_app (goodIn_of _ (by decide +kernel)) ggX6_rank_X6_has
set_option maxRecDepth 20000 in
theorem ggX6_rank_X6_isPoint : GoodIn wsX6_rank wsX6_isPoint := goodIn_r _ [32, 25, 33, 34, 35, 5, 36, 37, 38, 39, 40, 18, 19, 41, 42, 43, 44, 50, 51, 52, 53, 54, 55, 56, 57, 58, 59, 60, 61, 62, 63, 64, 65, 66, 67] (by decide +kernel) (by decide +kernel)
set_option maxRecDepth 20000 in
theorem gX6_rank_X6_isPoint : GoodIn wsX6_rank (wsV RX6 151 RX6 yX6_isPoint wsX6_isPoint) := goodIn_app (goodIn_of _ (by decide +kernel)) ggX6_rank_X6_isPoint
set_option maxRecDepth 20000 in
theorem ggX6_rank_X6_list : GoodIn wsX6_rank wsX6_list := goodIn_r _ [48, 20, 1, 25, 49, 28, 37, 38, 39, 5, 40, 18, 19, 33, 34, 35, 36, 41, 42, 43, 44, 50, 51, 52, 53, 54, 55, 56, 57, 58, 59, 60, 61, 62, 63, 64, 65, 66, 67] (by decide +kernel) (by decide +kernel)
set_option maxRecDepth 20000 in
theorem gX6_rank_X6_list : GoodIn wsX6_rank (wsV RX6 89 RX6 yX6_list wsX6_list) := goodIn_app (goodIn_of _ (by decide +kernel)) ggX6_rank_X6_list
theorem dX6_rank_8 : decode cX6_rank 8 = .ok (.aload_n 0, 1) := by decide +kernel
theorem dX6_rank_9 : decode cX6_rank 9 = .ok (.iload_n 2, 1) := by decide +kernel
theorem dX6_rank_10 : decode cX6_rank 10 = .ok (.invokevirtual 151, 3) := by decide +kernel
theorem dX6_rank_13 : decode cX6_rank 13 = .ok (.ifCond .ne 6, 3) := by decide +kernel
theorem dX6_rank_19 : decode cX6_rank 19 = .ok (.aload_n 0, 1) := by decide +kernel
theorem dX6_rank_20 : decode cX6_rank 20 = .ok (.invokevirtual 89, 3) := by decide +kernel
theorem dX6_rank_23 : decode cX6_rank 23 = .ok (.iconst 0, 1) := by decide +kernel
theorem dX6_rank_24 : decode cX6_rank 24 = .ok (.istore_n 3, 1) := by decide +kernel
theorem dX6_rank_25 : decode cX6_rank 25 = .ok (.aload_n 0, 1) := by decide +kernel
theorem dX6_rank_26 : decode cX6_rank 26 = .ok (.getfield 16, 3) := by decide +kernel
theorem dX6_rank_29 : decode cX6_rank 29 = .ok (.iload_n 3, 1) := by decide +kernel
theorem dX6_rank_30 : decode cX6_rank 30 = .ok (.iaload, 1) := by decide +kernel
theorem dX6_rank_31 : decode cX6_rank 31 = .ok (.iload_n 2, 1) := by decide +kernel
theorem dX6_rank_32 : decode cX6_rank 32 = .ok (.if_icmp .eq 9, 3) := by decide +kernel
theorem dX6_rank_35 : decode cX6_rank 35 = .ok (.iinc 3 1, 3) := by decide +kernel
theorem dX6_rank_38 : decode cX6_rank 38 = .ok (.goto (-13), 3) := by decide +kernel
theorem dX6_rank_41 : decode cX6_rank 41 = .ok (.iload_n 3, 1) := by decide +kernel
theorem dX6_rank_42 : decode cX6_rank 42 = .ok (.ireturn, 1) := by decide +kernel
set_option maxRecDepth 20000 in
theorem ggX6_add_X6_has : GoodIn wsX6_add wsX6_has := goodIn_r _ [5, 6, 7, 8, 9, 10, 11, 4, 12, 13, 14, 15, 16, 17, 18, 19, 20, 21, 22, 23, 24, 25, 26, 27, 50, 51, 52, 53, 54, 55, 56, 57, 58, 59, 60, 61, 62, 63, 64, 65, 66, 67] (by decide +kernel) (by decide +kernel)
set_option maxRecDepth 20000 in
theorem gX6_add_X6_has : GoodIn wsX6_add (wsV RX6 132 RX6 yX6_has wsX6_has) := goodIn_app (goodIn_of _ (by decide +kernel)) ggX6_add_X6_has
set_option maxRecDepth 20000 in
theorem ggX6_add_X6_isPoint : GoodIn wsX6_add wsX6_isPoint := goodIn_r _ [31, 24, 32, 33, 34, 4, 35, 36, 37, 38, 39, 17, 18, 40, 41, 42, 43, 50, 51, 52, 53, 54, 55, 56, 57, 58, 59, 60, 61, 62, 63, 64, 65, 66, 67] (by decide +kernel) (by decide +kernel)
set_option maxRecDepth 20000 in
theorem gX6_add_X6_isPoint : GoodIn wsX6_add (wsV RX6 151 RX6 yX6_isPoint wsX6_isPoint) := goodIn_app (goodIn_of _ (by decide +kernel)) ggX6_add_X6_isPoint
set_option maxRecDepth 20000 in
theorem ggX6_add_X6_sum : GoodIn wsX6_add wsX6_sum := goodIn_r _ [47, 24, 48, 17, 26, 49, 32, 33, 34, 4, 35, 40, 41, 42, 43, 50, 51, 52, 53, 54, 55, 56, 57, 58, 59, 60, 61, 62, 63, 64, 65, 66, 67] (by decide +kernel) (by decide +kernel)
set_option maxRecDepth 20000 in
theorem gX6_add_X6_sum : GoodIn wsX6_add (wsV RX6 86 RX6 yX6_sum wsX6_sum) := goodIn_app (goodIn_of _ (by decide +kernel)) ggX6_add_X6_sum
theorem dX6_add_8 : decode cX6_add 8 = .ok (.aload_n 0, 1) := by decide +kernel
theorem dX6_add_9 : decode cX6_add 9 = .ok (.iload_n 2, 1) := by decide +kernel
theorem dX6_add_10 : decode cX6_add 10 = .ok (.invokevirtual 151, 3) := by decide +kernel
theorem dX6_add_13 : decode cX6_add 13 = .ok (.ifCond .eq 20, 3) := by decide +kernel
theorem dX6_add_16 : decode cX6_add 16 = .ok (.aload_n 0, 1) := by decide +kernel
theorem dX6_add_17 : decode cX6_add 17 = .ok (.iload_n 3, 1) := by decide +kernel
theorem dX6_add_18 : decode cX6_add 18 = .ok (.invokevirtual 151, 3) := by decide +kernel
theorem dX6_add_21 : decode cX6_add 21 = .ok (.ifCond .eq 12, 3) := by decide +kernel
theorem dX6_add_24 : decode cX6_add 24 = .ok (.aload_n 0, 1) := by decide +kernel
theorem dX6_add_25 : decode cX6_add 25 = .ok (.iload_n 2, 1) := by decide +kernel
theorem dX6_add_26 : decode cX6_add 26 = .ok (.iload_n 3, 1) := by decide +kernel
theorem dX6_add_27 : decode cX6_add 27 = .ok (.invokevirtual 86, 3) := by decide +kernel
theorem dX6_add_30 : decode cX6_add 30 = .ok (.goto 5, 3) := by decide +kernel
set_option maxRecDepth 20000 in
theorem ggX6_negative_X6_has : GoodIn wsX6_negative wsX6_has := goodIn_r _ [5, 6, 7, 8, 9, 10, 11, 4, 12, 13, 14, 15, 16, 17, 18, 19, 20, 21, 22, 23, 24, 25, 26, 27, 48, 49, 50, 51, 52, 53, 54, 55, 56, 57, 58, 59, 60, 61, 62, 63, 64, 65] (by decide +kernel) (by decide +kernel)
set_option maxRecDepth 20000 in
theorem gX6_negative_X6_has : GoodIn wsX6_negative (wsV RX6 132 RX6 yX6_has wsX6_has) := goodIn_app (goodIn_of _ (by decide +kernel)) ggX6_negative_X6_has
set_option maxRecDepth 20000 in
theorem ggX6_negative_X6_isPoint : GoodIn wsX6_negative wsX6_isPoint := goodIn_r _ [31, 24, 32, 33, 34, 4, 35, 36, 37, 38, 39, 17, 18, 40, 41, 42, 43, 48, 49, 50, 51, 52, 53, 54, 55, 56, 57, 58, 59, 60, 61, 62, 63, 64, 65] (by decide +kernel) (by decide +kernel)
set_option maxRecDepth 20000 in
theorem gX6_negative_X6_isPoint : GoodIn wsX6_negative (wsV RX6 151 RX6 yX6_isPoint wsX6_isPoint) := goodIn_app (goodIn_of _ (by decide +kernel)) ggX6_negative_X6_isPoint
set_option maxRecDepth 20000 in
theorem ggX6_negative_X6_negativeOf : GoodIn wsX6_negative wsX6_negativeOf := goodIn_r _ [47, 24, 48, 49, 50, 51, 52, 53, 54, 55, 56, 57, 58, 59, 60, 61, 62, 63, 64, 65] (by decide +kernel) (by decide +kernel)
set_option maxRecDepth 20000 in
theorem gX6_negative_X6_negativeOf : GoodIn wsX6_negative (wsV RX6 83 RX6 yX6_negativeOf wsX6_negativeOf) := goodIn_app (goodIn_of _ (by decide +kernel)) ggX6_negative_X6_negativeOf
theorem dX6_negative_8 : decode cX6_negative 8 = .ok (.aload_n 0, 1) := by decide +kernel
theorem dX6_negative_9 : decode cX6_negative 9 = .ok (.iload_n 2, 1) := by decide +kernel
theorem dX6_negative_10 : decode cX6_negative 10 = .ok (.invokevirtual 151, 3) := by decide +kernel
theorem dX6_negative_13 : decode cX6_negative 13 = .ok (.ifCond .eq 11, 3) := by decide +kernel
theorem dX6_negative_16 : decode cX6_negative 16 = .ok (.aload_n 0, 1) := by decide +kernel
theorem dX6_negative_17 : decode cX6_negative 17 = .ok (.iload_n 2, 1) := by decide +kernel
theorem dX6_negative_18 : decode cX6_negative 18 = .ok (.invokevirtual 83, 3) := by decide +kernel
theorem dX6_negative_21 : decode cX6_negative 21 = .ok (.goto 5, 3) := by decide +kernel
set_option maxRecDepth 20000 in
theorem ggX6_times_X6_has : GoodIn wsX6_times wsX6_has := goodIn_r _ [5, 6, 7, 8, 9, 10, 11, 4, 12, 13, 14, 15, 16, 17, 18, 19, 20, 21, 22, 23, 24, 25, 26, 27, 58, 59, 60, 61, 62, 63, 64, 65, 66, 67, 68, 69, 70, 71, 72, 73, 74, 75] (by decide +kernel) (by decide +kernel)
set_option maxRecDepth 20000 in
theorem gX6_times_X6_has : GoodIn wsX6_times (wsV RX6 132 RX6 yX6_has wsX6_has) := goodIn_app (goodIn_of _ (by decide +kernel)) ggX6_times_X6_has
set_option maxRecDepth 20000 in
theorem ggX6_times_X6_isPoint : GoodIn wsX6_times wsX6_isPoint := goodIn_r _ [31, 24, 32, 33, 34, 4, 35, 36, 37, 38, 39, 17, 18, 40, 41, 42, 43, 58, 59, 60, 61, 62, 63, 64, 65, 66, 67, 68, 69, 70, 71, 72, 73, 74, 75] (by decide +kernel) (by decide +kernel)
set_option maxRecDepth 20000 in
theorem gX6_times_X6_isPoint : GoodIn wsX6_times (wsV RX6 151 RX6 yX6_isPoint wsX6_isPoint) := goodIn_app (goodIn_of _ (by decide +kernel)) ggX6_times_X6_isPoint
set_option maxRecDepth 20000 in
theorem ggX6_times_X6_multiple : GoodIn wsX6_times wsX6_multiple := goodIn_r _ [47, 48, 49, 50, 51, 4, 52, 24, 53, 54, 55, 56, 57, 17, 26, 32, 33, 34, 35, 40, 41, 42, 43, 58, 59, 60, 61, 62, 63, 64, 65, 66, 67, 68, 69, 70, 71, 72, 73, 74, 75] (by decide +kernel) (by decide +kernel)
set_option maxRecDepth 20000 in
theorem gX6_times_X6_multiple : GoodIn wsX6_times (wsV RX6 92 RX6 yX6_multiple wsX6_multiple) := goodIn_app (goodIn_of _ (by decide +kernel)) ggX6_times_X6_multiple
theorem dX6_times_8 : decode cX6_times 8 = .ok (.aload_n 0, 1) := by decide +kernel
theorem dX6_times_9 : decode cX6_times 9 = .ok (.iload_n 2, 1) := by decide +kernel
theorem dX6_times_10 : decode cX6_times 10 = .ok (.invokevirtual 151, 3) := by decide +kernel
theorem dX6_times_13 : decode cX6_times 13 = .ok (.ifCond .eq 12, 3) := by decide +kernel
theorem dX6_times_16 : decode cX6_times 16 = .ok (.aload_n 0, 1) := by decide +kernel
theorem dX6_times_17 : decode cX6_times 17 = .ok (.iload_n 2, 1) := by decide +kernel
theorem dX6_times_18 : decode cX6_times 18 = .ok (.lload_n 3, 1) := by decide +kernel
theorem dX6_times_19 : decode cX6_times 19 = .ok (.invokevirtual 92, 3) := by decide +kernel
theorem dX6_times_22 : decode cX6_times 22 = .ok (.goto 5, 3) := by decide +kernel
set_option maxRecDepth 20000 in
theorem ggX6_alone_X6_has : GoodIn wsX6_alone wsX6_has := goodIn_r _ [8, 9, 10, 11, 12, 13, 14, 7, 15, 16, 17, 18, 19, 20, 21, 22, 23, 24, 25, 26, 1, 27, 3, 2, 62, 63, 64, 65, 66, 67, 68, 69, 70, 71, 72, 73, 74, 75, 76, 77, 78, 79] (by decide +kernel) (by decide +kernel)
set_option maxRecDepth 20000 in
theorem gX6_alone_X6_has : GoodIn wsX6_alone (wsV RX6 132 RX6 yX6_has wsX6_has) := goodIn_app (goodIn_of _ (by decide +kernel)) ggX6_alone_X6_has
set_option maxRecDepth 20000 in
theorem ggX6_alone_X6_in : GoodIn wsX6_alone wsX6_in := goodIn_r _ [15] (by decide +kernel) (by decide +kernel)
set_option maxRecDepth 20000 in
theorem gX6_alone_X6_in : GoodIn wsX6_alone (va_wsS RX6 100 yX6_in wsX6_in) := goodIn_app (goodIn_of _ (by decide +kernel)) ggX6_alone_X6_in
set_option maxRecDepth 20000 in
theorem ggX6_alone_X6_right : GoodIn wsX6_alone wsX6_right := goodIn_r _ [31, 20, 21, 32, 33, 34, 7, 35, 1, 36, 37, 38, 39, 62, 63, 64, 65, 66, 67, 68, 69, 70, 71, 72, 73, 74, 75, 76, 77, 78, 79] (by decide +kernel) (by decide +kernel)
set_option maxRecDepth 20000 in
theorem gX6_alone_X6_right : GoodIn wsX6_alone (wsV RX6 75 RX6 yX6_right wsX6_right) := goodIn_app (goodIn_of _ (by decide +kernel)) ggX6_alone_X6_right
set_option maxRecDepth 20000 in
theorem ggX6_alone_X6_multiple : GoodIn wsX6_alone wsX6_multiple := goodIn_r _ [43, 44, 45, 46, 47, 7, 48, 1, 49, 50, 51, 52, 53, 20, 3, 32, 33, 34, 35, 36, 37, 38, 39, 62, 63, 64, 65, 66, 67, 68, 69, 70, 71, 72, 73, 74, 75, 76, 77, 78, 79] (by decide +kernel) (by decide +kernel)
set_option maxRecDepth 20000 in
theorem gX6_alone_X6_multiple : GoodIn wsX6_alone (wsV RX6 92 RX6 yX6_multiple wsX6_multiple) := goodIn_app (goodIn_of _ (by decide +kernel)) ggX6_alone_X6_multiple
set_option maxRecDepth 20000 in
theorem ggX6_alone_X6_noSquare : GoodIn wsX6_alone wsX6_noSquare := goodIn_r _ [57, 2, 62, 63, 64, 65, 66, 67, 68, 69, 70, 71, 72, 73, 74, 75, 76, 77, 78, 79] (by decide +kernel) (by decide +kernel)
set_option maxRecDepth 20000 in
theorem gX6_alone_X6_noSquare : GoodIn wsX6_alone (wsV RX6 140 RX6 yX6_noSquare wsX6_noSquare) := goodIn_app (goodIn_of _ (by decide +kernel)) ggX6_alone_X6_noSquare
set_option maxRecDepth 20000 in
theorem ggX6_alone_X6_turn : GoodIn wsX6_alone wsX6_turn := goodIn_r _ [61, 1, 20, 21, 54, 55, 56, 7, 57, 2, 32, 33, 34, 35, 16, 17, 18, 19, 22, 23, 24, 25, 26, 27, 3, 62, 63, 64, 65, 66, 67, 68, 69, 70, 71, 72, 73, 74, 75, 76, 77, 78, 79] (by decide +kernel) (by decide +kernel)
set_option maxRecDepth 20000 in
theorem gX6_alone_X6_turn : GoodIn wsX6_alone (wsV RX6 148 RX6 yX6_turn wsX6_turn) := goodIn_app (goodIn_of _ (by decide +kernel)) ggX6_alone_X6_turn
set_option maxRecDepth 20000 in
theorem ggX6_alone_X6_mul : GoodIn wsX6_alone wsX6_mul := goodIn_r _ [35, 1, 62, 63, 64, 65, 66, 67, 68, 69, 70, 71, 72, 73, 74, 75, 76, 77, 78, 79] (by decide +kernel) (by decide +kernel)
set_option maxRecDepth 20000 in
theorem gX6_alone_X6_mul : GoodIn wsX6_alone (wsV RX6 57 RX6 yX6_mul wsX6_mul) := goodIn_app (goodIn_of _ (by decide +kernel)) ggX6_alone_X6_mul
theorem dX6_alone_8 : decode cX6_alone 8 = .ok (.iload_n 2, 1) := by decide +kernel
theorem dX6_alone_9 : decode cX6_alone 9 = .ok (.i2l, 1) := by decide +kernel
theorem dX6_alone_10 : decode cX6_alone 10 = .ok (.lconst 0, 1) := by decide +kernel
theorem dX6_alone_11 : decode cX6_alone 11 = .ok (.aload_n 0, 1) := by decide +kernel
theorem dX6_alone_12 : decode cX6_alone 12 = .ok (.getfield 47, 3) := by decide +kernel
theorem dX6_alone_15 : decode cX6_alone 15 = .ok (.iconst 1, 1) := by decide +kernel
theorem dX6_alone_16 : decode cX6_alone 16 = .ok (.isub, 1) := by decide +kernel
theorem dX6_alone_17 : decode cX6_alone 17 = .ok (.i2l, 1) := by decide +kernel
theorem dX6_alone_18 : decode cX6_alone 18 = .ok (.invokestatic 100, 3) := by decide +kernel
theorem dX6_alone_21 : decode cX6_alone 21 = .ok (.ifCond .ne 6, 3) := by decide +kernel
theorem dX6_alone_27 : decode cX6_alone 27 = .ok (.aload_n 0, 1) := by decide +kernel
theorem dX6_alone_28 : decode cX6_alone 28 = .ok (.getfield 13, 3) := by decide +kernel
theorem dX6_alone_31 : decode cX6_alone 31 = .ok (.aload_n 0, 1) := by decide +kernel
theorem dX6_alone_32 : decode cX6_alone 32 = .ok (.iload_n 2, 1) := by decide +kernel
theorem dX6_alone_33 : decode cX6_alone 33 = .ok (.invokevirtual 75, 3) := by decide +kernel
theorem dX6_alone_36 : decode cX6_alone 36 = .ok (.iaload, 1) := by decide +kernel
theorem dX6_alone_37 : decode cX6_alone 37 = .ok (.istore 5, 2) := by decide +kernel
theorem dX6_alone_39 : decode cX6_alone 39 = .ok (.iload 5, 2) := by decide +kernel
theorem dX6_alone_41 : decode cX6_alone 41 = .ok (.iconst (-1), 1) := by decide +kernel
theorem dX6_alone_42 : decode cX6_alone 42 = .ok (.if_icmp .eq 35, 3) := by decide +kernel
theorem dX6_alone_45 : decode cX6_alone 45 = .ok (.aload_n 0, 1) := by decide +kernel
theorem dX6_alone_46 : decode cX6_alone 46 = .ok (.sipush 16384, 3) := by decide +kernel
theorem dX6_alone_49 : decode cX6_alone 49 = .ok (.iload_n 2, 1) := by decide +kernel
theorem dX6_alone_50 : decode cX6_alone 50 = .ok (.imul, 1) := by decide +kernel
theorem dX6_alone_51 : decode cX6_alone 51 = .ok (.iload 5, 2) := by decide +kernel
theorem dX6_alone_53 : decode cX6_alone 53 = .ok (.iadd, 1) := by decide +kernel
theorem dX6_alone_54 : decode cX6_alone 54 = .ok (.lload_n 3, 1) := by decide +kernel
theorem dX6_alone_55 : decode cX6_alone 55 = .ok (.invokevirtual 92, 3) := by decide +kernel
theorem dX6_alone_58 : decode cX6_alone 58 = .ok (.istore 6, 2) := by decide +kernel
theorem dX6_alone_60 : decode cX6_alone 60 = .ok (.iload 6, 2) := by decide +kernel
theorem dX6_alone_62 : decode cX6_alone 62 = .ok (.iconst (-1), 1) := by decide +kernel
theorem dX6_alone_63 : decode cX6_alone 63 = .ok (.if_icmp .ne 7, 3) := by decide +kernel
theorem dX6_alone_66 : decode cX6_alone 66 = .ok (.iconst (-1), 1) := by decide +kernel
theorem dX6_alone_67 : decode cX6_alone 67 = .ok (.goto 9, 3) := by decide +kernel
theorem dX6_alone_70 : decode cX6_alone 70 = .ok (.iload 6, 2) := by decide +kernel
theorem dX6_alone_72 : decode cX6_alone 72 = .ok (.sipush 16384, 3) := by decide +kernel
theorem dX6_alone_75 : decode cX6_alone 75 = .ok (.idiv, 1) := by decide +kernel
theorem dX6_alone_76 : decode cX6_alone 76 = .ok (.ireturn, 1) := by decide +kernel
theorem dX6_alone_77 : decode cX6_alone 77 = .ok (.aload_n 0, 1) := by decide +kernel
theorem dX6_alone_78 : decode cX6_alone 78 = .ok (.invokevirtual 140, 3) := by decide +kernel
theorem dX6_alone_81 : decode cX6_alone 81 = .ok (.istore 6, 2) := by decide +kernel
theorem dX6_alone_83 : decode cX6_alone 83 = .ok (.aload_n 0, 1) := by decide +kernel
theorem dX6_alone_84 : decode cX6_alone 84 = .ok (.invokevirtual 148, 3) := by decide +kernel
theorem dX6_alone_87 : decode cX6_alone 87 = .ok (.aload_n 0, 1) := by decide +kernel
theorem dX6_alone_88 : decode cX6_alone 88 = .ok (.sipush 16384, 3) := by decide +kernel
theorem dX6_alone_91 : decode cX6_alone 91 = .ok (.aload_n 0, 1) := by decide +kernel
theorem dX6_alone_92 : decode cX6_alone 92 = .ok (.iload 6, 2) := by decide +kernel
theorem dX6_alone_94 : decode cX6_alone 94 = .ok (.iload_n 2, 1) := by decide +kernel
theorem dX6_alone_95 : decode cX6_alone 95 = .ok (.invokevirtual 57, 3) := by decide +kernel
theorem dX6_alone_98 : decode cX6_alone 98 = .ok (.imul, 1) := by decide +kernel
theorem dX6_alone_99 : decode cX6_alone 99 = .ok (.aload_n 0, 1) := by decide +kernel
theorem dX6_alone_100 : decode cX6_alone 100 = .ok (.getfield 13, 3) := by decide +kernel
theorem dX6_alone_103 : decode cX6_alone 103 = .ok (.aload_n 0, 1) := by decide +kernel
theorem dX6_alone_104 : decode cX6_alone 104 = .ok (.aload_n 0, 1) := by decide +kernel
theorem dX6_alone_105 : decode cX6_alone 105 = .ok (.iload 6, 2) := by decide +kernel
theorem dX6_alone_107 : decode cX6_alone 107 = .ok (.iload_n 2, 1) := by decide +kernel
theorem dX6_alone_108 : decode cX6_alone 108 = .ok (.invokevirtual 57, 3) := by decide +kernel
theorem dX6_alone_111 : decode cX6_alone 111 = .ok (.invokevirtual 75, 3) := by decide +kernel
theorem dX6_alone_114 : decode cX6_alone 114 = .ok (.iaload, 1) := by decide +kernel
theorem dX6_alone_115 : decode cX6_alone 115 = .ok (.iadd, 1) := by decide +kernel
theorem dX6_alone_116 : decode cX6_alone 116 = .ok (.lload_n 3, 1) := by decide +kernel
theorem dX6_alone_117 : decode cX6_alone 117 = .ok (.invokevirtual 92, 3) := by decide +kernel
theorem dX6_alone_120 : decode cX6_alone 120 = .ok (.istore 7, 2) := by decide +kernel
theorem dX6_alone_122 : decode cX6_alone 122 = .ok (.iload 7, 2) := by decide +kernel
theorem dX6_alone_124 : decode cX6_alone 124 = .ok (.iconst (-1), 1) := by decide +kernel
theorem dX6_alone_125 : decode cX6_alone 125 = .ok (.if_icmp .ne 7, 3) := by decide +kernel
theorem dX6_alone_128 : decode cX6_alone 128 = .ok (.iconst (-1), 1) := by decide +kernel
theorem dX6_alone_129 : decode cX6_alone 129 = .ok (.goto 20, 3) := by decide +kernel
theorem dX6_alone_132 : decode cX6_alone 132 = .ok (.aload_n 0, 1) := by decide +kernel
theorem dX6_alone_133 : decode cX6_alone 133 = .ok (.iload 7, 2) := by decide +kernel
theorem dX6_alone_135 : decode cX6_alone 135 = .ok (.sipush 16384, 3) := by decide +kernel
theorem dX6_alone_138 : decode cX6_alone 138 = .ok (.idiv, 1) := by decide +kernel
theorem dX6_alone_139 : decode cX6_alone 139 = .ok (.aload_n 0, 1) := by decide +kernel
theorem dX6_alone_140 : decode cX6_alone 140 = .ok (.getfield 7, 3) := by decide +kernel
theorem dX6_alone_143 : decode cX6_alone 143 = .ok (.iload 6, 2) := by decide +kernel
theorem dX6_alone_145 : decode cX6_alone 145 = .ok (.iaload, 1) := by decide +kernel
theorem dX6_alone_146 : decode cX6_alone 146 = .ok (.invokevirtual 57, 3) := by decide +kernel
theorem dX6_alone_149 : decode cX6_alone 149 = .ok (.ireturn, 1) := by decide +kernel
set_option maxRecDepth 20000 in
theorem ggX6_count_X6_has : GoodIn wsX6_count wsX6_has := goodIn_r _ [6, 7, 8, 9, 10, 11, 12, 5, 13, 14, 15, 16, 17, 18, 19, 1, 20, 21, 22, 23, 24, 25, 26, 27, 46, 47, 48, 49, 50, 51, 52, 53, 54, 55, 56, 57, 58, 59, 60, 61, 62, 63] (by decide +kernel) (by decide +kernel)
set_option maxRecDepth 20000 in
theorem gX6_count_X6_has : GoodIn wsX6_count (wsV RX6 132 RX6 yX6_has wsX6_has) := goodIn_app (goodIn_of _ (by decide +kernel)) ggX6_count_X6_has
set_option maxRecDepth 20000 in
theorem ggX6_count_X6_list : GoodIn wsX6_count wsX6_list := goodIn_r _ [31, 1, 32, 24, 33, 27, 34, 35, 36, 5, 37, 18, 19, 38, 39, 40, 41, 42, 43, 44, 45, 46, 47, 48, 49, 50, 51, 52, 53, 54, 55, 56, 57, 58, 59, 60, 61, 62, 63] (by decide +kernel) (by decide +kernel)
set_option maxRecDepth 20000 in
theorem gX6_count_X6_list : GoodIn wsX6_count (wsV RX6 89 RX6 yX6_list wsX6_list) := goodIn_app (goodIn_of _ (by decide +kernel)) ggX6_count_X6_list
theorem dX6_count_11 : decode cX6_count 11 = .ok (.aload_n 0, 1) := by decide +kernel
theorem dX6_count_12 : decode cX6_count 12 = .ok (.invokevirtual 89, 3) := by decide +kernel
theorem dX6_count_15 : decode cX6_count 15 = .ok (.aload_n 0, 1) := by decide +kernel
theorem dX6_count_16 : decode cX6_count 16 = .ok (.getfield 54, 3) := by decide +kernel
theorem dX6_count_19 : decode cX6_count 19 = .ok (.ireturn, 1) := by decide +kernel
set_option maxRecDepth 20000 in
theorem ggX6_countOver_X6_has : GoodIn wsX6_countOver wsX6_has := goodIn_r _ [10, 11, 12, 13, 14, 15, 16, 9, 17, 18, 19, 20, 21, 22, 23, 4, 24, 25, 26, 27, 3, 28, 29, 30, 49, 50, 51, 52, 53, 54, 55, 56, 57, 58, 59, 60, 61, 62, 63, 64, 65, 66] (by decide +kernel) (by decide +kernel)
set_option maxRecDepth 20000 in
theorem gX6_countOver_X6_has : GoodIn wsX6_countOver (wsV RX6 132 RX6 yX6_has wsX6_has) := goodIn_app (goodIn_of _ (by decide +kernel)) ggX6_countOver_X6_has
set_option maxRecDepth 20000 in
theorem ggX6_countOver_X6_in : GoodIn wsX6_countOver wsX6_in := goodIn_r _ [17] (by decide +kernel) (by decide +kernel)
set_option maxRecDepth 20000 in
theorem gX6_countOver_X6_in : GoodIn wsX6_countOver (va_wsS RX6 100 yX6_in wsX6_in) := goodIn_app (goodIn_of _ (by decide +kernel)) ggX6_countOver_X6_in
set_option maxRecDepth 20000 in
theorem ggX6_countOver_X6_list : GoodIn wsX6_countOver wsX6_list := goodIn_r _ [34, 4, 35, 3, 36, 30, 37, 38, 39, 9, 40, 22, 23, 41, 42, 43, 44, 45, 46, 47, 48, 49, 50, 51, 52, 53, 54, 55, 56, 57, 58, 59, 60, 61, 62, 63, 64, 65, 66] (by decide +kernel) (by decide +kernel)
set_option maxRecDepth 20000 in
theorem gX6_countOver_X6_list : GoodIn wsX6_countOver (wsV RX6 89 RX6 yX6_list wsX6_list) := goodIn_app (goodIn_of _ (by decide +kernel)) ggX6_countOver_X6_list
theorem dX6_countOver_8 : decode cX6_countOver 8 = .ok (.iload_n 2, 1) := by decide +kernel
theorem dX6_countOver_9 : decode cX6_countOver 9 = .ok (.i2l, 1) := by decide +kernel
theorem dX6_countOver_10 : decode cX6_countOver 10 = .ok (.lconst 1, 1) := by decide +kernel
theorem dX6_countOver_11 : decode cX6_countOver 11 = .ok (.ldc2_w 108, 3) := by decide +kernel
theorem dX6_countOver_14 : decode cX6_countOver 14 = .ok (.invokestatic 100, 3) := by decide +kernel
theorem dX6_countOver_17 : decode cX6_countOver 17 = .ok (.ifCond .ne 7, 3) := by decide +kernel
theorem dX6_countOver_24 : decode cX6_countOver 24 = .ok (.aload_n 0, 1) := by decide +kernel
theorem dX6_countOver_25 : decode cX6_countOver 25 = .ok (.invokevirtual 89, 3) := by decide +kernel
theorem dX6_countOver_28 : decode cX6_countOver 28 = .ok (.aload_n 0, 1) := by decide +kernel
theorem dX6_countOver_29 : decode cX6_countOver 29 = .ok (.getfield 47, 3) := by decide +kernel
theorem dX6_countOver_32 : decode cX6_countOver 32 = .ok (.i2l, 1) := by decide +kernel
theorem dX6_countOver_33 : decode cX6_countOver 33 = .ok (.lconst 1, 1) := by decide +kernel
theorem dX6_countOver_34 : decode cX6_countOver 34 = .ok (.ladd, 1) := by decide +kernel
theorem dX6_countOver_35 : decode cX6_countOver 35 = .ok (.aload_n 0, 1) := by decide +kernel
theorem dX6_countOver_36 : decode cX6_countOver 36 = .ok (.getfield 54, 3) := by decide +kernel
theorem dX6_countOver_39 : decode cX6_countOver 39 = .ok (.i2l, 1) := by decide +kernel
theorem dX6_countOver_40 : decode cX6_countOver 40 = .ok (.lsub, 1) := by decide +kernel
theorem dX6_countOver_41 : decode cX6_countOver 41 = .ok (.lstore_n 3, 1) := by decide +kernel
theorem dX6_countOver_42 : decode cX6_countOver 42 = .ok (.ldc2_w 81, 3) := by decide +kernel
theorem dX6_countOver_45 : decode cX6_countOver 45 = .ok (.lstore 5, 2) := by decide +kernel
theorem dX6_countOver_47 : decode cX6_countOver 47 = .ok (.lload_n 3, 1) := by decide +kernel
theorem dX6_countOver_48 : decode cX6_countOver 48 = .ok (.lstore 7, 2) := by decide +kernel
theorem dX6_countOver_50 : decode cX6_countOver 50 = .ok (.aload_n 0, 1) := by decide +kernel
theorem dX6_countOver_51 : decode cX6_countOver 51 = .ok (.getfield 47, 3) := by decide +kernel
theorem dX6_countOver_54 : decode cX6_countOver 54 = .ok (.i2l, 1) := by decide +kernel
theorem dX6_countOver_55 : decode cX6_countOver 55 = .ok (.lstore 9, 2) := by decide +kernel
theorem dX6_countOver_57 : decode cX6_countOver 57 = .ok (.iconst 2, 1) := by decide +kernel
theorem dX6_countOver_58 : decode cX6_countOver 58 = .ok (.istore 11, 2) := by decide +kernel
theorem dX6_countOver_60 : decode cX6_countOver 60 = .ok (.iload 11, 2) := by decide +kernel
theorem dX6_countOver_62 : decode cX6_countOver 62 = .ok (.iload_n 2, 1) := by decide +kernel
theorem dX6_countOver_63 : decode cX6_countOver 63 = .ok (.if_icmp .gt 42, 3) := by decide +kernel
theorem dX6_countOver_66 : decode cX6_countOver 66 = .ok (.lload_n 3, 1) := by decide +kernel
theorem dX6_countOver_67 : decode cX6_countOver 67 = .ok (.lload 7, 2) := by decide +kernel
theorem dX6_countOver_69 : decode cX6_countOver 69 = .ok (.lmul, 1) := by decide +kernel
theorem dX6_countOver_70 : decode cX6_countOver 70 = .ok (.aload_n 0, 1) := by decide +kernel
theorem dX6_countOver_71 : decode cX6_countOver 71 = .ok (.getfield 47, 3) := by decide +kernel
theorem dX6_countOver_74 : decode cX6_countOver 74 = .ok (.i2l, 1) := by decide +kernel
theorem dX6_countOver_75 : decode cX6_countOver 75 = .ok (.lload 5, 2) := by decide +kernel
theorem dX6_countOver_77 : decode cX6_countOver 77 = .ok (.lmul, 1) := by decide +kernel
theorem dX6_countOver_78 : decode cX6_countOver 78 = .ok (.lsub, 1) := by decide +kernel
theorem dX6_countOver_79 : decode cX6_countOver 79 = .ok (.lstore 12, 2) := by decide +kernel
theorem dX6_countOver_81 : decode cX6_countOver 81 = .ok (.lload 7, 2) := by decide +kernel
theorem dX6_countOver_83 : decode cX6_countOver 83 = .ok (.lstore 5, 2) := by decide +kernel
theorem dX6_countOver_85 : decode cX6_countOver 85 = .ok (.lload 12, 2) := by decide +kernel
theorem dX6_countOver_87 : decode cX6_countOver 87 = .ok (.lstore 7, 2) := by decide +kernel
theorem dX6_countOver_89 : decode cX6_countOver 89 = .ok (.lload 9, 2) := by decide +kernel
theorem dX6_countOver_91 : decode cX6_countOver 91 = .ok (.aload_n 0, 1) := by decide +kernel
theorem dX6_countOver_92 : decode cX6_countOver 92 = .ok (.getfield 47, 3) := by decide +kernel
theorem dX6_countOver_95 : decode cX6_countOver 95 = .ok (.i2l, 1) := by decide +kernel
theorem dX6_countOver_96 : decode cX6_countOver 96 = .ok (.lmul, 1) := by decide +kernel
theorem dX6_countOver_97 : decode cX6_countOver 97 = .ok (.lstore 9, 2) := by decide +kernel
theorem dX6_countOver_99 : decode cX6_countOver 99 = .ok (.iinc 11 1, 3) := by decide +kernel
theorem dX6_countOver_102 : decode cX6_countOver 102 = .ok (.goto (-42), 3) := by decide +kernel
theorem dX6_countOver_105 : decode cX6_countOver 105 = .ok (.lload 9, 2) := by decide +kernel
theorem dX6_countOver_107 : decode cX6_countOver 107 = .ok (.lconst 1, 1) := by decide +kernel
theorem dX6_countOver_108 : decode cX6_countOver 108 = .ok (.ladd, 1) := by decide +kernel
theorem dX6_countOver_109 : decode cX6_countOver 109 = .ok (.lload 7, 2) := by decide +kernel
theorem dX6_countOver_111 : decode cX6_countOver 111 = .ok (.lsub, 1) := by decide +kernel
theorem dX6_countOver_112 : decode cX6_countOver 112 = .ok (.lreturn, 1) := by decide +kernel
theorem dX6_isBound_0 : decode cX6_isBound 0 = .ok (.iload_n 1, 1) := by decide +kernel
theorem dX6_isBound_1 : decode cX6_isBound 1 = .ok (.i2l, 1) := by decide +kernel
theorem dX6_isBound_2 : decode cX6_isBound 2 = .ok (.aload_n 0, 1) := by decide +kernel
theorem dX6_isBound_3 : decode cX6_isBound 3 = .ok (.getfield 47, 3) := by decide +kernel
theorem dX6_isBound_6 : decode cX6_isBound 6 = .ok (.i2l, 1) := by decide +kernel
theorem dX6_isBound_7 : decode cX6_isBound 7 = .ok (.lsub, 1) := by decide +kernel
theorem dX6_isBound_8 : decode cX6_isBound 8 = .ok (.lconst 1, 1) := by decide +kernel
theorem dX6_isBound_9 : decode cX6_isBound 9 = .ok (.lsub, 1) := by decide +kernel
theorem dX6_isBound_10 : decode cX6_isBound 10 = .ok (.lstore_n 2, 1) := by decide +kernel
theorem dX6_isBound_11 : decode cX6_isBound 11 = .ok (.lload_n 2, 1) := by decide +kernel
theorem dX6_isBound_12 : decode cX6_isBound 12 = .ok (.lload_n 2, 1) := by decide +kernel
theorem dX6_isBound_13 : decode cX6_isBound 13 = .ok (.lmul, 1) := by decide +kernel
theorem dX6_isBound_14 : decode cX6_isBound 14 = .ok (.ldc2_w 108, 3) := by decide +kernel
theorem dX6_isBound_17 : decode cX6_isBound 17 = .ok (.aload_n 0, 1) := by decide +kernel
theorem dX6_isBound_18 : decode cX6_isBound 18 = .ok (.getfield 47, 3) := by decide +kernel
theorem dX6_isBound_21 : decode cX6_isBound 21 = .ok (.i2l, 1) := by decide +kernel
theorem dX6_isBound_22 : decode cX6_isBound 22 = .ok (.lmul, 1) := by decide +kernel
theorem dX6_isBound_23 : decode cX6_isBound 23 = .ok (.lcmp, 1) := by decide +kernel
theorem dX6_isBound_24 : decode cX6_isBound 24 = .ok (.ifCond .gt 7, 3) := by decide +kernel
theorem dX6_isBound_27 : decode cX6_isBound 27 = .ok (.iconst 1, 1) := by decide +kernel
theorem dX6_isBound_28 : decode cX6_isBound 28 = .ok (.goto 4, 3) := by decide +kernel
theorem dX6_isBound_31 : decode cX6_isBound 31 = .ok (.iconst 0, 1) := by decide +kernel
theorem dX6_isBound_32 : decode cX6_isBound 32 = .ok (.ireturn, 1) := by decide +kernel
set_option maxRecDepth 20000 in
theorem ggX6_least_X6_isBound : GoodIn wsX6_least wsX6_isBound := goodIn_r _ [6, 1, 7, 8, 9, 10, 11, 12, 13, 14, 15, 16, 17, 18, 19, 20, 21, 22, 23, 24, 25] (by decide +kernel) (by decide +kernel)
set_option maxRecDepth 20000 in
theorem gX6_least_X6_isBound : GoodIn wsX6_least (wsV RX6 156 RX6 yX6_isBound wsX6_isBound) := goodIn_app (goodIn_of _ (by decide +kernel)) ggX6_least_X6_isBound
theorem dX6_least_0 : decode cX6_least 0 = .ok (.aload_n 0, 1) := by decide +kernel
theorem dX6_least_1 : decode cX6_least 1 = .ok (.getfield 47, 3) := by decide +kernel
theorem dX6_least_4 : decode cX6_least 4 = .ok (.iconst 1, 1) := by decide +kernel
theorem dX6_least_5 : decode cX6_least 5 = .ok (.iadd, 1) := by decide +kernel
theorem dX6_least_6 : decode cX6_least 6 = .ok (.istore_n 1, 1) := by decide +kernel
theorem dX6_least_7 : decode cX6_least 7 = .ok (.aload_n 0, 1) := by decide +kernel
theorem dX6_least_8 : decode cX6_least 8 = .ok (.iload_n 1, 1) := by decide +kernel
theorem dX6_least_9 : decode cX6_least 9 = .ok (.iconst 1, 1) := by decide +kernel
theorem dX6_least_10 : decode cX6_least 10 = .ok (.isub, 1) := by decide +kernel
theorem dX6_least_11 : decode cX6_least 11 = .ok (.invokevirtual 156, 3) := by decide +kernel
theorem dX6_least_14 : decode cX6_least 14 = .ok (.ifCond .eq 9, 3) := by decide +kernel
theorem dX6_least_17 : decode cX6_least 17 = .ok (.iinc 1 (-1), 3) := by decide +kernel
theorem dX6_least_20 : decode cX6_least 20 = .ok (.goto (-13), 3) := by decide +kernel
theorem dX6_least_23 : decode cX6_least 23 = .ok (.iload_n 1, 1) := by decide +kernel
theorem dX6_least_24 : decode cX6_least 24 = .ok (.ireturn, 1) := by decide +kernel
set_option maxRecDepth 20000 in
theorem ggX6_bound_X6_has : GoodIn wsX6_bound wsX6_has := goodIn_r _ [6, 7, 8, 9, 10, 11, 12, 5, 13, 14, 15, 16, 17, 18, 19, 20, 21, 22, 23, 24, 1, 25, 26, 27, 37, 38, 39, 40, 41, 42, 43, 44, 45, 46, 47, 48, 49, 50, 51, 52, 53, 54] (by decide +kernel) (by decide +kernel)
set_option maxRecDepth 20000 in
theorem gX6_bound_X6_has : GoodIn wsX6_bound (wsV RX6 132 RX6 yX6_has wsX6_has) := goodIn_app (goodIn_of _ (by decide +kernel)) ggX6_bound_X6_has
set_option maxRecDepth 20000 in
theorem ggX6_bound_X6_in : GoodIn wsX6_bound wsX6_in := goodIn_r _ [13] (by decide +kernel) (by decide +kernel)
set_option maxRecDepth 20000 in
theorem gX6_bound_X6_in : GoodIn wsX6_bound (va_wsS RX6 100 yX6_in wsX6_in) := goodIn_app (goodIn_of _ (by decide +kernel)) ggX6_bound_X6_in
set_option maxRecDepth 20000 in
theorem ggX6_bound_X6_least : GoodIn wsX6_bound wsX6_least := goodIn_r _ [31, 1, 32, 33, 34, 5, 35, 36, 37, 38, 39, 40, 41, 42, 43, 44, 45, 46, 47, 48, 49, 50, 51, 52, 53, 54] (by decide +kernel) (by decide +kernel)
set_option maxRecDepth 20000 in
theorem gX6_bound_X6_least : GoodIn wsX6_bound (wsV RX6 159 RX6 yX6_least wsX6_least) := goodIn_app (goodIn_of _ (by decide +kernel)) ggX6_bound_X6_least
theorem dX6_bound_8 : decode cX6_bound 8 = .ok (.iload_n 2, 1) := by decide +kernel
theorem dX6_bound_9 : decode cX6_bound 9 = .ok (.i2l, 1) := by decide +kernel
theorem dX6_bound_10 : decode cX6_bound 10 = .ok (.lconst 0, 1) := by decide +kernel
theorem dX6_bound_11 : decode cX6_bound 11 = .ok (.lconst 1, 1) := by decide +kernel
theorem dX6_bound_12 : decode cX6_bound 12 = .ok (.invokestatic 100, 3) := by decide +kernel
theorem dX6_bound_15 : decode cX6_bound 15 = .ok (.ifCond .ne 6, 3) := by decide +kernel
theorem dX6_bound_21 : decode cX6_bound 21 = .ok (.iload_n 2, 1) := by decide +kernel
theorem dX6_bound_22 : decode cX6_bound 22 = .ok (.ifCond .ne 10, 3) := by decide +kernel
theorem dX6_bound_25 : decode cX6_bound 25 = .ok (.aload_n 0, 1) := by decide +kernel
theorem dX6_bound_26 : decode cX6_bound 26 = .ok (.invokevirtual 159, 3) := by decide +kernel
theorem dX6_bound_29 : decode cX6_bound 29 = .ok (.goto 16, 3) := by decide +kernel
theorem dX6_bound_32 : decode cX6_bound 32 = .ok (.iconst 2, 1) := by decide +kernel
theorem dX6_bound_33 : decode cX6_bound 33 = .ok (.aload_n 0, 1) := by decide +kernel
theorem dX6_bound_34 : decode cX6_bound 34 = .ok (.getfield 47, 3) := by decide +kernel
theorem dX6_bound_37 : decode cX6_bound 37 = .ok (.imul, 1) := by decide +kernel
theorem dX6_bound_38 : decode cX6_bound 38 = .ok (.iconst 2, 1) := by decide +kernel
theorem dX6_bound_39 : decode cX6_bound 39 = .ok (.iadd, 1) := by decide +kernel
theorem dX6_bound_40 : decode cX6_bound 40 = .ok (.aload_n 0, 1) := by decide +kernel
theorem dX6_bound_41 : decode cX6_bound 41 = .ok (.invokevirtual 159, 3) := by decide +kernel
theorem dX6_bound_44 : decode cX6_bound 44 = .ok (.isub, 1) := by decide +kernel
theorem dX6_bound_45 : decode cX6_bound 45 = .ok (.ireturn, 1) := by decide +kernel
set_option maxRecDepth 20000 in
theorem ggX6_proves_X6_orderOf : GoodIn wsX6_proves wsX6_orderOf := goodIn_r _ [6, 7, 8, 9, 10, 5, 11, 12, 1, 13, 14, 15, 16, 17, 18, 19, 20, 21, 22, 23, 24, 25, 26, 27, 28, 29, 30, 31, 32, 33, 34, 35, 36, 37, 38, 39, 40, 41, 42, 43, 53, 54, 55, 56, 57, 58, 59, 60, 61, 62, 63, 64, 65, 66, 67, 68, 69, 70] (by decide +kernel) (by decide +kernel)
set_option maxRecDepth 20000 in
theorem gX6_proves_X6_orderOf : GoodIn wsX6_proves (wsV RX6 162 RX6 yX6_orderOf wsX6_orderOf) := goodIn_app (goodIn_of _ (by decide +kernel)) ggX6_proves_X6_orderOf
set_option maxRecDepth 20000 in
theorem ggX6_proves_X6_least : GoodIn wsX6_proves wsX6_least := goodIn_r _ [47, 1, 48, 49, 50, 5, 51, 52, 53, 54, 55, 56, 57, 58, 59, 60, 61, 62, 63, 64, 65, 66, 67, 68, 69, 70] (by decide +kernel) (by decide +kernel)
set_option maxRecDepth 20000 in
theorem gX6_proves_X6_least : GoodIn wsX6_proves (wsV RX6 159 RX6 yX6_least wsX6_least) := goodIn_app (goodIn_of _ (by decide +kernel)) ggX6_proves_X6_least
theorem dX6_proves_0 : decode cX6_proves 0 = .ok (.aload_n 0, 1) := by decide +kernel
theorem dX6_proves_1 : decode cX6_proves 1 = .ok (.iload_n 1, 1) := by decide +kernel
theorem dX6_proves_2 : decode cX6_proves 2 = .ok (.invokevirtual 162, 3) := by decide +kernel
theorem dX6_proves_5 : decode cX6_proves 5 = .ok (.istore_n 2, 1) := by decide +kernel
theorem dX6_proves_6 : decode cX6_proves 6 = .ok (.aload_n 0, 1) := by decide +kernel
theorem dX6_proves_7 : decode cX6_proves 7 = .ok (.invokevirtual 159, 3) := by decide +kernel
theorem dX6_proves_10 : decode cX6_proves 10 = .ok (.istore_n 3, 1) := by decide +kernel
theorem dX6_proves_11 : decode cX6_proves 11 = .ok (.iconst 2, 1) := by decide +kernel
theorem dX6_proves_12 : decode cX6_proves 12 = .ok (.aload_n 0, 1) := by decide +kernel
theorem dX6_proves_13 : decode cX6_proves 13 = .ok (.getfield 47, 3) := by decide +kernel
theorem dX6_proves_16 : decode cX6_proves 16 = .ok (.imul, 1) := by decide +kernel
theorem dX6_proves_17 : decode cX6_proves 17 = .ok (.iconst 2, 1) := by decide +kernel
theorem dX6_proves_18 : decode cX6_proves 18 = .ok (.iadd, 1) := by decide +kernel
theorem dX6_proves_19 : decode cX6_proves 19 = .ok (.iload_n 3, 1) := by decide +kernel
theorem dX6_proves_20 : decode cX6_proves 20 = .ok (.isub, 1) := by decide +kernel
theorem dX6_proves_21 : decode cX6_proves 21 = .ok (.istore 4, 2) := by decide +kernel
theorem dX6_proves_23 : decode cX6_proves 23 = .ok (.iload 4, 2) := by decide +kernel
theorem dX6_proves_25 : decode cX6_proves 25 = .ok (.iload_n 2, 1) := by decide +kernel
theorem dX6_proves_26 : decode cX6_proves 26 = .ok (.idiv, 1) := by decide +kernel
theorem dX6_proves_27 : decode cX6_proves 27 = .ok (.iload_n 3, 1) := by decide +kernel
theorem dX6_proves_28 : decode cX6_proves 28 = .ok (.iconst 1, 1) := by decide +kernel
theorem dX6_proves_29 : decode cX6_proves 29 = .ok (.isub, 1) := by decide +kernel
theorem dX6_proves_30 : decode cX6_proves 30 = .ok (.iload_n 2, 1) := by decide +kernel
theorem dX6_proves_31 : decode cX6_proves 31 = .ok (.idiv, 1) := by decide +kernel
theorem dX6_proves_32 : decode cX6_proves 32 = .ok (.isub, 1) := by decide +kernel
theorem dX6_proves_33 : decode cX6_proves 33 = .ok (.iconst 1, 1) := by decide +kernel
theorem dX6_proves_34 : decode cX6_proves 34 = .ok (.if_icmp .ne 7, 3) := by decide +kernel
theorem dX6_proves_37 : decode cX6_proves 37 = .ok (.iconst 1, 1) := by decide +kernel
theorem dX6_proves_38 : decode cX6_proves 38 = .ok (.goto 4, 3) := by decide +kernel
theorem dX6_proves_41 : decode cX6_proves 41 = .ok (.iconst 0, 1) := by decide +kernel
theorem dX6_proves_42 : decode cX6_proves 42 = .ok (.ireturn, 1) := by decide +kernel
set_option maxRecDepth 20000 in
theorem ggX6_proof_X6_has : GoodIn wsX6_proof wsX6_has := goodIn_r _ [7, 8, 9, 10, 11, 12, 13, 6, 14, 15, 16, 17, 18, 19, 20, 1, 21, 22, 23, 24, 25, 26, 27, 28, 85, 86, 87, 88, 89, 90, 91, 92, 93, 94, 95, 96, 97, 98, 99, 100, 101, 102] (by decide +kernel) (by decide +kernel)
set_option maxRecDepth 20000 in
theorem gX6_proof_X6_has : GoodIn wsX6_proof (wsV RX6 132 RX6 yX6_has wsX6_has) := goodIn_app (goodIn_of _ (by decide +kernel)) ggX6_proof_X6_has
set_option maxRecDepth 20000 in
theorem ggX6_proof_X6_in : GoodIn wsX6_proof wsX6_in := goodIn_r _ [14] (by decide +kernel) (by decide +kernel)
set_option maxRecDepth 20000 in
theorem gX6_proof_X6_in : GoodIn wsX6_proof (va_wsS RX6 100 yX6_in wsX6_in) := goodIn_app (goodIn_of _ (by decide +kernel)) ggX6_proof_X6_in
set_option maxRecDepth 20000 in
theorem ggX6_proof_X6_turn : GoodIn wsX6_proof wsX6_turn := goodIn_r _ [32, 25, 19, 20, 33, 34, 35, 6, 36, 28, 37, 38, 39, 40, 15, 16, 17, 18, 1, 21, 22, 23, 24, 26, 27, 85, 86, 87, 88, 89, 90, 91, 92, 93, 94, 95, 96, 97, 98, 99, 100, 101, 102] (by decide +kernel) (by decide +kernel)
set_option maxRecDepth 20000 in
theorem gX6_proof_X6_turn : GoodIn wsX6_proof (wsV RX6 148 RX6 yX6_turn wsX6_turn) := goodIn_app (goodIn_of _ (by decide +kernel)) ggX6_proof_X6_turn
set_option maxRecDepth 20000 in
theorem ggX6_proof_X6_list : GoodIn wsX6_proof wsX6_list := goodIn_r _ [44, 1, 2, 25, 45, 28, 46, 47, 48, 6, 49, 19, 20, 37, 38, 39, 40, 50, 51, 52, 53, 85, 86, 87, 88, 89, 90, 91, 92, 93, 94, 95, 96, 97, 98, 99, 100, 101, 102] (by decide +kernel) (by decide +kernel)
set_option maxRecDepth 20000 in
theorem gX6_proof_X6_list : GoodIn wsX6_proof (wsV RX6 89 RX6 yX6_list wsX6_list) := goodIn_app (goodIn_of _ (by decide +kernel)) ggX6_proof_X6_list
set_option maxRecDepth 20000 in
theorem ggX6_proof_X6_proves : GoodIn wsX6_proof wsX6_proves := goodIn_r _ [57, 25, 58, 59, 60, 6, 61, 1, 41, 42, 43, 44, 2, 45, 28, 46, 47, 48, 49, 19, 20, 37, 38, 39, 40, 50, 51, 52, 53, 62, 63, 64, 65, 66, 67, 68, 69, 70, 71, 72, 73, 74, 75, 27, 76, 77, 78, 79, 80, 81, 82, 83, 84, 85, 86, 87, 88, 89, 90, 91, 92, 93, 94, 95, 96, 97, 98, 99, 100, 101, 102] (by decide +kernel) (by decide +kernel)
set_option maxRecDepth 20000 in
theorem gX6_proof_X6_proves : GoodIn wsX6_proof (wsV RX6 165 RX6 yX6_proves wsX6_proves) := goodIn_app (goodIn_of _ (by decide +kernel)) ggX6_proof_X6_proves
theorem dX6_proof_8 : decode cX6_proof 8 = .ok (.iload_n 2, 1) := by decide +kernel
theorem dX6_proof_9 : decode cX6_proof 9 = .ok (.i2l, 1) := by decide +kernel
theorem dX6_proof_10 : decode cX6_proof 10 = .ok (.lconst 0, 1) := by decide +kernel
theorem dX6_proof_11 : decode cX6_proof 11 = .ok (.lconst 1, 1) := by decide +kernel
theorem dX6_proof_12 : decode cX6_proof 12 = .ok (.invokestatic 100, 3) := by decide +kernel
theorem dX6_proof_15 : decode cX6_proof 15 = .ok (.ifCond .ne 6, 3) := by decide +kernel
theorem dX6_proof_21 : decode cX6_proof 21 = .ok (.iload_n 2, 1) := by decide +kernel
theorem dX6_proof_22 : decode cX6_proof 22 = .ok (.iconst 1, 1) := by decide +kernel
theorem dX6_proof_23 : decode cX6_proof 23 = .ok (.if_icmp .ne 7, 3) := by decide +kernel
theorem dX6_proof_26 : decode cX6_proof 26 = .ok (.aload_n 0, 1) := by decide +kernel
theorem dX6_proof_27 : decode cX6_proof 27 = .ok (.invokevirtual 148, 3) := by decide +kernel
theorem dX6_proof_30 : decode cX6_proof 30 = .ok (.aload_n 0, 1) := by decide +kernel
theorem dX6_proof_31 : decode cX6_proof 31 = .ok (.invokevirtual 89, 3) := by decide +kernel
theorem dX6_proof_34 : decode cX6_proof 34 = .ok (.iconst 0, 1) := by decide +kernel
theorem dX6_proof_35 : decode cX6_proof 35 = .ok (.istore_n 3, 1) := by decide +kernel
theorem dX6_proof_36 : decode cX6_proof 36 = .ok (.iload_n 3, 1) := by decide +kernel
theorem dX6_proof_37 : decode cX6_proof 37 = .ok (.aload_n 0, 1) := by decide +kernel
theorem dX6_proof_38 : decode cX6_proof 38 = .ok (.getfield 54, 3) := by decide +kernel
theorem dX6_proof_41 : decode cX6_proof 41 = .ok (.if_icmp .ge 29, 3) := by decide +kernel
theorem dX6_proof_44 : decode cX6_proof 44 = .ok (.aload_n 0, 1) := by decide +kernel
theorem dX6_proof_45 : decode cX6_proof 45 = .ok (.aload_n 0, 1) := by decide +kernel
theorem dX6_proof_46 : decode cX6_proof 46 = .ok (.getfield 16, 3) := by decide +kernel
theorem dX6_proof_49 : decode cX6_proof 49 = .ok (.iload_n 3, 1) := by decide +kernel
theorem dX6_proof_50 : decode cX6_proof 50 = .ok (.iaload, 1) := by decide +kernel
theorem dX6_proof_51 : decode cX6_proof 51 = .ok (.invokevirtual 165, 3) := by decide +kernel
theorem dX6_proof_54 : decode cX6_proof 54 = .ok (.ifCond .eq 10, 3) := by decide +kernel
theorem dX6_proof_57 : decode cX6_proof 57 = .ok (.aload_n 0, 1) := by decide +kernel
theorem dX6_proof_58 : decode cX6_proof 58 = .ok (.getfield 16, 3) := by decide +kernel
theorem dX6_proof_61 : decode cX6_proof 61 = .ok (.iload_n 3, 1) := by decide +kernel
theorem dX6_proof_62 : decode cX6_proof 62 = .ok (.iaload, 1) := by decide +kernel
theorem dX6_proof_63 : decode cX6_proof 63 = .ok (.ireturn, 1) := by decide +kernel
theorem dX6_proof_64 : decode cX6_proof 64 = .ok (.iinc 3 1, 3) := by decide +kernel
theorem dX6_proof_67 : decode cX6_proof 67 = .ok (.goto (-31), 3) := by decide +kernel
theorem dX6_proof_70 : decode cX6_proof 70 = .ok (.iconst (-1), 1) := by decide +kernel
theorem dX6_proof_71 : decode cX6_proof 71 = .ok (.ireturn, 1) := by decide +kernel
set_option maxRecDepth 20000 in
theorem ggX6_supersingular_X6_has : GoodIn wsX6_supersingular wsX6_has := goodIn_r _ [7, 8, 9, 10, 11, 12, 13, 6, 14, 15, 16, 17, 18, 19, 20, 2, 21, 22, 23, 24, 1, 25, 26, 27, 46, 47, 48, 49, 50, 51, 52, 53, 54, 55, 56, 57, 58, 59, 60, 61, 62, 63] (by decide +kernel) (by decide +kernel)
set_option maxRecDepth 20000 in
theorem gX6_supersingular_X6_has : GoodIn wsX6_supersingular (wsV RX6 132 RX6 yX6_has wsX6_has) := goodIn_app (goodIn_of _ (by decide +kernel)) ggX6_supersingular_X6_has
set_option maxRecDepth 20000 in
theorem ggX6_supersingular_X6_list : GoodIn wsX6_supersingular wsX6_list := goodIn_r _ [31, 2, 32, 1, 33, 27, 34, 35, 36, 6, 37, 19, 20, 38, 39, 40, 41, 42, 43, 44, 45, 46, 47, 48, 49, 50, 51, 52, 53, 54, 55, 56, 57, 58, 59, 60, 61, 62, 63] (by decide +kernel) (by decide +kernel)
set_option maxRecDepth 20000 in
theorem gX6_supersingular_X6_list : GoodIn wsX6_supersingular (wsV RX6 89 RX6 yX6_list wsX6_list) := goodIn_app (goodIn_of _ (by decide +kernel)) ggX6_supersingular_X6_list
theorem dX6_supersingular_11 : decode cX6_supersingular 11 = .ok (.aload_n 0, 1) := by decide +kernel
theorem dX6_supersingular_12 : decode cX6_supersingular 12 = .ok (.invokevirtual 89, 3) := by decide +kernel
theorem dX6_supersingular_15 : decode cX6_supersingular 15 = .ok (.aload_n 0, 1) := by decide +kernel
theorem dX6_supersingular_16 : decode cX6_supersingular 16 = .ok (.getfield 47, 3) := by decide +kernel
theorem dX6_supersingular_19 : decode cX6_supersingular 19 = .ok (.iconst 1, 1) := by decide +kernel
theorem dX6_supersingular_20 : decode cX6_supersingular 20 = .ok (.iadd, 1) := by decide +kernel
theorem dX6_supersingular_21 : decode cX6_supersingular 21 = .ok (.aload_n 0, 1) := by decide +kernel
theorem dX6_supersingular_22 : decode cX6_supersingular 22 = .ok (.getfield 54, 3) := by decide +kernel
theorem dX6_supersingular_25 : decode cX6_supersingular 25 = .ok (.isub, 1) := by decide +kernel
theorem dX6_supersingular_26 : decode cX6_supersingular 26 = .ok (.aload_n 0, 1) := by decide +kernel
theorem dX6_supersingular_27 : decode cX6_supersingular 27 = .ok (.getfield 47, 3) := by decide +kernel
theorem dX6_supersingular_30 : decode cX6_supersingular 30 = .ok (.irem, 1) := by decide +kernel
theorem dX6_supersingular_31 : decode cX6_supersingular 31 = .ok (.ifCond .ne 7, 3) := by decide +kernel
theorem dX6_supersingular_34 : decode cX6_supersingular 34 = .ok (.iconst 1, 1) := by decide +kernel
theorem dX6_supersingular_35 : decode cX6_supersingular 35 = .ok (.goto 4, 3) := by decide +kernel
theorem dX6_supersingular_38 : decode cX6_supersingular 38 = .ok (.iconst 0, 1) := by decide +kernel
theorem dX6_supersingular_39 : decode cX6_supersingular 39 = .ok (.ireturn, 1) := by decide +kernel
set_option maxRecDepth 20000 in
theorem ggX6_order_X6_has : GoodIn wsX6_order wsX6_has := goodIn_r _ [5, 6, 7, 8, 9, 10, 11, 4, 12, 13, 14, 15, 16, 17, 18, 19, 20, 21, 22, 23, 24, 25, 26, 27, 68, 69, 70, 71, 72, 73, 74, 75, 76, 77, 78, 79, 80, 81, 82, 83, 84, 85] (by decide +kernel) (by decide +kernel)
set_option maxRecDepth 20000 in
theorem gX6_order_X6_has : GoodIn wsX6_order (wsV RX6 132 RX6 yX6_has wsX6_has) := goodIn_app (goodIn_of _ (by decide +kernel)) ggX6_order_X6_has
set_option maxRecDepth 20000 in
theorem ggX6_order_X6_isPoint : GoodIn wsX6_order wsX6_isPoint := goodIn_r _ [31, 24, 32, 33, 34, 4, 35, 36, 37, 38, 39, 17, 18, 40, 41, 42, 43, 68, 69, 70, 71, 72, 73, 74, 75, 76, 77, 78, 79, 80, 81, 82, 83, 84, 85] (by decide +kernel) (by decide +kernel)
set_option maxRecDepth 20000 in
theorem gX6_order_X6_isPoint : GoodIn wsX6_order (wsV RX6 151 RX6 yX6_isPoint wsX6_isPoint) := goodIn_app (goodIn_of _ (by decide +kernel)) ggX6_order_X6_isPoint
set_option maxRecDepth 20000 in
theorem ggX6_order_X6_orderOf : GoodIn wsX6_order wsX6_orderOf := goodIn_r _ [47, 19, 48, 49, 50, 4, 51, 52, 24, 53, 27, 36, 37, 38, 39, 17, 18, 32, 33, 34, 35, 40, 41, 42, 43, 54, 55, 56, 57, 58, 59, 60, 61, 62, 63, 64, 65, 66, 67, 26, 68, 69, 70, 71, 72, 73, 74, 75, 76, 77, 78, 79, 80, 81, 82, 83, 84, 85] (by decide +kernel) (by decide +kernel)
set_option maxRecDepth 20000 in
theorem gX6_order_X6_orderOf : GoodIn wsX6_order (wsV RX6 162 RX6 yX6_orderOf wsX6_orderOf) := goodIn_app (goodIn_of _ (by decide +kernel)) ggX6_order_X6_orderOf
theorem dX6_order_8 : decode cX6_order 8 = .ok (.aload_n 0, 1) := by decide +kernel
theorem dX6_order_9 : decode cX6_order 9 = .ok (.iload_n 2, 1) := by decide +kernel
theorem dX6_order_10 : decode cX6_order 10 = .ok (.invokevirtual 151, 3) := by decide +kernel
theorem dX6_order_13 : decode cX6_order 13 = .ok (.ifCond .eq 11, 3) := by decide +kernel
theorem dX6_order_16 : decode cX6_order 16 = .ok (.aload_n 0, 1) := by decide +kernel
theorem dX6_order_17 : decode cX6_order 17 = .ok (.iload_n 2, 1) := by decide +kernel
theorem dX6_order_18 : decode cX6_order 18 = .ok (.invokevirtual 162, 3) := by decide +kernel
theorem dX6_order_21 : decode cX6_order 21 = .ok (.goto 5, 3) := by decide +kernel
set_option maxRecDepth 20000 in
theorem ggX6_ofOrder_X6_has : GoodIn wsX6_ofOrder wsX6_has := goodIn_r _ [7, 8, 9, 10, 11, 12, 13, 6, 14, 15, 16, 17, 18, 19, 20, 1, 21, 22, 23, 24, 25, 26, 27, 28, 64, 65, 66, 67, 68, 69, 70, 71, 72, 73, 74, 75, 76, 77, 78, 79, 80, 81] (by decide +kernel) (by decide +kernel)
set_option maxRecDepth 20000 in
theorem gX6_ofOrder_X6_has : GoodIn wsX6_ofOrder (wsV RX6 132 RX6 yX6_has wsX6_has) := goodIn_app (goodIn_of _ (by decide +kernel)) ggX6_ofOrder_X6_has
set_option maxRecDepth 20000 in
theorem ggX6_ofOrder_X6_list : GoodIn wsX6_ofOrder wsX6_list := goodIn_r _ [32, 1, 2, 25, 33, 28, 34, 35, 36, 6, 37, 19, 20, 38, 39, 40, 41, 42, 43, 44, 45, 64, 65, 66, 67, 68, 69, 70, 71, 72, 73, 74, 75, 76, 77, 78, 79, 80, 81] (by decide +kernel) (by decide +kernel)
set_option maxRecDepth 20000 in
theorem gX6_ofOrder_X6_list : GoodIn wsX6_ofOrder (wsV RX6 89 RX6 yX6_list wsX6_list) := goodIn_app (goodIn_of _ (by decide +kernel)) ggX6_ofOrder_X6_list
set_option maxRecDepth 20000 in
theorem ggX6_ofOrder_X6_orderOf : GoodIn wsX6_ofOrder wsX6_orderOf := goodIn_r _ [49, 1, 29, 30, 31, 6, 32, 2, 25, 33, 28, 34, 35, 36, 37, 19, 20, 38, 39, 40, 41, 42, 43, 44, 45, 50, 51, 52, 53, 54, 55, 56, 57, 58, 59, 60, 61, 62, 63, 27, 64, 65, 66, 67, 68, 69, 70, 71, 72, 73, 74, 75, 76, 77, 78, 79, 80, 81] (by decide +kernel) (by decide +kernel)
set_option maxRecDepth 20000 in
theorem gX6_ofOrder_X6_orderOf : GoodIn wsX6_ofOrder (wsV RX6 162 RX6 yX6_orderOf wsX6_orderOf) := goodIn_app (goodIn_of _ (by decide +kernel)) ggX6_ofOrder_X6_orderOf
theorem dX6_ofOrder_8 : decode cX6_ofOrder 8 = .ok (.iload_n 2, 1) := by decide +kernel
theorem dX6_ofOrder_9 : decode cX6_ofOrder 9 = .ok (.iconst 1, 1) := by decide +kernel
theorem dX6_ofOrder_10 : decode cX6_ofOrder 10 = .ok (.if_icmp .ge 6, 3) := by decide +kernel
theorem dX6_ofOrder_16 : decode cX6_ofOrder 16 = .ok (.aload_n 0, 1) := by decide +kernel
theorem dX6_ofOrder_17 : decode cX6_ofOrder 17 = .ok (.invokevirtual 89, 3) := by decide +kernel
theorem dX6_ofOrder_20 : decode cX6_ofOrder 20 = .ok (.iconst 0, 1) := by decide +kernel
theorem dX6_ofOrder_21 : decode cX6_ofOrder 21 = .ok (.istore_n 3, 1) := by decide +kernel
theorem dX6_ofOrder_22 : decode cX6_ofOrder 22 = .ok (.iconst 0, 1) := by decide +kernel
theorem dX6_ofOrder_23 : decode cX6_ofOrder 23 = .ok (.istore 4, 2) := by decide +kernel
theorem dX6_ofOrder_25 : decode cX6_ofOrder 25 = .ok (.iload 4, 2) := by decide +kernel
theorem dX6_ofOrder_27 : decode cX6_ofOrder 27 = .ok (.aload_n 0, 1) := by decide +kernel
theorem dX6_ofOrder_28 : decode cX6_ofOrder 28 = .ok (.getfield 54, 3) := by decide +kernel
theorem dX6_ofOrder_31 : decode cX6_ofOrder 31 = .ok (.if_icmp .ge 41, 3) := by decide +kernel
theorem dX6_ofOrder_34 : decode cX6_ofOrder 34 = .ok (.aload_n 0, 1) := by decide +kernel
theorem dX6_ofOrder_35 : decode cX6_ofOrder 35 = .ok (.getfield 54, 3) := by decide +kernel
theorem dX6_ofOrder_38 : decode cX6_ofOrder 38 = .ok (.iload_n 2, 1) := by decide +kernel
theorem dX6_ofOrder_39 : decode cX6_ofOrder 39 = .ok (.irem, 1) := by decide +kernel
theorem dX6_ofOrder_40 : decode cX6_ofOrder 40 = .ok (.ifCond .ne 32, 3) := by decide +kernel
theorem dX6_ofOrder_43 : decode cX6_ofOrder 43 = .ok (.iload_n 3, 1) := by decide +kernel
theorem dX6_ofOrder_44 : decode cX6_ofOrder 44 = .ok (.aload_n 0, 1) := by decide +kernel
theorem dX6_ofOrder_45 : decode cX6_ofOrder 45 = .ok (.aload_n 0, 1) := by decide +kernel
theorem dX6_ofOrder_46 : decode cX6_ofOrder 46 = .ok (.getfield 16, 3) := by decide +kernel
theorem dX6_ofOrder_49 : decode cX6_ofOrder 49 = .ok (.iload 4, 2) := by decide +kernel
theorem dX6_ofOrder_51 : decode cX6_ofOrder 51 = .ok (.iaload, 1) := by decide +kernel
theorem dX6_ofOrder_52 : decode cX6_ofOrder 52 = .ok (.invokevirtual 162, 3) := by decide +kernel
theorem dX6_ofOrder_55 : decode cX6_ofOrder 55 = .ok (.iload_n 2, 1) := by decide +kernel
theorem dX6_ofOrder_56 : decode cX6_ofOrder 56 = .ok (.if_icmp .ne 7, 3) := by decide +kernel
theorem dX6_ofOrder_59 : decode cX6_ofOrder 59 = .ok (.iconst 1, 1) := by decide +kernel
theorem dX6_ofOrder_60 : decode cX6_ofOrder 60 = .ok (.goto 4, 3) := by decide +kernel
theorem dX6_ofOrder_63 : decode cX6_ofOrder 63 = .ok (.iconst 0, 1) := by decide +kernel
theorem dX6_ofOrder_64 : decode cX6_ofOrder 64 = .ok (.iadd, 1) := by decide +kernel
theorem dX6_ofOrder_65 : decode cX6_ofOrder 65 = .ok (.istore_n 3, 1) := by decide +kernel
theorem dX6_ofOrder_66 : decode cX6_ofOrder 66 = .ok (.iinc 4 1, 3) := by decide +kernel
theorem dX6_ofOrder_69 : decode cX6_ofOrder 69 = .ok (.goto (-44), 3) := by decide +kernel
theorem dX6_ofOrder_72 : decode cX6_ofOrder 72 = .ok (.iload_n 3, 1) := by decide +kernel
theorem dX6_ofOrder_73 : decode cX6_ofOrder 73 = .ok (.ireturn, 1) := by decide +kernel
set_option maxRecDepth 20000 in
theorem ggX6_torsion_X6_has : GoodIn wsX6_torsion wsX6_has := goodIn_r _ [7, 8, 9, 10, 11, 12, 13, 6, 14, 15, 16, 17, 18, 19, 20, 1, 21, 22, 23, 24, 25, 26, 27, 28, 60, 61, 62, 63, 64, 65, 66, 67, 68, 69, 70, 71, 72, 73, 74, 75, 76, 77] (by decide +kernel) (by decide +kernel)
set_option maxRecDepth 20000 in
theorem gX6_torsion_X6_has : GoodIn wsX6_torsion (wsV RX6 132 RX6 yX6_has wsX6_has) := goodIn_app (goodIn_of _ (by decide +kernel)) ggX6_torsion_X6_has
set_option maxRecDepth 20000 in
theorem ggX6_torsion_X6_list : GoodIn wsX6_torsion wsX6_list := goodIn_r _ [32, 1, 2, 25, 33, 28, 34, 35, 36, 6, 37, 19, 20, 38, 39, 40, 41, 42, 43, 44, 45, 60, 61, 62, 63, 64, 65, 66, 67, 68, 69, 70, 71, 72, 73, 74, 75, 76, 77] (by decide +kernel) (by decide +kernel)
set_option maxRecDepth 20000 in
theorem gX6_torsion_X6_list : GoodIn wsX6_torsion (wsV RX6 89 RX6 yX6_list wsX6_list) := goodIn_app (goodIn_of _ (by decide +kernel)) ggX6_torsion_X6_list
set_option maxRecDepth 20000 in
theorem ggX6_torsion_X6_multiple : GoodIn wsX6_torsion wsX6_multiple := goodIn_r _ [49, 50, 51, 52, 53, 6, 54, 25, 55, 56, 57, 58, 59, 19, 27, 38, 39, 40, 41, 42, 43, 44, 45, 60, 61, 62, 63, 64, 65, 66, 67, 68, 69, 70, 71, 72, 73, 74, 75, 76, 77] (by decide +kernel) (by decide +kernel)
set_option maxRecDepth 20000 in
theorem gX6_torsion_X6_multiple : GoodIn wsX6_torsion (wsV RX6 92 RX6 yX6_multiple wsX6_multiple) := goodIn_app (goodIn_of _ (by decide +kernel)) ggX6_torsion_X6_multiple
theorem dX6_torsion_8 : decode cX6_torsion 8 = .ok (.iload_n 2, 1) := by decide +kernel
theorem dX6_torsion_9 : decode cX6_torsion 9 = .ok (.iconst 1, 1) := by decide +kernel
theorem dX6_torsion_10 : decode cX6_torsion 10 = .ok (.if_icmp .ge 6, 3) := by decide +kernel
theorem dX6_torsion_16 : decode cX6_torsion 16 = .ok (.aload_n 0, 1) := by decide +kernel
theorem dX6_torsion_17 : decode cX6_torsion 17 = .ok (.invokevirtual 89, 3) := by decide +kernel
theorem dX6_torsion_20 : decode cX6_torsion 20 = .ok (.iconst 0, 1) := by decide +kernel
theorem dX6_torsion_21 : decode cX6_torsion 21 = .ok (.istore_n 3, 1) := by decide +kernel
theorem dX6_torsion_22 : decode cX6_torsion 22 = .ok (.iconst 0, 1) := by decide +kernel
theorem dX6_torsion_23 : decode cX6_torsion 23 = .ok (.istore 4, 2) := by decide +kernel
theorem dX6_torsion_25 : decode cX6_torsion 25 = .ok (.iload 4, 2) := by decide +kernel
theorem dX6_torsion_27 : decode cX6_torsion 27 = .ok (.aload_n 0, 1) := by decide +kernel
theorem dX6_torsion_28 : decode cX6_torsion 28 = .ok (.getfield 54, 3) := by decide +kernel
theorem dX6_torsion_31 : decode cX6_torsion 31 = .ok (.if_icmp .ge 34, 3) := by decide +kernel
theorem dX6_torsion_34 : decode cX6_torsion 34 = .ok (.iload_n 3, 1) := by decide +kernel
theorem dX6_torsion_35 : decode cX6_torsion 35 = .ok (.aload_n 0, 1) := by decide +kernel
theorem dX6_torsion_36 : decode cX6_torsion 36 = .ok (.aload_n 0, 1) := by decide +kernel
theorem dX6_torsion_37 : decode cX6_torsion 37 = .ok (.getfield 16, 3) := by decide +kernel
theorem dX6_torsion_40 : decode cX6_torsion 40 = .ok (.iload 4, 2) := by decide +kernel
theorem dX6_torsion_42 : decode cX6_torsion 42 = .ok (.iaload, 1) := by decide +kernel
theorem dX6_torsion_43 : decode cX6_torsion 43 = .ok (.iload_n 2, 1) := by decide +kernel
theorem dX6_torsion_44 : decode cX6_torsion 44 = .ok (.i2l, 1) := by decide +kernel
theorem dX6_torsion_45 : decode cX6_torsion 45 = .ok (.invokevirtual 92, 3) := by decide +kernel
theorem dX6_torsion_48 : decode cX6_torsion 48 = .ok (.iconst (-1), 1) := by decide +kernel
theorem dX6_torsion_49 : decode cX6_torsion 49 = .ok (.if_icmp .ne 7, 3) := by decide +kernel
theorem dX6_torsion_52 : decode cX6_torsion 52 = .ok (.iconst 1, 1) := by decide +kernel
theorem dX6_torsion_53 : decode cX6_torsion 53 = .ok (.goto 4, 3) := by decide +kernel
theorem dX6_torsion_56 : decode cX6_torsion 56 = .ok (.iconst 0, 1) := by decide +kernel
theorem dX6_torsion_57 : decode cX6_torsion 57 = .ok (.iadd, 1) := by decide +kernel
theorem dX6_torsion_58 : decode cX6_torsion 58 = .ok (.istore_n 3, 1) := by decide +kernel
theorem dX6_torsion_59 : decode cX6_torsion 59 = .ok (.iinc 4 1, 3) := by decide +kernel
theorem dX6_torsion_62 : decode cX6_torsion 62 = .ok (.goto (-37), 3) := by decide +kernel
theorem dX6_torsion_65 : decode cX6_torsion 65 = .ok (.iload_n 3, 1) := by decide +kernel
theorem dX6_torsion_66 : decode cX6_torsion 66 = .ok (.ireturn, 1) := by decide +kernel
theorem dX6_placeOf_0 : decode cX6_placeOf 0 = .ok (.iload_n 1, 1) := by decide +kernel
theorem dX6_placeOf_1 : decode cX6_placeOf 1 = .ok (.iconst (-1), 1) := by decide +kernel
theorem dX6_placeOf_2 : decode cX6_placeOf 2 = .ok (.if_icmp .ne 5, 3) := by decide +kernel
theorem dX6_placeOf_5 : decode cX6_placeOf 5 = .ok (.iconst 0, 1) := by decide +kernel
theorem dX6_placeOf_6 : decode cX6_placeOf 6 = .ok (.ireturn, 1) := by decide +kernel
theorem dX6_placeOf_7 : decode cX6_placeOf 7 = .ok (.aload_n 0, 1) := by decide +kernel
theorem dX6_placeOf_8 : decode cX6_placeOf 8 = .ok (.getfield 19, 3) := by decide +kernel
theorem dX6_placeOf_11 : decode cX6_placeOf 11 = .ok (.iload_n 1, 1) := by decide +kernel
theorem dX6_placeOf_12 : decode cX6_placeOf 12 = .ok (.sipush 16384, 3) := by decide +kernel
theorem dX6_placeOf_15 : decode cX6_placeOf 15 = .ok (.idiv, 1) := by decide +kernel
theorem dX6_placeOf_16 : decode cX6_placeOf 16 = .ok (.iaload, 1) := by decide +kernel
theorem dX6_placeOf_17 : decode cX6_placeOf 17 = .ok (.istore_n 2, 1) := by decide +kernel
theorem dX6_placeOf_18 : decode cX6_placeOf 18 = .ok (.aload_n 0, 1) := by decide +kernel
theorem dX6_placeOf_19 : decode cX6_placeOf 19 = .ok (.getfield 16, 3) := by decide +kernel
theorem dX6_placeOf_22 : decode cX6_placeOf 22 = .ok (.iload_n 2, 1) := by decide +kernel
theorem dX6_placeOf_23 : decode cX6_placeOf 23 = .ok (.iaload, 1) := by decide +kernel
theorem dX6_placeOf_24 : decode cX6_placeOf 24 = .ok (.iload_n 1, 1) := by decide +kernel
theorem dX6_placeOf_25 : decode cX6_placeOf 25 = .ok (.if_icmp .ne 7, 3) := by decide +kernel
theorem dX6_placeOf_28 : decode cX6_placeOf 28 = .ok (.iload_n 2, 1) := by decide +kernel
theorem dX6_placeOf_29 : decode cX6_placeOf 29 = .ok (.goto 6, 3) := by decide +kernel
theorem dX6_placeOf_32 : decode cX6_placeOf 32 = .ok (.iload_n 2, 1) := by decide +kernel
theorem dX6_placeOf_33 : decode cX6_placeOf 33 = .ok (.iconst 1, 1) := by decide +kernel
theorem dX6_placeOf_34 : decode cX6_placeOf 34 = .ok (.iadd, 1) := by decide +kernel
theorem dX6_placeOf_35 : decode cX6_placeOf 35 = .ok (.ireturn, 1) := by decide +kernel
set_option maxRecDepth 20000 in
theorem ggX6_isApart_X6_placeOf : GoodIn wsX6_isApart wsX6_placeOf := goodIn_r _ [6, 7, 8, 26, 27, 28, 29, 30, 31, 32, 33, 34, 35, 36, 37, 38, 39, 40, 41, 42, 43] (by decide +kernel) (by decide +kernel)
set_option maxRecDepth 20000 in
theorem gX6_isApart_X6_placeOf : GoodIn wsX6_isApart (wsV RX6 168 RX6 yX6_placeOf wsX6_placeOf) := goodIn_app (goodIn_of _ (by decide +kernel)) ggX6_isApart_X6_placeOf
set_option maxRecDepth 20000 in
theorem ggX6_isApart_X6_sum : GoodIn wsX6_isApart wsX6_sum := goodIn_r _ [12, 13, 14, 15, 16, 17, 18, 19, 20, 5, 21, 22, 23, 24, 25, 26, 27, 28, 29, 30, 31, 32, 33, 34, 35, 36, 37, 38, 39, 40, 41, 42, 43] (by decide +kernel) (by decide +kernel)
set_option maxRecDepth 20000 in
theorem gX6_isApart_X6_sum : GoodIn wsX6_isApart (wsV RX6 86 RX6 yX6_sum wsX6_sum) := goodIn_app (goodIn_of _ (by decide +kernel)) ggX6_isApart_X6_sum
theorem dX6_isApart_0 : decode cX6_isApart 0 = .ok (.iload_n 1, 1) := by decide +kernel
theorem dX6_isApart_1 : decode cX6_isApart 1 = .ok (.istore_n 3, 1) := by decide +kernel
theorem dX6_isApart_2 : decode cX6_isApart 2 = .ok (.iconst 1, 1) := by decide +kernel
theorem dX6_isApart_3 : decode cX6_isApart 3 = .ok (.istore 4, 2) := by decide +kernel
theorem dX6_isApart_5 : decode cX6_isApart 5 = .ok (.iconst 1, 1) := by decide +kernel
theorem dX6_isApart_6 : decode cX6_isApart 6 = .ok (.istore 5, 2) := by decide +kernel
theorem dX6_isApart_8 : decode cX6_isApart 8 = .ok (.iload 5, 2) := by decide +kernel
theorem dX6_isApart_10 : decode cX6_isApart 10 = .ok (.iload_n 2, 1) := by decide +kernel
theorem dX6_isApart_11 : decode cX6_isApart 11 = .ok (.if_icmp .ge 41, 3) := by decide +kernel
theorem dX6_isApart_14 : decode cX6_isApart 14 = .ok (.iload 4, 2) := by decide +kernel
theorem dX6_isApart_16 : decode cX6_isApart 16 = .ok (.ifCond .eq 36, 3) := by decide +kernel
theorem dX6_isApart_19 : decode cX6_isApart 19 = .ok (.aload_n 0, 1) := by decide +kernel
theorem dX6_isApart_20 : decode cX6_isApart 20 = .ok (.getfield 40, 3) := by decide +kernel
theorem dX6_isApart_23 : decode cX6_isApart 23 = .ok (.aload_n 0, 1) := by decide +kernel
theorem dX6_isApart_24 : decode cX6_isApart 24 = .ok (.iload_n 3, 1) := by decide +kernel
theorem dX6_isApart_25 : decode cX6_isApart 25 = .ok (.invokevirtual 168, 3) := by decide +kernel
theorem dX6_isApart_28 : decode cX6_isApart 28 = .ok (.baload, 1) := by decide +kernel
theorem dX6_isApart_29 : decode cX6_isApart 29 = .ok (.ifCond .ne 7, 3) := by decide +kernel
theorem dX6_isApart_32 : decode cX6_isApart 32 = .ok (.iconst 1, 1) := by decide +kernel
theorem dX6_isApart_33 : decode cX6_isApart 33 = .ok (.goto 4, 3) := by decide +kernel
theorem dX6_isApart_36 : decode cX6_isApart 36 = .ok (.iconst 0, 1) := by decide +kernel
theorem dX6_isApart_37 : decode cX6_isApart 37 = .ok (.istore 4, 2) := by decide +kernel
theorem dX6_isApart_39 : decode cX6_isApart 39 = .ok (.aload_n 0, 1) := by decide +kernel
theorem dX6_isApart_40 : decode cX6_isApart 40 = .ok (.iload_n 3, 1) := by decide +kernel
theorem dX6_isApart_41 : decode cX6_isApart 41 = .ok (.iload_n 1, 1) := by decide +kernel
theorem dX6_isApart_42 : decode cX6_isApart 42 = .ok (.invokevirtual 86, 3) := by decide +kernel
theorem dX6_isApart_45 : decode cX6_isApart 45 = .ok (.istore_n 3, 1) := by decide +kernel
theorem dX6_isApart_46 : decode cX6_isApart 46 = .ok (.iinc 5 1, 3) := by decide +kernel
theorem dX6_isApart_49 : decode cX6_isApart 49 = .ok (.goto (-41), 3) := by decide +kernel
theorem dX6_isApart_52 : decode cX6_isApart 52 = .ok (.iload 4, 2) := by decide +kernel
theorem dX6_isApart_54 : decode cX6_isApart 54 = .ok (.ireturn, 1) := by decide +kernel
set_option maxRecDepth 20000 in
theorem ggX6_made_X6_has : GoodIn wsX6_made wsX6_has := goodIn_r _ [9, 10, 11, 12, 13, 14, 15, 8, 16, 17, 18, 19, 20, 21, 22, 2, 23, 24, 25, 26, 27, 28, 29, 30, 73, 74, 75, 76, 77, 78, 79, 80, 81, 82, 83, 84, 85, 86, 87, 88, 89, 90] (by decide +kernel) (by decide +kernel)
set_option maxRecDepth 20000 in
theorem gX6_made_X6_has : GoodIn wsX6_made (wsV RX6 132 RX6 yX6_has wsX6_has) := goodIn_app (goodIn_of _ (by decide +kernel)) ggX6_made_X6_has
set_option maxRecDepth 20000 in
theorem ggX6_made_X6_in : GoodIn wsX6_made wsX6_in := goodIn_r _ [16] (by decide +kernel) (by decide +kernel)
set_option maxRecDepth 20000 in
theorem gX6_made_X6_in : GoodIn wsX6_made (va_wsS RX6 100 yX6_in wsX6_in) := goodIn_app (goodIn_of _ (by decide +kernel)) ggX6_made_X6_in
set_option maxRecDepth 20000 in
theorem ggX6_made_X6_list : GoodIn wsX6_made wsX6_list := goodIn_r _ [34, 2, 3, 27, 35, 30, 36, 37, 38, 8, 39, 21, 22, 40, 41, 42, 43, 44, 45, 46, 47, 73, 74, 75, 76, 77, 78, 79, 80, 81, 82, 83, 84, 85, 86, 87, 88, 89, 90] (by decide +kernel) (by decide +kernel)
set_option maxRecDepth 20000 in
theorem gX6_made_X6_list : GoodIn wsX6_made (wsV RX6 89 RX6 yX6_list wsX6_list) := goodIn_app (goodIn_of _ (by decide +kernel)) ggX6_made_X6_list
set_option maxRecDepth 20000 in
theorem ggX6_made_X6_orderOf : GoodIn wsX6_made wsX6_orderOf := goodIn_r _ [51, 2, 31, 32, 33, 8, 34, 3, 27, 35, 30, 36, 37, 38, 39, 21, 22, 40, 41, 42, 43, 44, 45, 46, 47, 52, 53, 54, 55, 56, 57, 58, 59, 60, 61, 62, 63, 64, 1, 29, 73, 74, 75, 76, 77, 78, 79, 80, 81, 82, 83, 84, 85, 86, 87, 88, 89, 90] (by decide +kernel) (by decide +kernel)
set_option maxRecDepth 20000 in
theorem gX6_made_X6_orderOf : GoodIn wsX6_made (wsV RX6 162 RX6 yX6_orderOf wsX6_orderOf) := goodIn_app (goodIn_of _ (by decide +kernel)) ggX6_made_X6_orderOf
set_option maxRecDepth 20000 in
theorem ggX6_made_X6_placeOf : GoodIn wsX6_made wsX6_placeOf := goodIn_r _ [68, 35, 3, 73, 74, 75, 76, 77, 78, 79, 80, 81, 82, 83, 84, 85, 86, 87, 88, 89, 90] (by decide +kernel) (by decide +kernel)
set_option maxRecDepth 20000 in
theorem gX6_made_X6_placeOf : GoodIn wsX6_made (wsV RX6 168 RX6 yX6_placeOf wsX6_placeOf) := goodIn_app (goodIn_of _ (by decide +kernel)) ggX6_made_X6_placeOf
set_option maxRecDepth 20000 in
theorem ggX6_made_X6_sum : GoodIn wsX6_made wsX6_sum := goodIn_r _ [64, 27, 1, 21, 29, 56, 40, 41, 42, 8, 43, 44, 45, 46, 47, 73, 74, 75, 76, 77, 78, 79, 80, 81, 82, 83, 84, 85, 86, 87, 88, 89, 90] (by decide +kernel) (by decide +kernel)
set_option maxRecDepth 20000 in
theorem gX6_made_X6_sum : GoodIn wsX6_made (wsV RX6 86 RX6 yX6_sum wsX6_sum) := goodIn_app (goodIn_of _ (by decide +kernel)) ggX6_made_X6_sum
set_option maxRecDepth 20000 in
theorem ggX6_made_X6_isApart : GoodIn wsX6_made wsX6_isApart := goodIn_r _ [72, 4, 65, 66, 67, 8, 68, 35, 3, 61, 62, 63, 64, 27, 1, 21, 29, 56, 40, 41, 42, 43, 44, 45, 46, 47, 73, 74, 75, 76, 77, 78, 79, 80, 81, 82, 83, 84, 85, 86, 87, 88, 89, 90] (by decide +kernel) (by decide +kernel)
set_option maxRecDepth 20000 in
theorem gX6_made_X6_isApart : GoodIn wsX6_made (wsV RX6 171 RX6 yX6_isApart wsX6_isApart) := goodIn_app (goodIn_of _ (by decide +kernel)) ggX6_made_X6_isApart
theorem dX6_made_8 : decode cX6_made 8 = .ok (.iload_n 2, 1) := by decide +kernel
theorem dX6_made_9 : decode cX6_made 9 = .ok (.i2l, 1) := by decide +kernel
theorem dX6_made_10 : decode cX6_made 10 = .ok (.lconst 0, 1) := by decide +kernel
theorem dX6_made_11 : decode cX6_made 11 = .ok (.ldc2_w 79, 3) := by decide +kernel
theorem dX6_made_14 : decode cX6_made 14 = .ok (.invokestatic 100, 3) := by decide +kernel
theorem dX6_made_17 : decode cX6_made 17 = .ok (.ifCond .ne 6, 3) := by decide +kernel
theorem dX6_made_23 : decode cX6_made 23 = .ok (.aload_n 0, 1) := by decide +kernel
theorem dX6_made_24 : decode cX6_made 24 = .ok (.invokevirtual 89, 3) := by decide +kernel
theorem dX6_made_27 : decode cX6_made 27 = .ok (.iconst 0, 1) := by decide +kernel
theorem dX6_made_28 : decode cX6_made 28 = .ok (.istore_n 3, 1) := by decide +kernel
theorem dX6_made_29 : decode cX6_made 29 = .ok (.iconst (-1), 1) := by decide +kernel
theorem dX6_made_30 : decode cX6_made 30 = .ok (.istore 4, 2) := by decide +kernel
theorem dX6_made_32 : decode cX6_made 32 = .ok (.iconst 0, 1) := by decide +kernel
theorem dX6_made_33 : decode cX6_made 33 = .ok (.istore 5, 2) := by decide +kernel
theorem dX6_made_35 : decode cX6_made 35 = .ok (.iload 5, 2) := by decide +kernel
theorem dX6_made_37 : decode cX6_made 37 = .ok (.aload_n 0, 1) := by decide +kernel
theorem dX6_made_38 : decode cX6_made 38 = .ok (.getfield 54, 3) := by decide +kernel
theorem dX6_made_41 : decode cX6_made 41 = .ok (.if_icmp .ge 55, 3) := by decide +kernel
theorem dX6_made_44 : decode cX6_made 44 = .ok (.aload_n 0, 1) := by decide +kernel
theorem dX6_made_45 : decode cX6_made 45 = .ok (.aload_n 0, 1) := by decide +kernel
theorem dX6_made_46 : decode cX6_made 46 = .ok (.getfield 16, 3) := by decide +kernel
theorem dX6_made_49 : decode cX6_made 49 = .ok (.iload 5, 2) := by decide +kernel
theorem dX6_made_51 : decode cX6_made 51 = .ok (.iaload, 1) := by decide +kernel
theorem dX6_made_52 : decode cX6_made 52 = .ok (.invokevirtual 162, 3) := by decide +kernel
theorem dX6_made_55 : decode cX6_made 55 = .ok (.istore 6, 2) := by decide +kernel
theorem dX6_made_57 : decode cX6_made 57 = .ok (.iload 6, 2) := by decide +kernel
theorem dX6_made_59 : decode cX6_made 59 = .ok (.iload_n 3, 1) := by decide +kernel
theorem dX6_made_60 : decode cX6_made 60 = .ok (.if_icmp .le 13, 3) := by decide +kernel
theorem dX6_made_63 : decode cX6_made 63 = .ok (.aload_n 0, 1) := by decide +kernel
theorem dX6_made_64 : decode cX6_made 64 = .ok (.getfield 16, 3) := by decide +kernel
theorem dX6_made_67 : decode cX6_made 67 = .ok (.iload 5, 2) := by decide +kernel
theorem dX6_made_69 : decode cX6_made 69 = .ok (.iaload, 1) := by decide +kernel
theorem dX6_made_70 : decode cX6_made 70 = .ok (.goto 5, 3) := by decide +kernel
theorem dX6_made_73 : decode cX6_made 73 = .ok (.iload 4, 2) := by decide +kernel
theorem dX6_made_75 : decode cX6_made 75 = .ok (.istore 4, 2) := by decide +kernel
theorem dX6_made_77 : decode cX6_made 77 = .ok (.iload 6, 2) := by decide +kernel
theorem dX6_made_79 : decode cX6_made 79 = .ok (.iload_n 3, 1) := by decide +kernel
theorem dX6_made_80 : decode cX6_made 80 = .ok (.if_icmp .le 8, 3) := by decide +kernel
theorem dX6_made_83 : decode cX6_made 83 = .ok (.iload 6, 2) := by decide +kernel
theorem dX6_made_85 : decode cX6_made 85 = .ok (.goto 4, 3) := by decide +kernel
theorem dX6_made_88 : decode cX6_made 88 = .ok (.iload_n 3, 1) := by decide +kernel
theorem dX6_made_89 : decode cX6_made 89 = .ok (.istore_n 3, 1) := by decide +kernel
theorem dX6_made_90 : decode cX6_made 90 = .ok (.iinc 5 1, 3) := by decide +kernel
theorem dX6_made_93 : decode cX6_made 93 = .ok (.goto (-58), 3) := by decide +kernel
theorem dX6_made_96 : decode cX6_made 96 = .ok (.aload_n 0, 1) := by decide +kernel
theorem dX6_made_97 : decode cX6_made 97 = .ok (.getfield 54, 3) := by decide +kernel
theorem dX6_made_100 : decode cX6_made 100 = .ok (.iload_n 3, 1) := by decide +kernel
theorem dX6_made_101 : decode cX6_made 101 = .ok (.idiv, 1) := by decide +kernel
theorem dX6_made_102 : decode cX6_made 102 = .ok (.istore 5, 2) := by decide +kernel
theorem dX6_made_104 : decode cX6_made 104 = .ok (.iload_n 2, 1) := by decide +kernel
theorem dX6_made_105 : decode cX6_made 105 = .ok (.iconst 3, 1) := by decide +kernel
theorem dX6_made_106 : decode cX6_made 106 = .ok (.if_icmp .ge 24, 3) := by decide +kernel
theorem dX6_made_109 : decode cX6_made 109 = .ok (.iload_n 2, 1) := by decide +kernel
theorem dX6_made_110 : decode cX6_made 110 = .ok (.ifCond .ne 8, 3) := by decide +kernel
theorem dX6_made_113 : decode cX6_made 113 = .ok (.iload 5, 2) := by decide +kernel
theorem dX6_made_115 : decode cX6_made 115 = .ok (.goto 14, 3) := by decide +kernel
theorem dX6_made_118 : decode cX6_made 118 = .ok (.iload_n 2, 1) := by decide +kernel
theorem dX6_made_119 : decode cX6_made 119 = .ok (.iconst 1, 1) := by decide +kernel
theorem dX6_made_120 : decode cX6_made 120 = .ok (.if_icmp .ne 7, 3) := by decide +kernel
theorem dX6_made_123 : decode cX6_made 123 = .ok (.iload_n 3, 1) := by decide +kernel
theorem dX6_made_124 : decode cX6_made 124 = .ok (.goto 5, 3) := by decide +kernel
theorem dX6_made_127 : decode cX6_made 127 = .ok (.iload 4, 2) := by decide +kernel
theorem dX6_made_129 : decode cX6_made 129 = .ok (.ireturn, 1) := by decide +kernel
theorem dX6_made_130 : decode cX6_made 130 = .ok (.iconst 0, 1) := by decide +kernel
theorem dX6_made_131 : decode cX6_made 131 = .ok (.istore 6, 2) := by decide +kernel
theorem dX6_made_133 : decode cX6_made 133 = .ok (.iload 6, 2) := by decide +kernel
theorem dX6_made_135 : decode cX6_made 135 = .ok (.aload_n 0, 1) := by decide +kernel
theorem dX6_made_136 : decode cX6_made 136 = .ok (.getfield 54, 3) := by decide +kernel
theorem dX6_made_139 : decode cX6_made 139 = .ok (.if_icmp .ge 17, 3) := by decide +kernel
theorem dX6_made_142 : decode cX6_made 142 = .ok (.aload_n 0, 1) := by decide +kernel
theorem dX6_made_143 : decode cX6_made 143 = .ok (.getfield 40, 3) := by decide +kernel
theorem dX6_made_146 : decode cX6_made 146 = .ok (.iload 6, 2) := by decide +kernel
theorem dX6_made_148 : decode cX6_made 148 = .ok (.iconst 0, 1) := by decide +kernel
theorem dX6_made_149 : decode cX6_made 149 = .ok (.bastore, 1) := by decide +kernel
theorem dX6_made_150 : decode cX6_made 150 = .ok (.iinc 6 1, 3) := by decide +kernel
theorem dX6_made_153 : decode cX6_made 153 = .ok (.goto (-20), 3) := by decide +kernel
theorem dX6_made_156 : decode cX6_made 156 = .ok (.iconst (-1), 1) := by decide +kernel
theorem dX6_made_157 : decode cX6_made 157 = .ok (.istore 6, 2) := by decide +kernel
theorem dX6_made_159 : decode cX6_made 159 = .ok (.iconst 0, 1) := by decide +kernel
theorem dX6_made_160 : decode cX6_made 160 = .ok (.istore 7, 2) := by decide +kernel
theorem dX6_made_162 : decode cX6_made 162 = .ok (.iload 7, 2) := by decide +kernel
theorem dX6_made_164 : decode cX6_made 164 = .ok (.iload_n 3, 1) := by decide +kernel
theorem dX6_made_165 : decode cX6_made 165 = .ok (.if_icmp .ge 31, 3) := by decide +kernel
theorem dX6_made_168 : decode cX6_made 168 = .ok (.aload_n 0, 1) := by decide +kernel
theorem dX6_made_169 : decode cX6_made 169 = .ok (.getfield 40, 3) := by decide +kernel
theorem dX6_made_172 : decode cX6_made 172 = .ok (.aload_n 0, 1) := by decide +kernel
theorem dX6_made_173 : decode cX6_made 173 = .ok (.iload 6, 2) := by decide +kernel
theorem dX6_made_175 : decode cX6_made 175 = .ok (.invokevirtual 168, 3) := by decide +kernel
theorem dX6_made_178 : decode cX6_made 178 = .ok (.iconst 1, 1) := by decide +kernel
theorem dX6_made_179 : decode cX6_made 179 = .ok (.bastore, 1) := by decide +kernel
theorem dX6_made_180 : decode cX6_made 180 = .ok (.aload_n 0, 1) := by decide +kernel
theorem dX6_made_181 : decode cX6_made 181 = .ok (.iload 6, 2) := by decide +kernel
theorem dX6_made_183 : decode cX6_made 183 = .ok (.iload 4, 2) := by decide +kernel
theorem dX6_made_185 : decode cX6_made 185 = .ok (.invokevirtual 86, 3) := by decide +kernel
theorem dX6_made_188 : decode cX6_made 188 = .ok (.istore 6, 2) := by decide +kernel
theorem dX6_made_190 : decode cX6_made 190 = .ok (.iinc 7 1, 3) := by decide +kernel
theorem dX6_made_193 : decode cX6_made 193 = .ok (.goto (-31), 3) := by decide +kernel
theorem dX6_made_196 : decode cX6_made 196 = .ok (.iconst 0, 1) := by decide +kernel
theorem dX6_made_197 : decode cX6_made 197 = .ok (.istore 7, 2) := by decide +kernel
theorem dX6_made_199 : decode cX6_made 199 = .ok (.iload 7, 2) := by decide +kernel
theorem dX6_made_201 : decode cX6_made 201 = .ok (.aload_n 0, 1) := by decide +kernel
theorem dX6_made_202 : decode cX6_made 202 = .ok (.getfield 54, 3) := by decide +kernel
theorem dX6_made_205 : decode cX6_made 205 = .ok (.if_icmp .ge 49, 3) := by decide +kernel
theorem dX6_made_208 : decode cX6_made 208 = .ok (.aload_n 0, 1) := by decide +kernel
theorem dX6_made_209 : decode cX6_made 209 = .ok (.aload_n 0, 1) := by decide +kernel
theorem dX6_made_210 : decode cX6_made 210 = .ok (.getfield 16, 3) := by decide +kernel
theorem dX6_made_213 : decode cX6_made 213 = .ok (.iload 7, 2) := by decide +kernel
theorem dX6_made_215 : decode cX6_made 215 = .ok (.iaload, 1) := by decide +kernel
theorem dX6_made_216 : decode cX6_made 216 = .ok (.invokevirtual 162, 3) := by decide +kernel
theorem dX6_made_219 : decode cX6_made 219 = .ok (.iload 5, 2) := by decide +kernel
theorem dX6_made_221 : decode cX6_made 221 = .ok (.if_icmp .ne 27, 3) := by decide +kernel
theorem dX6_made_224 : decode cX6_made 224 = .ok (.aload_n 0, 1) := by decide +kernel
theorem dX6_made_225 : decode cX6_made 225 = .ok (.aload_n 0, 1) := by decide +kernel
theorem dX6_made_226 : decode cX6_made 226 = .ok (.getfield 16, 3) := by decide +kernel
theorem dX6_made_229 : decode cX6_made 229 = .ok (.iload 7, 2) := by decide +kernel
theorem dX6_made_231 : decode cX6_made 231 = .ok (.iaload, 1) := by decide +kernel
theorem dX6_made_232 : decode cX6_made 232 = .ok (.iload 5, 2) := by decide +kernel
theorem dX6_made_234 : decode cX6_made 234 = .ok (.invokevirtual 171, 3) := by decide +kernel
theorem dX6_made_237 : decode cX6_made 237 = .ok (.ifCond .eq 11, 3) := by decide +kernel
theorem dX6_made_240 : decode cX6_made 240 = .ok (.aload_n 0, 1) := by decide +kernel
theorem dX6_made_241 : decode cX6_made 241 = .ok (.getfield 16, 3) := by decide +kernel
theorem dX6_made_244 : decode cX6_made 244 = .ok (.iload 7, 2) := by decide +kernel
theorem dX6_made_246 : decode cX6_made 246 = .ok (.iaload, 1) := by decide +kernel
theorem dX6_made_247 : decode cX6_made 247 = .ok (.ireturn, 1) := by decide +kernel
theorem dX6_made_248 : decode cX6_made 248 = .ok (.iinc 7 1, 3) := by decide +kernel
theorem dX6_made_251 : decode cX6_made 251 = .ok (.goto (-52), 3) := by decide +kernel
theorem dX6_made_254 : decode cX6_made 254 = .ok (.iconst (-1), 1) := by decide +kernel
theorem dX6_made_255 : decode cX6_made 255 = .ok (.ireturn, 1) := by decide +kernel
set_option maxRecDepth 20000 in
theorem ggX6_halves_X6_has : GoodIn wsX6_halves wsX6_has := goodIn_r _ [7, 8, 9, 10, 11, 12, 13, 6, 14, 15, 16, 17, 18, 19, 20, 1, 21, 22, 23, 24, 25, 26, 27, 28, 56, 57, 58, 59, 60, 61, 62, 63, 64, 65, 66, 67, 68, 69, 70, 71, 72, 73] (by decide +kernel) (by decide +kernel)
set_option maxRecDepth 20000 in
theorem gX6_halves_X6_has : GoodIn wsX6_halves (wsV RX6 132 RX6 yX6_has wsX6_has) := goodIn_app (goodIn_of _ (by decide +kernel)) ggX6_halves_X6_has
set_option maxRecDepth 20000 in
theorem ggX6_halves_X6_isPoint : GoodIn wsX6_halves wsX6_isPoint := goodIn_r _ [32, 25, 33, 34, 35, 6, 36, 37, 38, 39, 40, 19, 20, 41, 42, 43, 44, 56, 57, 58, 59, 60, 61, 62, 63, 64, 65, 66, 67, 68, 69, 70, 71, 72, 73] (by decide +kernel) (by decide +kernel)
set_option maxRecDepth 20000 in
theorem gX6_halves_X6_isPoint : GoodIn wsX6_halves (wsV RX6 151 RX6 yX6_isPoint wsX6_isPoint) := goodIn_app (goodIn_of _ (by decide +kernel)) ggX6_halves_X6_isPoint
set_option maxRecDepth 20000 in
theorem ggX6_halves_X6_list : GoodIn wsX6_halves wsX6_list := goodIn_r _ [48, 1, 2, 25, 49, 28, 37, 38, 39, 6, 40, 19, 20, 33, 34, 35, 36, 41, 42, 43, 44, 56, 57, 58, 59, 60, 61, 62, 63, 64, 65, 66, 67, 68, 69, 70, 71, 72, 73] (by decide +kernel) (by decide +kernel)
set_option maxRecDepth 20000 in
theorem gX6_halves_X6_list : GoodIn wsX6_halves (wsV RX6 89 RX6 yX6_list wsX6_list) := goodIn_app (goodIn_of _ (by decide +kernel)) ggX6_halves_X6_list
set_option maxRecDepth 20000 in
theorem ggX6_halves_X6_sum : GoodIn wsX6_halves wsX6_sum := goodIn_r _ [53, 25, 54, 19, 27, 55, 33, 34, 35, 6, 36, 41, 42, 43, 44, 56, 57, 58, 59, 60, 61, 62, 63, 64, 65, 66, 67, 68, 69, 70, 71, 72, 73] (by decide +kernel) (by decide +kernel)
set_option maxRecDepth 20000 in
theorem gX6_halves_X6_sum : GoodIn wsX6_halves (wsV RX6 86 RX6 yX6_sum wsX6_sum) := goodIn_app (goodIn_of _ (by decide +kernel)) ggX6_halves_X6_sum
theorem dX6_halves_8 : decode cX6_halves 8 = .ok (.aload_n 0, 1) := by decide +kernel
theorem dX6_halves_9 : decode cX6_halves 9 = .ok (.iload_n 2, 1) := by decide +kernel
theorem dX6_halves_10 : decode cX6_halves 10 = .ok (.invokevirtual 151, 3) := by decide +kernel
theorem dX6_halves_13 : decode cX6_halves 13 = .ok (.ifCond .ne 6, 3) := by decide +kernel
theorem dX6_halves_19 : decode cX6_halves 19 = .ok (.aload_n 0, 1) := by decide +kernel
theorem dX6_halves_20 : decode cX6_halves 20 = .ok (.invokevirtual 89, 3) := by decide +kernel
theorem dX6_halves_23 : decode cX6_halves 23 = .ok (.iconst 0, 1) := by decide +kernel
theorem dX6_halves_24 : decode cX6_halves 24 = .ok (.istore_n 3, 1) := by decide +kernel
theorem dX6_halves_25 : decode cX6_halves 25 = .ok (.iconst 0, 1) := by decide +kernel
theorem dX6_halves_26 : decode cX6_halves 26 = .ok (.istore 4, 2) := by decide +kernel
theorem dX6_halves_28 : decode cX6_halves 28 = .ok (.iload 4, 2) := by decide +kernel
theorem dX6_halves_30 : decode cX6_halves 30 = .ok (.aload_n 0, 1) := by decide +kernel
theorem dX6_halves_31 : decode cX6_halves 31 = .ok (.getfield 54, 3) := by decide +kernel
theorem dX6_halves_34 : decode cX6_halves 34 = .ok (.if_icmp .ge 39, 3) := by decide +kernel
theorem dX6_halves_37 : decode cX6_halves 37 = .ok (.iload_n 3, 1) := by decide +kernel
theorem dX6_halves_38 : decode cX6_halves 38 = .ok (.aload_n 0, 1) := by decide +kernel
theorem dX6_halves_39 : decode cX6_halves 39 = .ok (.aload_n 0, 1) := by decide +kernel
theorem dX6_halves_40 : decode cX6_halves 40 = .ok (.getfield 16, 3) := by decide +kernel
theorem dX6_halves_43 : decode cX6_halves 43 = .ok (.iload 4, 2) := by decide +kernel
theorem dX6_halves_45 : decode cX6_halves 45 = .ok (.iaload, 1) := by decide +kernel
theorem dX6_halves_46 : decode cX6_halves 46 = .ok (.aload_n 0, 1) := by decide +kernel
theorem dX6_halves_47 : decode cX6_halves 47 = .ok (.getfield 16, 3) := by decide +kernel
theorem dX6_halves_50 : decode cX6_halves 50 = .ok (.iload 4, 2) := by decide +kernel
theorem dX6_halves_52 : decode cX6_halves 52 = .ok (.iaload, 1) := by decide +kernel
theorem dX6_halves_53 : decode cX6_halves 53 = .ok (.invokevirtual 86, 3) := by decide +kernel
theorem dX6_halves_56 : decode cX6_halves 56 = .ok (.iload_n 2, 1) := by decide +kernel
theorem dX6_halves_57 : decode cX6_halves 57 = .ok (.if_icmp .ne 7, 3) := by decide +kernel
theorem dX6_halves_60 : decode cX6_halves 60 = .ok (.iconst 1, 1) := by decide +kernel
theorem dX6_halves_61 : decode cX6_halves 61 = .ok (.goto 4, 3) := by decide +kernel
theorem dX6_halves_64 : decode cX6_halves 64 = .ok (.iconst 0, 1) := by decide +kernel
theorem dX6_halves_65 : decode cX6_halves 65 = .ok (.iadd, 1) := by decide +kernel
theorem dX6_halves_66 : decode cX6_halves 66 = .ok (.istore_n 3, 1) := by decide +kernel
theorem dX6_halves_67 : decode cX6_halves 67 = .ok (.iinc 4 1, 3) := by decide +kernel
theorem dX6_halves_70 : decode cX6_halves 70 = .ok (.goto (-42), 3) := by decide +kernel
theorem dX6_halves_73 : decode cX6_halves 73 = .ok (.iload_n 3, 1) := by decide +kernel
theorem dX6_halves_74 : decode cX6_halves 74 = .ok (.ireturn, 1) := by decide +kernel
set_option maxRecDepth 20000 in
theorem ggX6_half_X6_has : GoodIn wsX6_half wsX6_has := goodIn_r _ [7, 8, 9, 10, 11, 12, 13, 6, 14, 15, 16, 17, 18, 19, 20, 1, 21, 22, 23, 24, 25, 26, 27, 28, 56, 57, 58, 59, 60, 61, 62, 63, 64, 65, 66, 67, 68, 69, 70, 71, 72, 73] (by decide +kernel) (by decide +kernel)
set_option maxRecDepth 20000 in
theorem gX6_half_X6_has : GoodIn wsX6_half (wsV RX6 132 RX6 yX6_has wsX6_has) := goodIn_app (goodIn_of _ (by decide +kernel)) ggX6_half_X6_has
set_option maxRecDepth 20000 in
theorem ggX6_half_X6_isPoint : GoodIn wsX6_half wsX6_isPoint := goodIn_r _ [32, 25, 33, 34, 35, 6, 36, 37, 38, 39, 40, 19, 20, 41, 42, 43, 44, 56, 57, 58, 59, 60, 61, 62, 63, 64, 65, 66, 67, 68, 69, 70, 71, 72, 73] (by decide +kernel) (by decide +kernel)
set_option maxRecDepth 20000 in
theorem gX6_half_X6_isPoint : GoodIn wsX6_half (wsV RX6 151 RX6 yX6_isPoint wsX6_isPoint) := goodIn_app (goodIn_of _ (by decide +kernel)) ggX6_half_X6_isPoint
set_option maxRecDepth 20000 in
theorem ggX6_half_X6_list : GoodIn wsX6_half wsX6_list := goodIn_r _ [48, 1, 2, 25, 49, 28, 37, 38, 39, 6, 40, 19, 20, 33, 34, 35, 36, 41, 42, 43, 44, 56, 57, 58, 59, 60, 61, 62, 63, 64, 65, 66, 67, 68, 69, 70, 71, 72, 73] (by decide +kernel) (by decide +kernel)
set_option maxRecDepth 20000 in
theorem gX6_half_X6_list : GoodIn wsX6_half (wsV RX6 89 RX6 yX6_list wsX6_list) := goodIn_app (goodIn_of _ (by decide +kernel)) ggX6_half_X6_list
set_option maxRecDepth 20000 in
theorem ggX6_half_X6_sum : GoodIn wsX6_half wsX6_sum := goodIn_r _ [53, 25, 54, 19, 27, 55, 33, 34, 35, 6, 36, 41, 42, 43, 44, 56, 57, 58, 59, 60, 61, 62, 63, 64, 65, 66, 67, 68, 69, 70, 71, 72, 73] (by decide +kernel) (by decide +kernel)
set_option maxRecDepth 20000 in
theorem gX6_half_X6_sum : GoodIn wsX6_half (wsV RX6 86 RX6 yX6_sum wsX6_sum) := goodIn_app (goodIn_of _ (by decide +kernel)) ggX6_half_X6_sum
theorem dX6_half_8 : decode cX6_half 8 = .ok (.aload_n 0, 1) := by decide +kernel
theorem dX6_half_9 : decode cX6_half 9 = .ok (.iload_n 2, 1) := by decide +kernel
theorem dX6_half_10 : decode cX6_half 10 = .ok (.invokevirtual 151, 3) := by decide +kernel
theorem dX6_half_13 : decode cX6_half 13 = .ok (.ifCond .ne 6, 3) := by decide +kernel
theorem dX6_half_19 : decode cX6_half 19 = .ok (.aload_n 0, 1) := by decide +kernel
theorem dX6_half_20 : decode cX6_half 20 = .ok (.invokevirtual 89, 3) := by decide +kernel
theorem dX6_half_23 : decode cX6_half 23 = .ok (.iload_n 3, 1) := by decide +kernel
theorem dX6_half_24 : decode cX6_half 24 = .ok (.istore 4, 2) := by decide +kernel
theorem dX6_half_26 : decode cX6_half 26 = .ok (.iconst 0, 1) := by decide +kernel
theorem dX6_half_27 : decode cX6_half 27 = .ok (.istore 5, 2) := by decide +kernel
theorem dX6_half_29 : decode cX6_half 29 = .ok (.iload 5, 2) := by decide +kernel
theorem dX6_half_31 : decode cX6_half 31 = .ok (.aload_n 0, 1) := by decide +kernel
theorem dX6_half_32 : decode cX6_half 32 = .ok (.getfield 54, 3) := by decide +kernel
theorem dX6_half_35 : decode cX6_half 35 = .ok (.if_icmp .ge 52, 3) := by decide +kernel
theorem dX6_half_38 : decode cX6_half 38 = .ok (.iload 4, 2) := by decide +kernel
theorem dX6_half_40 : decode cX6_half 40 = .ok (.ifCond .lt 47, 3) := by decide +kernel
theorem dX6_half_43 : decode cX6_half 43 = .ok (.aload_n 0, 1) := by decide +kernel
theorem dX6_half_44 : decode cX6_half 44 = .ok (.aload_n 0, 1) := by decide +kernel
theorem dX6_half_45 : decode cX6_half 45 = .ok (.getfield 16, 3) := by decide +kernel
theorem dX6_half_48 : decode cX6_half 48 = .ok (.iload 5, 2) := by decide +kernel
theorem dX6_half_50 : decode cX6_half 50 = .ok (.iaload, 1) := by decide +kernel
theorem dX6_half_51 : decode cX6_half 51 = .ok (.aload_n 0, 1) := by decide +kernel
theorem dX6_half_52 : decode cX6_half 52 = .ok (.getfield 16, 3) := by decide +kernel
theorem dX6_half_55 : decode cX6_half 55 = .ok (.iload 5, 2) := by decide +kernel
theorem dX6_half_57 : decode cX6_half 57 = .ok (.iaload, 1) := by decide +kernel
theorem dX6_half_58 : decode cX6_half 58 = .ok (.invokevirtual 86, 3) := by decide +kernel
theorem dX6_half_61 : decode cX6_half 61 = .ok (.iload_n 2, 1) := by decide +kernel
theorem dX6_half_62 : decode cX6_half 62 = .ok (.if_icmp .ne 19, 3) := by decide +kernel
theorem dX6_half_65 : decode cX6_half 65 = .ok (.iload 4, 2) := by decide +kernel
theorem dX6_half_67 : decode cX6_half 67 = .ok (.ifCond .ne 11, 3) := by decide +kernel
theorem dX6_half_70 : decode cX6_half 70 = .ok (.aload_n 0, 1) := by decide +kernel
theorem dX6_half_71 : decode cX6_half 71 = .ok (.getfield 16, 3) := by decide +kernel
theorem dX6_half_74 : decode cX6_half 74 = .ok (.iload 5, 2) := by decide +kernel
theorem dX6_half_76 : decode cX6_half 76 = .ok (.iaload, 1) := by decide +kernel
theorem dX6_half_77 : decode cX6_half 77 = .ok (.ireturn, 1) := by decide +kernel
theorem dX6_half_78 : decode cX6_half 78 = .ok (.iinc 4 (-1), 3) := by decide +kernel
theorem dX6_half_81 : decode cX6_half 81 = .ok (.iinc 5 1, 3) := by decide +kernel
theorem dX6_half_84 : decode cX6_half 84 = .ok (.goto (-55), 3) := by decide +kernel
theorem dX6_half_87 : decode cX6_half 87 = .ok (.iconst (-1), 1) := by decide +kernel
theorem dX6_half_88 : decode cX6_half 88 = .ok (.ireturn, 1) := by decide +kernel
set_option maxRecDepth 20000 in
theorem ggX6_log_X6_has : GoodIn wsX6_log wsX6_has := goodIn_r _ [5, 6, 7, 8, 9, 10, 11, 4, 12, 13, 14, 15, 16, 17, 18, 19, 20, 21, 22, 23, 24, 25, 26, 27, 50, 51, 52, 53, 54, 55, 56, 57, 58, 59, 60, 61, 62, 63, 64, 65, 66, 67] (by decide +kernel) (by decide +kernel)
set_option maxRecDepth 20000 in
theorem gX6_log_X6_has : GoodIn wsX6_log (wsV RX6 132 RX6 yX6_has wsX6_has) := goodIn_app (goodIn_of _ (by decide +kernel)) ggX6_log_X6_has
set_option maxRecDepth 20000 in
theorem ggX6_log_X6_isPoint : GoodIn wsX6_log wsX6_isPoint := goodIn_r _ [31, 24, 32, 33, 34, 4, 35, 36, 37, 38, 39, 17, 18, 40, 41, 42, 43, 50, 51, 52, 53, 54, 55, 56, 57, 58, 59, 60, 61, 62, 63, 64, 65, 66, 67] (by decide +kernel) (by decide +kernel)
set_option maxRecDepth 20000 in
theorem gX6_log_X6_isPoint : GoodIn wsX6_log (wsV RX6 151 RX6 yX6_isPoint wsX6_isPoint) := goodIn_app (goodIn_of _ (by decide +kernel)) ggX6_log_X6_isPoint
set_option maxRecDepth 20000 in
theorem ggX6_log_X6_sum : GoodIn wsX6_log wsX6_sum := goodIn_r _ [47, 24, 48, 17, 26, 49, 32, 33, 34, 4, 35, 40, 41, 42, 43, 50, 51, 52, 53, 54, 55, 56, 57, 58, 59, 60, 61, 62, 63, 64, 65, 66, 67] (by decide +kernel) (by decide +kernel)
set_option maxRecDepth 20000 in
theorem gX6_log_X6_sum : GoodIn wsX6_log (wsV RX6 86 RX6 yX6_sum wsX6_sum) := goodIn_app (goodIn_of _ (by decide +kernel)) ggX6_log_X6_sum
theorem dX6_log_8 : decode cX6_log 8 = .ok (.aload_n 0, 1) := by decide +kernel
theorem dX6_log_9 : decode cX6_log 9 = .ok (.iload_n 2, 1) := by decide +kernel
theorem dX6_log_10 : decode cX6_log 10 = .ok (.invokevirtual 151, 3) := by decide +kernel
theorem dX6_log_13 : decode cX6_log 13 = .ok (.ifCond .eq 11, 3) := by decide +kernel
theorem dX6_log_16 : decode cX6_log 16 = .ok (.aload_n 0, 1) := by decide +kernel
theorem dX6_log_17 : decode cX6_log 17 = .ok (.iload_n 3, 1) := by decide +kernel
theorem dX6_log_18 : decode cX6_log 18 = .ok (.invokevirtual 151, 3) := by decide +kernel
theorem dX6_log_21 : decode cX6_log 21 = .ok (.ifCond .ne 6, 3) := by decide +kernel
theorem dX6_log_27 : decode cX6_log 27 = .ok (.iconst (-1), 1) := by decide +kernel
theorem dX6_log_28 : decode cX6_log 28 = .ok (.istore 4, 2) := by decide +kernel
theorem dX6_log_30 : decode cX6_log 30 = .ok (.iconst 0, 1) := by decide +kernel
theorem dX6_log_31 : decode cX6_log 31 = .ok (.istore 5, 2) := by decide +kernel
theorem dX6_log_33 : decode cX6_log 33 = .ok (.iload 4, 2) := by decide +kernel
theorem dX6_log_35 : decode cX6_log 35 = .ok (.iload_n 3, 1) := by decide +kernel
theorem dX6_log_36 : decode cX6_log 36 = .ok (.if_icmp .eq 23, 3) := by decide +kernel
theorem dX6_log_39 : decode cX6_log 39 = .ok (.aload_n 0, 1) := by decide +kernel
theorem dX6_log_40 : decode cX6_log 40 = .ok (.iload 4, 2) := by decide +kernel
theorem dX6_log_42 : decode cX6_log 42 = .ok (.iload_n 2, 1) := by decide +kernel
theorem dX6_log_43 : decode cX6_log 43 = .ok (.invokevirtual 86, 3) := by decide +kernel
theorem dX6_log_46 : decode cX6_log 46 = .ok (.istore 4, 2) := by decide +kernel
theorem dX6_log_48 : decode cX6_log 48 = .ok (.iinc 5 1, 3) := by decide +kernel
theorem dX6_log_51 : decode cX6_log 51 = .ok (.iload 4, 2) := by decide +kernel
theorem dX6_log_53 : decode cX6_log 53 = .ok (.iconst (-1), 1) := by decide +kernel
theorem dX6_log_54 : decode cX6_log 54 = .ok (.if_icmp .ne (-21), 3) := by decide +kernel
theorem dX6_log_57 : decode cX6_log 57 = .ok (.iconst (-1), 1) := by decide +kernel
theorem dX6_log_58 : decode cX6_log 58 = .ok (.ireturn, 1) := by decide +kernel
theorem dX6_log_59 : decode cX6_log 59 = .ok (.iload 5, 2) := by decide +kernel
theorem dX6_log_61 : decode cX6_log 61 = .ok (.ireturn, 1) := by decide +kernel
set_option maxRecDepth 20000 in
theorem ggX6_embedding_X6_has : GoodIn wsX6_embedding wsX6_has := goodIn_r _ [8, 9, 10, 11, 12, 13, 14, 7, 15, 16, 17, 18, 19, 20, 21, 22, 23, 24, 25, 26, 3, 27, 28, 29, 30, 31, 32, 33, 34, 35, 36, 37, 38, 39, 40, 41, 42, 43, 44, 45, 46, 47] (by decide +kernel) (by decide +kernel)
set_option maxRecDepth 20000 in
theorem gX6_embedding_X6_has : GoodIn wsX6_embedding (wsV RX6 132 RX6 yX6_has wsX6_has) := goodIn_app (goodIn_of _ (by decide +kernel)) ggX6_embedding_X6_has
set_option maxRecDepth 20000 in
theorem ggX6_embedding_X6_in : GoodIn wsX6_embedding wsX6_in := goodIn_r _ [15] (by decide +kernel) (by decide +kernel)
set_option maxRecDepth 20000 in
theorem gX6_embedding_X6_in : GoodIn wsX6_embedding (va_wsS RX6 100 yX6_in wsX6_in) := goodIn_app (goodIn_of _ (by decide +kernel)) ggX6_embedding_X6_in
theorem dX6_embedding_8 : decode cX6_embedding 8 = .ok (.iload_n 2, 1) := by decide +kernel
theorem dX6_embedding_9 : decode cX6_embedding 9 = .ok (.i2l, 1) := by decide +kernel
theorem dX6_embedding_10 : decode cX6_embedding 10 = .ok (.ldc2_w 81, 3) := by decide +kernel
theorem dX6_embedding_13 : decode cX6_embedding 13 = .ok (.ldc2_w 175, 3) := by decide +kernel
theorem dX6_embedding_16 : decode cX6_embedding 16 = .ok (.invokestatic 100, 3) := by decide +kernel
theorem dX6_embedding_19 : decode cX6_embedding 19 = .ok (.ifCond .ne 6, 3) := by decide +kernel
theorem dX6_embedding_25 : decode cX6_embedding 25 = .ok (.iconst 1, 1) := by decide +kernel
theorem dX6_embedding_26 : decode cX6_embedding 26 = .ok (.istore_n 3, 1) := by decide +kernel
theorem dX6_embedding_27 : decode cX6_embedding 27 = .ok (.iconst 1, 1) := by decide +kernel
theorem dX6_embedding_28 : decode cX6_embedding 28 = .ok (.istore 4, 2) := by decide +kernel
theorem dX6_embedding_30 : decode cX6_embedding 30 = .ok (.iload 4, 2) := by decide +kernel
theorem dX6_embedding_32 : decode cX6_embedding 32 = .ok (.iload_n 2, 1) := by decide +kernel
