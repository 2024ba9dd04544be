theorem dX5_mapped_67 : decode cX5_mapped 67 = .ok (.irem, 1) := by decide +kernel
theorem dX5_mapped_68 : decode cX5_mapped 68 = .ok (.istore 6, 2) := by decide +kernel
theorem dX5_mapped_70 : decode cX5_mapped 70 = .ok (.iload_n 3, 1) := by decide +kernel
theorem dX5_mapped_71 : decode cX5_mapped 71 = .ok (.invokestatic 96, 3) := by decide +kernel
theorem dX5_mapped_74 : decode cX5_mapped 74 = .ok (.iload 5, 2) := by decide +kernel
theorem dX5_mapped_76 : decode cX5_mapped 76 = .ok (.imul, 1) := by decide +kernel
theorem dX5_mapped_77 : decode cX5_mapped 77 = .ok (.aload 4, 2) := by decide +kernel
theorem dX5_mapped_79 : decode cX5_mapped 79 = .ok (.getfield 60, 3) := by decide +kernel
theorem dX5_mapped_82 : decode cX5_mapped 82 = .ok (.irem, 1) := by decide +kernel
theorem dX5_mapped_83 : decode cX5_mapped 83 = .ok (.iload_n 3, 1) := by decide +kernel
theorem dX5_mapped_84 : decode cX5_mapped 84 = .ok (.invokestatic 99, 3) := by decide +kernel
theorem dX5_mapped_87 : decode cX5_mapped 87 = .ok (.iload 6, 2) := by decide +kernel
theorem dX5_mapped_89 : decode cX5_mapped 89 = .ok (.imul, 1) := by decide +kernel
theorem dX5_mapped_90 : decode cX5_mapped 90 = .ok (.aload 4, 2) := by decide +kernel
theorem dX5_mapped_92 : decode cX5_mapped 92 = .ok (.getfield 60, 3) := by decide +kernel
theorem dX5_mapped_95 : decode cX5_mapped 95 = .ok (.irem, 1) := by decide +kernel
theorem dX5_mapped_96 : decode cX5_mapped 96 = .ok (.invokestatic 102, 3) := by decide +kernel
theorem dX5_mapped_99 : decode cX5_mapped 99 = .ok (.ireturn, 1) := by decide +kernel
set_option maxRecDepth 20000 in
theorem ggX5_root_X5_at : GoodIn wsX5_root wsX5_at := goodIn_r _ [7, 8, 9, 25, 26, 27, 28] (by decide +kernel) (by decide +kernel)
set_option maxRecDepth 20000 in
theorem gX5_root_X5_at : GoodIn wsX5_root (wsV RX5 56 RX5 yX5_at wsX5_at) := goodIn_app (goodIn_of _ (by decide +kernel)) ggX5_root_X5_at
set_option maxRecDepth 20000 in
theorem ggX5_root_J9_floorMod_7cf53 : GoodIn wsX5_root wsJ9_floorMod_7cf53 := goodIn_r _ [13] (by decide +kernel) (by decide +kernel)
set_option maxRecDepth 20000 in
theorem gX5_root_J9_floorMod_7cf53 : GoodIn wsX5_root (va_wsS RX5 73 yJ9_floorMod_7cf53 wsJ9_floorMod_7cf53) := goodIn_app (goodIn_of _ (by decide +kernel)) ggX5_root_J9_floorMod_7cf53
set_option maxRecDepth 20000 in
theorem ggX5_root_X1_leastRoot : GoodIn wsX5_root wsX1_leastRoot := goodIn_r _ [18, 19, 20, 21, 22, 23, 17, 24, 41, 42] (by decide +kernel) (by decide +kernel)
set_option maxRecDepth 20000 in
theorem gX5_root_X1_leastRoot : GoodIn wsX5_root (wsV RX5 105 RX1 yX1_leastRoot wsX1_leastRoot) := goodIn_app (goodIn_of _ (by decide +kernel)) ggX5_root_X1_leastRoot
theorem dX5_root_0 : decode cX5_root 0 = .ok (.aload_n 0, 1) := by decide +kernel
theorem dX5_root_1 : decode cX5_root 1 = .ok (.iload_n 1, 1) := by decide +kernel
theorem dX5_root_2 : decode cX5_root 2 = .ok (.invokevirtual 56, 3) := by decide +kernel
theorem dX5_root_5 : decode cX5_root 5 = .ok (.astore_n 3, 1) := by decide +kernel
theorem dX5_root_6 : decode cX5_root 6 = .ok (.aload_n 3, 1) := by decide +kernel
theorem dX5_root_7 : decode cX5_root 7 = .ok (.ifnonnull 8, 3) := by decide +kernel
theorem dX5_root_10 : decode cX5_root 10 = .ok (.bipush (-2), 2) := by decide +kernel
theorem dX5_root_12 : decode cX5_root 12 = .ok (.goto 22, 3) := by decide +kernel
theorem dX5_root_15 : decode cX5_root 15 = .ok (.aload_n 0, 1) := by decide +kernel
theorem dX5_root_16 : decode cX5_root 16 = .ok (.getfield 22, 3) := by decide +kernel
theorem dX5_root_19 : decode cX5_root 19 = .ok (.iload_n 2, 1) := by decide +kernel
theorem dX5_root_20 : decode cX5_root 20 = .ok (.aload_n 3, 1) := by decide +kernel
theorem dX5_root_21 : decode cX5_root 21 = .ok (.getfield 60, 3) := by decide +kernel
theorem dX5_root_24 : decode cX5_root 24 = .ok (.invokestatic 73, 3) := by decide +kernel
theorem dX5_root_27 : decode cX5_root 27 = .ok (.aload_n 3, 1) := by decide +kernel
theorem dX5_root_28 : decode cX5_root 28 = .ok (.getfield 60, 3) := by decide +kernel
theorem dX5_root_31 : decode cX5_root 31 = .ok (.invokevirtual 105, 3) := by decide +kernel
theorem dX5_root_34 : decode cX5_root 34 = .ok (.ireturn, 1) := by decide +kernel
set_option maxRecDepth 20000 in
theorem ggX5_inverse_X5_at : GoodIn wsX5_inverse wsX5_at := goodIn_r _ [6, 7, 8, 29, 30, 31, 32] (by decide +kernel) (by decide +kernel)
set_option maxRecDepth 20000 in
theorem gX5_inverse_X5_at : GoodIn wsX5_inverse (wsV RX5 56 RX5 yX5_at wsX5_at) := goodIn_app (goodIn_of _ (by decide +kernel)) ggX5_inverse_X5_at
set_option maxRecDepth 20000 in
theorem ggX5_inverse_J9_floorMod_7cf53 : GoodIn wsX5_inverse wsJ9_floorMod_7cf53 := goodIn_r _ [12] (by decide +kernel) (by decide +kernel)
set_option maxRecDepth 20000 in
theorem gX5_inverse_J9_floorMod_7cf53 : GoodIn wsX5_inverse (va_wsS RX5 73 yJ9_floorMod_7cf53 wsJ9_floorMod_7cf53) := goodIn_app (goodIn_of _ (by decide +kernel)) ggX5_inverse_J9_floorMod_7cf53
set_option maxRecDepth 20000 in
theorem ggX5_inverse_X4_inverted : GoodIn wsX5_inverse wsX4_inverted := goodIn_r _ [16] (by decide +kernel) (by decide +kernel)
set_option maxRecDepth 20000 in
theorem gX5_inverse_X4_inverted : GoodIn wsX5_inverse (va_wsS RX5 108 yX4_inverted wsX4_inverted) := goodIn_app (goodIn_of _ (by decide +kernel)) ggX5_inverse_X4_inverted
theorem dX5_inverse_0 : decode cX5_inverse 0 = .ok (.aload_n 0, 1) := by decide +kernel
theorem dX5_inverse_1 : decode cX5_inverse 1 = .ok (.iload_n 1, 1) := by decide +kernel
theorem dX5_inverse_2 : decode cX5_inverse 2 = .ok (.invokevirtual 56, 3) := by decide +kernel
theorem dX5_inverse_5 : decode cX5_inverse 5 = .ok (.astore_n 3, 1) := by decide +kernel
theorem dX5_inverse_6 : decode cX5_inverse 6 = .ok (.aload_n 3, 1) := by decide +kernel
theorem dX5_inverse_7 : decode cX5_inverse 7 = .ok (.ifnonnull 6, 3) := by decide +kernel
theorem dX5_inverse_10 : decode cX5_inverse 10 = .ok (.bipush (-2), 2) := by decide +kernel
theorem dX5_inverse_12 : decode cX5_inverse 12 = .ok (.ireturn, 1) := by decide +kernel
theorem dX5_inverse_13 : decode cX5_inverse 13 = .ok (.iload_n 2, 1) := by decide +kernel
theorem dX5_inverse_14 : decode cX5_inverse 14 = .ok (.aload_n 3, 1) := by decide +kernel
theorem dX5_inverse_15 : decode cX5_inverse 15 = .ok (.getfield 60, 3) := by decide +kernel
theorem dX5_inverse_18 : decode cX5_inverse 18 = .ok (.invokestatic 73, 3) := by decide +kernel
theorem dX5_inverse_21 : decode cX5_inverse 21 = .ok (.istore 4, 2) := by decide +kernel
theorem dX5_inverse_23 : decode cX5_inverse 23 = .ok (.iload 4, 2) := by decide +kernel
theorem dX5_inverse_25 : decode cX5_inverse 25 = .ok (.ifCond .ne 7, 3) := by decide +kernel
theorem dX5_inverse_28 : decode cX5_inverse 28 = .ok (.iconst (-1), 1) := by decide +kernel
theorem dX5_inverse_29 : decode cX5_inverse 29 = .ok (.goto 12, 3) := by decide +kernel
theorem dX5_inverse_32 : decode cX5_inverse 32 = .ok (.iload 4, 2) := by decide +kernel
theorem dX5_inverse_34 : decode cX5_inverse 34 = .ok (.aload_n 3, 1) := by decide +kernel
theorem dX5_inverse_35 : decode cX5_inverse 35 = .ok (.getfield 60, 3) := by decide +kernel
theorem dX5_inverse_38 : decode cX5_inverse 38 = .ok (.invokestatic 108, 3) := by decide +kernel
theorem dX5_inverse_41 : decode cX5_inverse 41 = .ok (.ireturn, 1) := by decide +kernel
set_option maxRecDepth 20000 in
theorem ggX5_power_X5_at : GoodIn wsX5_power wsX5_at := goodIn_r _ [6, 7, 8, 29, 30, 31, 32] (by decide +kernel) (by decide +kernel)
set_option maxRecDepth 20000 in
theorem gX5_power_X5_at : GoodIn wsX5_power (wsV RX5 56 RX5 yX5_at wsX5_at) := goodIn_app (goodIn_of _ (by decide +kernel)) ggX5_power_X5_at
set_option maxRecDepth 20000 in
theorem ggX5_power_J9_floorMod_7cf53 : GoodIn wsX5_power wsJ9_floorMod_7cf53 := goodIn_r _ [12] (by decide +kernel) (by decide +kernel)
set_option maxRecDepth 20000 in
theorem gX5_power_J9_floorMod_7cf53 : GoodIn wsX5_power (va_wsS RX5 73 yJ9_floorMod_7cf53 wsJ9_floorMod_7cf53) := goodIn_app (goodIn_of _ (by decide +kernel)) ggX5_power_J9_floorMod_7cf53
set_option maxRecDepth 20000 in
theorem ggX5_power_X4_raised : GoodIn wsX5_power wsX4_raised := goodIn_r _ [16] (by decide +kernel) (by decide +kernel)
set_option maxRecDepth 20000 in
theorem gX5_power_X4_raised : GoodIn wsX5_power (va_wsS RX5 111 yX4_raised wsX4_raised) := goodIn_app (goodIn_of _ (by decide +kernel)) ggX5_power_X4_raised
theorem dX5_power_0 : decode cX5_power 0 = .ok (.aload_n 0, 1) := by decide +kernel
theorem dX5_power_1 : decode cX5_power 1 = .ok (.iload_n 1, 1) := by decide +kernel
theorem dX5_power_2 : decode cX5_power 2 = .ok (.invokevirtual 56, 3) := by decide +kernel
theorem dX5_power_5 : decode cX5_power 5 = .ok (.astore 5, 2) := by decide +kernel
theorem dX5_power_7 : decode cX5_power 7 = .ok (.aload 5, 2) := by decide +kernel
theorem dX5_power_9 : decode cX5_power 9 = .ok (.ifnull 9, 3) := by decide +kernel
theorem dX5_power_12 : decode cX5_power 12 = .ok (.lload_n 3, 1) := by decide +kernel
theorem dX5_power_13 : decode cX5_power 13 = .ok (.lconst 0, 1) := by decide +kernel
theorem dX5_power_14 : decode cX5_power 14 = .ok (.lcmp, 1) := by decide +kernel
theorem dX5_power_15 : decode cX5_power 15 = .ok (.ifCond .ge 6, 3) := by decide +kernel
theorem dX5_power_18 : decode cX5_power 18 = .ok (.bipush (-2), 2) := by decide +kernel
theorem dX5_power_20 : decode cX5_power 20 = .ok (.ireturn, 1) := by decide +kernel
theorem dX5_power_21 : decode cX5_power 21 = .ok (.iload_n 2, 1) := by decide +kernel
theorem dX5_power_22 : decode cX5_power 22 = .ok (.aload 5, 2) := by decide +kernel
theorem dX5_power_24 : decode cX5_power 24 = .ok (.getfield 60, 3) := by decide +kernel
theorem dX5_power_27 : decode cX5_power 27 = .ok (.invokestatic 73, 3) := by decide +kernel
theorem dX5_power_30 : decode cX5_power 30 = .ok (.lload_n 3, 1) := by decide +kernel
theorem dX5_power_31 : decode cX5_power 31 = .ok (.aload 5, 2) := by decide +kernel
theorem dX5_power_33 : decode cX5_power 33 = .ok (.getfield 60, 3) := by decide +kernel
theorem dX5_power_36 : decode cX5_power 36 = .ok (.invokestatic 111, 3) := by decide +kernel
theorem dX5_power_39 : decode cX5_power 39 = .ok (.ireturn, 1) := by decide +kernel
set_option maxRecDepth 20000 in
theorem ggX5_generator_X5_at : GoodIn wsX5_generator wsX5_at := goodIn_r _ [6, 7, 8, 37, 38, 39, 40] (by decide +kernel) (by decide +kernel)
set_option maxRecDepth 20000 in
theorem gX5_generator_X5_at : GoodIn wsX5_generator (wsV RX5 56 RX5 yX5_at wsX5_at) := goodIn_app (goodIn_of _ (by decide +kernel)) ggX5_generator_X5_at
set_option maxRecDepth 20000 in
theorem ggX5_generator_X4_leastGenerator : GoodIn wsX5_generator wsX4_leastGenerator := goodIn_r _ [12, 13, 14, 11, 15, 16, 17, 18, 19, 20, 21, 22, 23, 24] (by decide +kernel) (by decide +kernel)
set_option maxRecDepth 20000 in
theorem gX5_generator_X4_leastGenerator : GoodIn wsX5_generator (va_wsS RX5 115 yX4_leastGenerator wsX4_leastGenerator) := goodIn_app (goodIn_of _ (by decide +kernel)) ggX5_generator_X4_leastGenerator
theorem dX5_generator_0 : decode cX5_generator 0 = .ok (.aload_n 0, 1) := by decide +kernel
theorem dX5_generator_1 : decode cX5_generator 1 = .ok (.iload_n 1, 1) := by decide +kernel
theorem dX5_generator_2 : decode cX5_generator 2 = .ok (.invokevirtual 56, 3) := by decide +kernel
theorem dX5_generator_5 : decode cX5_generator 5 = .ok (.astore_n 2, 1) := by decide +kernel
theorem dX5_generator_6 : decode cX5_generator 6 = .ok (.aload_n 2, 1) := by decide +kernel
theorem dX5_generator_7 : decode cX5_generator 7 = .ok (.ifnonnull 8, 3) := by decide +kernel
theorem dX5_generator_10 : decode cX5_generator 10 = .ok (.bipush (-2), 2) := by decide +kernel
theorem dX5_generator_12 : decode cX5_generator 12 = .ok (.goto 10, 3) := by decide +kernel
theorem dX5_generator_15 : decode cX5_generator 15 = .ok (.aload_n 2, 1) := by decide +kernel
theorem dX5_generator_16 : decode cX5_generator 16 = .ok (.getfield 60, 3) := by decide +kernel
theorem dX5_generator_19 : decode cX5_generator 19 = .ok (.invokestatic 115, 3) := by decide +kernel
theorem dX5_generator_22 : decode cX5_generator 22 = .ok (.ireturn, 1) := by decide +kernel
set_option maxRecDepth 20000 in
theorem ggX5_point_X5_at : GoodIn wsX5_point wsX5_at := goodIn_r _ [6, 7, 8, 36, 37, 38, 39] (by decide +kernel) (by decide +kernel)
set_option maxRecDepth 20000 in
theorem gX5_point_X5_at : GoodIn wsX5_point (wsV RX5 56 RX5 yX5_at wsX5_at) := goodIn_app (goodIn_of _ (by decide +kernel)) ggX5_point_X5_at
set_option maxRecDepth 20000 in
theorem ggX5_point_X4_isBelow : GoodIn wsX5_point wsX4_isBelow := goodIn_r _ [12] (by decide +kernel) (by decide +kernel)
set_option maxRecDepth 20000 in
theorem gX5_point_X4_isBelow : GoodIn wsX5_point (va_wsS RX5 41 yX4_isBelow wsX4_isBelow) := goodIn_app (goodIn_of _ (by decide +kernel)) ggX5_point_X4_isBelow
set_option maxRecDepth 20000 in
theorem ggX5_point_X0_cubic : GoodIn wsX5_point wsX0_cubic := goodIn_r _ [17, 18, 19, 20, 24, 25, 26, 27, 28, 29, 30, 31, 32, 33, 34, 35] (by decide +kernel) (by decide +kernel)
set_option maxRecDepth 20000 in
theorem gX5_point_X0_cubic : GoodIn wsX5_point (wsV RX5 118 RX0 yX0_cubic wsX0_cubic) := goodIn_app (goodIn_of _ (by decide +kernel)) ggX5_point_X0_cubic
set_option maxRecDepth 20000 in
theorem ggX5_point_X5_pair : GoodIn wsX5_point wsX5_pair := goodIn_r _ [23] (by decide +kernel) (by decide +kernel)
set_option maxRecDepth 20000 in
theorem gX5_point_X5_pair : GoodIn wsX5_point (va_wsS RX5 102 yX5_pair wsX5_pair) := goodIn_app (goodIn_of _ (by decide +kernel)) ggX5_point_X5_pair
theorem dX5_point_0 : decode cX5_point 0 = .ok (.aload_n 0, 1) := by decide +kernel
theorem dX5_point_1 : decode cX5_point 1 = .ok (.iload_n 1, 1) := by decide +kernel
theorem dX5_point_2 : decode cX5_point 2 = .ok (.invokevirtual 56, 3) := by decide +kernel
theorem dX5_point_5 : decode cX5_point 5 = .ok (.astore 4, 2) := by decide +kernel
theorem dX5_point_7 : decode cX5_point 7 = .ok (.aload 4, 2) := by decide +kernel
theorem dX5_point_9 : decode cX5_point 9 = .ok (.ifnull 27, 3) := by decide +kernel
theorem dX5_point_12 : decode cX5_point 12 = .ok (.iload_n 2, 1) := by decide +kernel
theorem dX5_point_13 : decode cX5_point 13 = .ok (.aload 4, 2) := by decide +kernel
theorem dX5_point_15 : decode cX5_point 15 = .ok (.getfield 60, 3) := by decide +kernel
theorem dX5_point_18 : decode cX5_point 18 = .ok (.invokestatic 41, 3) := by decide +kernel
theorem dX5_point_21 : decode cX5_point 21 = .ok (.ifCond .eq 15, 3) := by decide +kernel
theorem dX5_point_24 : decode cX5_point 24 = .ok (.iload_n 3, 1) := by decide +kernel
theorem dX5_point_25 : decode cX5_point 25 = .ok (.aload 4, 2) := by decide +kernel
theorem dX5_point_27 : decode cX5_point 27 = .ok (.getfield 60, 3) := by decide +kernel
theorem dX5_point_30 : decode cX5_point 30 = .ok (.invokestatic 41, 3) := by decide +kernel
theorem dX5_point_33 : decode cX5_point 33 = .ok (.ifCond .ne 6, 3) := by decide +kernel
theorem dX5_point_36 : decode cX5_point 36 = .ok (.bipush (-2), 2) := by decide +kernel
theorem dX5_point_38 : decode cX5_point 38 = .ok (.ireturn, 1) := by decide +kernel
theorem dX5_point_39 : decode cX5_point 39 = .ok (.iload_n 3, 1) := by decide +kernel
theorem dX5_point_40 : decode cX5_point 40 = .ok (.iload_n 3, 1) := by decide +kernel
theorem dX5_point_41 : decode cX5_point 41 = .ok (.imul, 1) := by decide +kernel
theorem dX5_point_42 : decode cX5_point 42 = .ok (.aload 4, 2) := by decide +kernel
theorem dX5_point_44 : decode cX5_point 44 = .ok (.getfield 60, 3) := by decide +kernel
theorem dX5_point_47 : decode cX5_point 47 = .ok (.irem, 1) := by decide +kernel
theorem dX5_point_48 : decode cX5_point 48 = .ok (.aload 4, 2) := by decide +kernel
theorem dX5_point_50 : decode cX5_point 50 = .ok (.iload_n 2, 1) := by decide +kernel
theorem dX5_point_51 : decode cX5_point 51 = .ok (.invokevirtual 118, 3) := by decide +kernel
theorem dX5_point_54 : decode cX5_point 54 = .ok (.if_icmp .ne 11, 3) := by decide +kernel
theorem dX5_point_57 : decode cX5_point 57 = .ok (.iload_n 2, 1) := by decide +kernel
theorem dX5_point_58 : decode cX5_point 58 = .ok (.iload_n 3, 1) := by decide +kernel
theorem dX5_point_59 : decode cX5_point 59 = .ok (.invokestatic 102, 3) := by decide +kernel
theorem dX5_point_62 : decode cX5_point 62 = .ok (.goto 4, 3) := by decide +kernel
theorem dX5_point_65 : decode cX5_point 65 = .ok (.iconst (-1), 1) := by decide +kernel
theorem dX5_point_66 : decode cX5_point 66 = .ok (.ireturn, 1) := by decide +kernel
set_option maxRecDepth 20000 in
theorem ggX5_lift_X5_at : GoodIn wsX5_lift wsX5_at := goodIn_r _ [7, 8, 9, 48, 49, 50, 51] (by decide +kernel) (by decide +kernel)
set_option maxRecDepth 20000 in
theorem gX5_lift_X5_at : GoodIn wsX5_lift (wsV RX5 56 RX5 yX5_at wsX5_at) := goodIn_app (goodIn_of _ (by decide +kernel)) ggX5_lift_X5_at
set_option maxRecDepth 20000 in
theorem ggX5_lift_X4_isBelow : GoodIn wsX5_lift wsX4_isBelow := goodIn_r _ [13] (by decide +kernel) (by decide +kernel)
set_option maxRecDepth 20000 in
theorem gX5_lift_X4_isBelow : GoodIn wsX5_lift (va_wsS RX5 41 yX4_isBelow wsX4_isBelow) := goodIn_app (goodIn_of _ (by decide +kernel)) ggX5_lift_X4_isBelow
set_option maxRecDepth 20000 in
theorem ggX5_lift_X0_cubic : GoodIn wsX5_lift wsX0_cubic := goodIn_r _ [18, 19, 20, 21, 36, 37, 38, 39, 40, 41, 42, 43, 44, 45, 46, 47] (by decide +kernel) (by decide +kernel)
set_option maxRecDepth 20000 in
theorem gX5_lift_X0_cubic : GoodIn wsX5_lift (wsV RX5 118 RX0 yX0_cubic wsX0_cubic) := goodIn_app (goodIn_of _ (by decide +kernel)) ggX5_lift_X0_cubic
set_option maxRecDepth 20000 in
theorem ggX5_lift_X1_leastRoot : GoodIn wsX5_lift wsX1_leastRoot := goodIn_r _ [26, 27, 28, 29, 30, 31, 25, 32, 52, 53] (by decide +kernel) (by decide +kernel)
set_option maxRecDepth 20000 in
theorem gX5_lift_X1_leastRoot : GoodIn wsX5_lift (wsV RX5 105 RX1 yX1_leastRoot wsX1_leastRoot) := goodIn_app (goodIn_of _ (by decide +kernel)) ggX5_lift_X1_leastRoot
set_option maxRecDepth 20000 in
theorem ggX5_lift_X5_pair : GoodIn wsX5_lift wsX5_pair := goodIn_r _ [35] (by decide +kernel) (by decide +kernel)
set_option maxRecDepth 20000 in
theorem gX5_lift_X5_pair : GoodIn wsX5_lift (va_wsS RX5 102 yX5_pair wsX5_pair) := goodIn_app (goodIn_of _ (by decide +kernel)) ggX5_lift_X5_pair
theorem dX5_lift_0 : decode cX5_lift 0 = .ok (.aload_n 0, 1) := by decide +kernel
theorem dX5_lift_1 : decode cX5_lift 1 = .ok (.iload_n 1, 1) := by decide +kernel
theorem dX5_lift_2 : decode cX5_lift 2 = .ok (.invokevirtual 56, 3) := by decide +kernel
theorem dX5_lift_5 : decode cX5_lift 5 = .ok (.astore 4, 2) := by decide +kernel
theorem dX5_lift_7 : decode cX5_lift 7 = .ok (.aload 4, 2) := by decide +kernel
theorem dX5_lift_9 : decode cX5_lift 9 = .ok (.ifnull 15, 3) := by decide +kernel
theorem dX5_lift_12 : decode cX5_lift 12 = .ok (.iload_n 2, 1) := by decide +kernel
theorem dX5_lift_13 : decode cX5_lift 13 = .ok (.aload 4, 2) := by decide +kernel
theorem dX5_lift_15 : decode cX5_lift 15 = .ok (.getfield 60, 3) := by decide +kernel
theorem dX5_lift_18 : decode cX5_lift 18 = .ok (.invokestatic 41, 3) := by decide +kernel
theorem dX5_lift_21 : decode cX5_lift 21 = .ok (.ifCond .ne 6, 3) := by decide +kernel
theorem dX5_lift_24 : decode cX5_lift 24 = .ok (.bipush (-2), 2) := by decide +kernel
theorem dX5_lift_26 : decode cX5_lift 26 = .ok (.ireturn, 1) := by decide +kernel
theorem dX5_lift_27 : decode cX5_lift 27 = .ok (.aload_n 0, 1) := by decide +kernel
theorem dX5_lift_28 : decode cX5_lift 28 = .ok (.getfield 22, 3) := by decide +kernel
theorem dX5_lift_31 : decode cX5_lift 31 = .ok (.aload 4, 2) := by decide +kernel
theorem dX5_lift_33 : decode cX5_lift 33 = .ok (.iload_n 2, 1) := by decide +kernel
theorem dX5_lift_34 : decode cX5_lift 34 = .ok (.invokevirtual 118, 3) := by decide +kernel
theorem dX5_lift_37 : decode cX5_lift 37 = .ok (.aload 4, 2) := by decide +kernel
theorem dX5_lift_39 : decode cX5_lift 39 = .ok (.getfield 60, 3) := by decide +kernel
theorem dX5_lift_42 : decode cX5_lift 42 = .ok (.invokevirtual 105, 3) := by decide +kernel
theorem dX5_lift_45 : decode cX5_lift 45 = .ok (.istore 5, 2) := by decide +kernel
theorem dX5_lift_47 : decode cX5_lift 47 = .ok (.iload 5, 2) := by decide +kernel
theorem dX5_lift_49 : decode cX5_lift 49 = .ok (.ifCond .lt 12, 3) := by decide +kernel
theorem dX5_lift_52 : decode cX5_lift 52 = .ok (.iload 5, 2) := by decide +kernel
theorem dX5_lift_54 : decode cX5_lift 54 = .ok (.ifCond .ne 9, 3) := by decide +kernel
theorem dX5_lift_57 : decode cX5_lift 57 = .ok (.iload_n 3, 1) := by decide +kernel
theorem dX5_lift_58 : decode cX5_lift 58 = .ok (.ifCond .eq 5, 3) := by decide +kernel
theorem dX5_lift_61 : decode cX5_lift 61 = .ok (.iconst (-1), 1) := by decide +kernel
theorem dX5_lift_62 : decode cX5_lift 62 = .ok (.ireturn, 1) := by decide +kernel
theorem dX5_lift_63 : decode cX5_lift 63 = .ok (.iload_n 2, 1) := by decide +kernel
theorem dX5_lift_64 : decode cX5_lift 64 = .ok (.iload 5, 2) := by decide +kernel
theorem dX5_lift_66 : decode cX5_lift 66 = .ok (.iconst 2, 1) := by decide +kernel
theorem dX5_lift_67 : decode cX5_lift 67 = .ok (.irem, 1) := by decide +kernel
theorem dX5_lift_68 : decode cX5_lift 68 = .ok (.iconst 1, 1) := by decide +kernel
theorem dX5_lift_69 : decode cX5_lift 69 = .ok (.if_icmp .ne 7, 3) := by decide +kernel
theorem dX5_lift_72 : decode cX5_lift 72 = .ok (.iconst 1, 1) := by decide +kernel
theorem dX5_lift_73 : decode cX5_lift 73 = .ok (.goto 4, 3) := by decide +kernel
theorem dX5_lift_76 : decode cX5_lift 76 = .ok (.iconst 0, 1) := by decide +kernel
theorem dX5_lift_77 : decode cX5_lift 77 = .ok (.iload_n 3, 1) := by decide +kernel
theorem dX5_lift_78 : decode cX5_lift 78 = .ok (.if_icmp .ne 8, 3) := by decide +kernel
theorem dX5_lift_81 : decode cX5_lift 81 = .ok (.iload 5, 2) := by decide +kernel
theorem dX5_lift_83 : decode cX5_lift 83 = .ok (.goto 11, 3) := by decide +kernel
theorem dX5_lift_86 : decode cX5_lift 86 = .ok (.aload 4, 2) := by decide +kernel
theorem dX5_lift_88 : decode cX5_lift 88 = .ok (.getfield 60, 3) := by decide +kernel
theorem dX5_lift_91 : decode cX5_lift 91 = .ok (.iload 5, 2) := by decide +kernel
theorem dX5_lift_93 : decode cX5_lift 93 = .ok (.isub, 1) := by decide +kernel
theorem dX5_lift_94 : decode cX5_lift 94 = .ok (.invokestatic 102, 3) := by decide +kernel
theorem dX5_lift_97 : decode cX5_lift 97 = .ok (.ireturn, 1) := by decide +kernel
set_option maxRecDepth 20000 in
theorem ggX5_near_X5_at : GoodIn wsX5_near wsX5_at := goodIn_r _ [7, 8, 9, 54, 55, 56, 57] (by decide +kernel) (by decide +kernel)
set_option maxRecDepth 20000 in
theorem gX5_near_X5_at : GoodIn wsX5_near (wsV RX5 56 RX5 yX5_at wsX5_at) := goodIn_app (goodIn_of _ (by decide +kernel)) ggX5_near_X5_at
set_option maxRecDepth 20000 in
theorem ggX5_near_J9_floorMod_7cf53 : GoodIn wsX5_near wsJ9_floorMod_7cf53 := goodIn_r _ [13] (by decide +kernel) (by decide +kernel)
set_option maxRecDepth 20000 in
theorem gX5_near_J9_floorMod_7cf53 : GoodIn wsX5_near (va_wsS RX5 73 yJ9_floorMod_7cf53 wsJ9_floorMod_7cf53) := goodIn_app (goodIn_of _ (by decide +kernel)) ggX5_near_J9_floorMod_7cf53
set_option maxRecDepth 20000 in
theorem ggX5_near_X3_lesserAt : GoodIn wsX5_near wsX3_lesserAt := goodIn_r _ [18, 19, 20, 21, 22, 23, 24, 25, 26, 27, 28, 29, 30, 31, 32, 33, 34, 35, 36, 37, 38, 39, 40, 6, 41, 58, 59, 60, 42, 43, 44, 45, 46, 47, 48, 49, 50, 51, 52, 53, 61, 62] (by decide +kernel) (by decide +kernel)
set_option maxRecDepth 20000 in
theorem gX5_near_X3_lesserAt : GoodIn wsX5_near (wsV RX5 121 RX3 yX3_lesserAt wsX3_lesserAt) := goodIn_app (goodIn_of _ (by decide +kernel)) ggX5_near_X3_lesserAt
theorem dX5_near_0 : decode cX5_near 0 = .ok (.aload_n 0, 1) := by decide +kernel
theorem dX5_near_1 : decode cX5_near 1 = .ok (.iload_n 1, 1) := by decide +kernel
theorem dX5_near_2 : decode cX5_near 2 = .ok (.invokevirtual 56, 3) := by decide +kernel
theorem dX5_near_5 : decode cX5_near 5 = .ok (.astore_n 3, 1) := by decide +kernel
theorem dX5_near_6 : decode cX5_near 6 = .ok (.aload_n 3, 1) := by decide +kernel
theorem dX5_near_7 : decode cX5_near 7 = .ok (.ifnonnull 6, 3) := by decide +kernel
theorem dX5_near_10 : decode cX5_near 10 = .ok (.bipush (-2), 2) := by decide +kernel
theorem dX5_near_12 : decode cX5_near 12 = .ok (.ireturn, 1) := by decide +kernel
theorem dX5_near_13 : decode cX5_near 13 = .ok (.iload_n 2, 1) := by decide +kernel
theorem dX5_near_14 : decode cX5_near 14 = .ok (.aload_n 3, 1) := by decide +kernel
theorem dX5_near_15 : decode cX5_near 15 = .ok (.getfield 60, 3) := by decide +kernel
theorem dX5_near_18 : decode cX5_near 18 = .ok (.invokestatic 73, 3) := by decide +kernel
theorem dX5_near_21 : decode cX5_near 21 = .ok (.istore 4, 2) := by decide +kernel
theorem dX5_near_23 : decode cX5_near 23 = .ok (.iconst 0, 1) := by decide +kernel
theorem dX5_near_24 : decode cX5_near 24 = .ok (.istore 5, 2) := by decide +kernel
theorem dX5_near_26 : decode cX5_near 26 = .ok (.iload 5, 2) := by decide +kernel
theorem dX5_near_28 : decode cX5_near 28 = .ok (.aload_n 3, 1) := by decide +kernel
theorem dX5_near_29 : decode cX5_near 29 = .ok (.getfield 60, 3) := by decide +kernel
theorem dX5_near_32 : decode cX5_near 32 = .ok (.if_icmp .ge 38, 3) := by decide +kernel
theorem dX5_near_35 : decode cX5_near 35 = .ok (.aload_n 0, 1) := by decide +kernel
theorem dX5_near_36 : decode cX5_near 36 = .ok (.getfield 31, 3) := by decide +kernel
theorem dX5_near_39 : decode cX5_near 39 = .ok (.aload_n 3, 1) := by decide +kernel
theorem dX5_near_40 : decode cX5_near 40 = .ok (.iload 4, 2) := by decide +kernel
theorem dX5_near_42 : decode cX5_near 42 = .ok (.iload 5, 2) := by decide +kernel
theorem dX5_near_44 : decode cX5_near 44 = .ok (.iadd, 1) := by decide +kernel
theorem dX5_near_45 : decode cX5_near 45 = .ok (.aload_n 3, 1) := by decide +kernel
theorem dX5_near_46 : decode cX5_near 46 = .ok (.getfield 60, 3) := by decide +kernel
theorem dX5_near_49 : decode cX5_near 49 = .ok (.irem, 1) := by decide +kernel
theorem dX5_near_50 : decode cX5_near 50 = .ok (.invokevirtual 121, 3) := by decide +kernel
theorem dX5_near_53 : decode cX5_near 53 = .ok (.istore 6, 2) := by decide +kernel
theorem dX5_near_55 : decode cX5_near 55 = .ok (.iload 6, 2) := by decide +kernel
theorem dX5_near_57 : decode cX5_near 57 = .ok (.iconst (-1), 1) := by decide +kernel
theorem dX5_near_58 : decode cX5_near 58 = .ok (.if_icmp .eq 6, 3) := by decide +kernel
theorem dX5_near_61 : decode cX5_near 61 = .ok (.iload 6, 2) := by decide +kernel
theorem dX5_near_63 : decode cX5_near 63 = .ok (.ireturn, 1) := by decide +kernel
theorem dX5_near_64 : decode cX5_near 64 = .ok (.iinc 5 1, 3) := by decide +kernel
theorem dX5_near_67 : decode cX5_near 67 = .ok (.goto (-41), 3) := by decide +kernel
theorem dX5_near_70 : decode cX5_near 70 = .ok (.iconst (-1), 1) := by decide +kernel
theorem dX5_near_71 : decode cX5_near 71 = .ok (.ireturn, 1) := by decide +kernel
set_option maxRecDepth 20000 in
theorem ggX5_nth_X5_at : GoodIn wsX5_nth wsX5_at := goodIn_r _ [6, 7, 8, 53, 54, 55, 56] (by decide +kernel) (by decide +kernel)
set_option maxRecDepth 20000 in
theorem gX5_nth_X5_at : GoodIn wsX5_nth (wsV RX5 56 RX5 yX5_at wsX5_at) := goodIn_app (goodIn_of _ (by decide +kernel)) ggX5_nth_X5_at
set_option maxRecDepth 20000 in
theorem ggX5_nth_X3_pointNumber : GoodIn wsX5_nth wsX3_pointNumber := goodIn_r _ [13, 14, 15, 16, 17, 18, 19, 20, 21, 22, 23, 24, 25, 12, 26, 27, 28, 29, 30, 31, 32, 33, 34, 35, 36, 37, 38, 39, 40, 41, 42, 43, 5, 44, 45, 46, 47, 48, 49, 50, 51, 52, 57, 58, 59, 60, 61, 62, 63, 64, 65, 66, 67, 68, 69, 70, 71, 72, 73] (by decide +kernel) (by decide +kernel)
set_option maxRecDepth 20000 in
theorem gX5_nth_X3_pointNumber : GoodIn wsX5_nth (wsV RX5 125 RX3 yX3_pointNumber wsX3_pointNumber) := goodIn_app (goodIn_of _ (by decide +kernel)) ggX5_nth_X3_pointNumber
theorem dX5_nth_0 : decode cX5_nth 0 = .ok (.aload_n 0, 1) := by decide +kernel
theorem dX5_nth_1 : decode cX5_nth 1 = .ok (.iload_n 1, 1) := by decide +kernel
theorem dX5_nth_2 : decode cX5_nth 2 = .ok (.invokevirtual 56, 3) := by decide +kernel
theorem dX5_nth_5 : decode cX5_nth 5 = .ok (.astore_n 3, 1) := by decide +kernel
theorem dX5_nth_6 : decode cX5_nth 6 = .ok (.aload_n 3, 1) := by decide +kernel
theorem dX5_nth_7 : decode cX5_nth 7 = .ok (.ifnonnull 6, 3) := by decide +kernel
theorem dX5_nth_10 : decode cX5_nth 10 = .ok (.bipush (-2), 2) := by decide +kernel
theorem dX5_nth_12 : decode cX5_nth 12 = .ok (.ireturn, 1) := by decide +kernel
theorem dX5_nth_13 : decode cX5_nth 13 = .ok (.iload_n 2, 1) := by decide +kernel
theorem dX5_nth_14 : decode cX5_nth 14 = .ok (.ifCond .ne 7, 3) := by decide +kernel
theorem dX5_nth_17 : decode cX5_nth 17 = .ok (.iconst (-1), 1) := by decide +kernel
theorem dX5_nth_18 : decode cX5_nth 18 = .ok (.goto 12, 3) := by decide +kernel
theorem dX5_nth_21 : decode cX5_nth 21 = .ok (.aload_n 0, 1) := by decide +kernel
theorem dX5_nth_22 : decode cX5_nth 22 = .ok (.getfield 31, 3) := by decide +kernel
theorem dX5_nth_25 : decode cX5_nth 25 = .ok (.aload_n 3, 1) := by decide +kernel
theorem dX5_nth_26 : decode cX5_nth 26 = .ok (.iload_n 2, 1) := by decide +kernel
theorem dX5_nth_27 : decode cX5_nth 27 = .ok (.invokevirtual 125, 3) := by decide +kernel
theorem dX5_nth_30 : decode cX5_nth 30 = .ok (.ireturn, 1) := by decide +kernel
set_option maxRecDepth 20000 in
theorem ggX5_rank_X5_at : GoodIn wsX5_rank wsX5_at := goodIn_r _ [6, 7, 8, 58, 59, 60, 61] (by decide +kernel) (by decide +kernel)
set_option maxRecDepth 20000 in
theorem gX5_rank_X5_at : GoodIn wsX5_rank (wsV RX5 56 RX5 yX5_at wsX5_at) := goodIn_app (goodIn_of _ (by decide +kernel)) ggX5_rank_X5_at
set_option maxRecDepth 20000 in
theorem ggX5_rank_X0_holds : GoodIn wsX5_rank wsX0_holds := goodIn_r _ [13, 14, 15, 5, 16, 17, 18, 19, 20, 21, 22, 23, 24, 25, 12, 26, 27, 28, 62, 63, 64, 65, 66, 67, 68, 69, 70, 71, 72, 73] (by decide +kernel) (by decide +kernel)
set_option maxRecDepth 20000 in
theorem gX5_rank_X0_holds : GoodIn wsX5_rank (wsV RX5 93 RX0 yX0_holds wsX0_holds) := goodIn_app (goodIn_of _ (by decide +kernel)) ggX5_rank_X0_holds
set_option maxRecDepth 20000 in
theorem ggX5_rank_X3_pointsAhead : GoodIn wsX5_rank wsX3_pointsAhead := goodIn_r _ [33, 34, 15, 5, 16, 35, 24, 25, 12, 26, 27, 14, 28, 36, 37, 38, 32, 39, 40, 41, 42, 43, 44, 45, 46, 47, 48, 49, 50, 51, 52, 53, 54, 55, 56, 57, 62, 63, 64, 65, 66, 67, 68, 69, 70, 71, 72, 73, 74, 75, 76, 77, 78] (by decide +kernel) (by decide +kernel)
set_option maxRecDepth 20000 in
theorem gX5_rank_X3_pointsAhead : GoodIn wsX5_rank (wsV RX5 128 RX3 yX3_pointsAhead wsX3_pointsAhead) := goodIn_app (goodIn_of _ (by decide +kernel)) ggX5_rank_X3_pointsAhead
theorem dX5_rank_0 : decode cX5_rank 0 = .ok (.aload_n 0, 1) := by decide +kernel
theorem dX5_rank_1 : decode cX5_rank 1 = .ok (.iload_n 1, 1) := by decide +kernel
theorem dX5_rank_2 : decode cX5_rank 2 = .ok (.invokevirtual 56, 3) := by decide +kernel
theorem dX5_rank_5 : decode cX5_rank 5 = .ok (.astore_n 3, 1) := by decide +kernel
theorem dX5_rank_6 : decode cX5_rank 6 = .ok (.aload_n 3, 1) := by decide +kernel
theorem dX5_rank_7 : decode cX5_rank 7 = .ok (.ifnull 11, 3) := by decide +kernel
theorem dX5_rank_10 : decode cX5_rank 10 = .ok (.aload_n 3, 1) := by decide +kernel
theorem dX5_rank_11 : decode cX5_rank 11 = .ok (.iload_n 2, 1) := by decide +kernel
theorem dX5_rank_12 : decode cX5_rank 12 = .ok (.invokevirtual 93, 3) := by decide +kernel
theorem dX5_rank_15 : decode cX5_rank 15 = .ok (.ifCond .ne 6, 3) := by decide +kernel
theorem dX5_rank_18 : decode cX5_rank 18 = .ok (.bipush (-2), 2) := by decide +kernel
theorem dX5_rank_20 : decode cX5_rank 20 = .ok (.ireturn, 1) := by decide +kernel
theorem dX5_rank_21 : decode cX5_rank 21 = .ok (.iload_n 2, 1) := by decide +kernel
theorem dX5_rank_22 : decode cX5_rank 22 = .ok (.iconst (-1), 1) := by decide +kernel
theorem dX5_rank_23 : decode cX5_rank 23 = .ok (.if_icmp .ne 7, 3) := by decide +kernel
theorem dX5_rank_26 : decode cX5_rank 26 = .ok (.iconst 0, 1) := by decide +kernel
theorem dX5_rank_27 : decode cX5_rank 27 = .ok (.goto 12, 3) := by decide +kernel
theorem dX5_rank_30 : decode cX5_rank 30 = .ok (.aload_n 0, 1) := by decide +kernel
theorem dX5_rank_31 : decode cX5_rank 31 = .ok (.getfield 31, 3) := by decide +kernel
theorem dX5_rank_34 : decode cX5_rank 34 = .ok (.aload_n 3, 1) := by decide +kernel
theorem dX5_rank_35 : decode cX5_rank 35 = .ok (.iload_n 2, 1) := by decide +kernel
theorem dX5_rank_36 : decode cX5_rank 36 = .ok (.invokevirtual 128, 3) := by decide +kernel
theorem dX5_rank_39 : decode cX5_rank 39 = .ok (.ireturn, 1) := by decide +kernel
set_option maxRecDepth 20000 in
theorem ggX5_add_X5_at : GoodIn wsX5_add wsX5_at := goodIn_r _ [5, 6, 7, 37, 38, 39, 40] (by decide +kernel) (by decide +kernel)
set_option maxRecDepth 20000 in
theorem gX5_add_X5_at : GoodIn wsX5_add (wsV RX5 56 RX5 yX5_at wsX5_at) := goodIn_app (goodIn_of _ (by decide +kernel)) ggX5_add_X5_at
set_option maxRecDepth 20000 in
theorem ggX5_add_X0_holds : GoodIn wsX5_add wsX0_holds := goodIn_r _ [12, 13, 14, 4, 15, 16, 17, 18, 19, 20, 21, 22, 23, 24, 11, 25, 26, 27, 41, 42, 43, 44, 45, 46, 47, 48, 49, 50, 51, 52] (by decide +kernel) (by decide +kernel)
set_option maxRecDepth 20000 in
theorem gX5_add_X0_holds : GoodIn wsX5_add (wsV RX5 93 RX0 yX0_holds wsX0_holds) := goodIn_app (goodIn_of _ (by decide +kernel)) ggX5_add_X0_holds
set_option maxRecDepth 20000 in
theorem ggX5_add_X0_sum : GoodIn wsX5_add wsX0_sum := goodIn_r _ [31, 13, 26, 14, 4, 15, 16, 17, 32, 33, 20, 34, 35, 36, 41, 42, 43, 44, 45, 46, 47, 48, 49, 50, 51, 52] (by decide +kernel) (by decide +kernel)
set_option maxRecDepth 20000 in
theorem gX5_add_X0_sum : GoodIn wsX5_add (wsV RX5 131 RX0 yX0_sum wsX0_sum) := goodIn_app (goodIn_of _ (by decide +kernel)) ggX5_add_X0_sum
theorem dX5_add_0 : decode cX5_add 0 = .ok (.aload_n 0, 1) := by decide +kernel
theorem dX5_add_1 : decode cX5_add 1 = .ok (.iload_n 1, 1) := by decide +kernel
theorem dX5_add_2 : decode cX5_add 2 = .ok (.invokevirtual 56, 3) := by decide +kernel
theorem dX5_add_5 : decode cX5_add 5 = .ok (.astore 4, 2) := by decide +kernel
theorem dX5_add_7 : decode cX5_add 7 = .ok (.aload 4, 2) := by decide +kernel
theorem dX5_add_9 : decode cX5_add 9 = .ok (.ifnull 21, 3) := by decide +kernel
theorem dX5_add_12 : decode cX5_add 12 = .ok (.aload 4, 2) := by decide +kernel
theorem dX5_add_14 : decode cX5_add 14 = .ok (.iload_n 2, 1) := by decide +kernel
theorem dX5_add_15 : decode cX5_add 15 = .ok (.invokevirtual 93, 3) := by decide +kernel
theorem dX5_add_18 : decode cX5_add 18 = .ok (.ifCond .eq 12, 3) := by decide +kernel
theorem dX5_add_21 : decode cX5_add 21 = .ok (.aload 4, 2) := by decide +kernel
theorem dX5_add_23 : decode cX5_add 23 = .ok (.iload_n 3, 1) := by decide +kernel
theorem dX5_add_24 : decode cX5_add 24 = .ok (.invokevirtual 93, 3) := by decide +kernel
theorem dX5_add_27 : decode cX5_add 27 = .ok (.ifCond .ne 6, 3) := by decide +kernel
theorem dX5_add_30 : decode cX5_add 30 = .ok (.bipush (-2), 2) := by decide +kernel
theorem dX5_add_32 : decode cX5_add 32 = .ok (.ireturn, 1) := by decide +kernel
theorem dX5_add_33 : decode cX5_add 33 = .ok (.aload 4, 2) := by decide +kernel
theorem dX5_add_35 : decode cX5_add 35 = .ok (.iload_n 2, 1) := by decide +kernel
theorem dX5_add_36 : decode cX5_add 36 = .ok (.iload_n 3, 1) := by decide +kernel
theorem dX5_add_37 : decode cX5_add 37 = .ok (.invokevirtual 131, 3) := by decide +kernel
theorem dX5_add_40 : decode cX5_add 40 = .ok (.ireturn, 1) := by decide +kernel
set_option maxRecDepth 20000 in
theorem ggX5_negative_X5_at : GoodIn wsX5_negative wsX5_at := goodIn_r _ [5, 6, 7, 34, 35, 36, 37] (by decide +kernel) (by decide +kernel)
set_option maxRecDepth 20000 in
theorem gX5_negative_X5_at : GoodIn wsX5_negative (wsV RX5 56 RX5 yX5_at wsX5_at) := goodIn_app (goodIn_of _ (by decide +kernel)) ggX5_negative_X5_at
set_option maxRecDepth 20000 in
theorem ggX5_negative_X0_holds : GoodIn wsX5_negative wsX0_holds := goodIn_r _ [12, 13, 14, 4, 15, 16, 17, 18, 19, 20, 21, 22, 23, 24, 11, 25, 26, 27, 38, 39, 40, 41, 42, 43, 44, 45, 46, 47, 48, 49] (by decide +kernel) (by decide +kernel)
set_option maxRecDepth 20000 in
theorem gX5_negative_X0_holds : GoodIn wsX5_negative (wsV RX5 93 RX0 yX0_holds wsX0_holds) := goodIn_app (goodIn_of _ (by decide +kernel)) ggX5_negative_X0_holds
set_option maxRecDepth 20000 in
theorem ggX5_negative_X0_opposite : GoodIn wsX5_negative wsX0_opposite := goodIn_r _ [31, 13, 16, 4, 17, 14, 15, 32, 33, 38, 39, 40, 41, 42, 43, 44, 45, 46, 47, 48, 49] (by decide +kernel) (by decide +kernel)
set_option maxRecDepth 20000 in
theorem gX5_negative_X0_opposite : GoodIn wsX5_negative (wsV RX5 134 RX0 yX0_opposite wsX0_opposite) := goodIn_app (goodIn_of _ (by decide +kernel)) ggX5_negative_X0_opposite
theorem dX5_negative_0 : decode cX5_negative 0 = .ok (.aload_n 0, 1) := by decide +kernel
theorem dX5_negative_1 : decode cX5_negative 1 = .ok (.iload_n 1, 1) := by decide +kernel
theorem dX5_negative_2 : decode cX5_negative 2 = .ok (.invokevirtual 56, 3) := by decide +kernel
theorem dX5_negative_5 : decode cX5_negative 5 = .ok (.astore_n 3, 1) := by decide +kernel
theorem dX5_negative_6 : decode cX5_negative 6 = .ok (.aload_n 3, 1) := by decide +kernel
theorem dX5_negative_7 : decode cX5_negative 7 = .ok (.ifnull 11, 3) := by decide +kernel
theorem dX5_negative_10 : decode cX5_negative 10 = .ok (.aload_n 3, 1) := by decide +kernel
theorem dX5_negative_11 : decode cX5_negative 11 = .ok (.iload_n 2, 1) := by decide +kernel
theorem dX5_negative_12 : decode cX5_negative 12 = .ok (.invokevirtual 93, 3) := by decide +kernel
theorem dX5_negative_15 : decode cX5_negative 15 = .ok (.ifCond .ne 8, 3) := by decide +kernel
theorem dX5_negative_18 : decode cX5_negative 18 = .ok (.bipush (-2), 2) := by decide +kernel
theorem dX5_negative_20 : decode cX5_negative 20 = .ok (.goto 8, 3) := by decide +kernel
theorem dX5_negative_23 : decode cX5_negative 23 = .ok (.aload_n 3, 1) := by decide +kernel
theorem dX5_negative_24 : decode cX5_negative 24 = .ok (.iload_n 2, 1) := by decide +kernel
theorem dX5_negative_25 : decode cX5_negative 25 = .ok (.invokevirtual 134, 3) := by decide +kernel
theorem dX5_negative_28 : decode cX5_negative 28 = .ok (.ireturn, 1) := by decide +kernel
set_option maxRecDepth 20000 in
theorem ggX5_times_X5_at : GoodIn wsX5_times wsX5_at := goodIn_r _ [5, 6, 7, 45, 46, 47, 48] (by decide +kernel) (by decide +kernel)
set_option maxRecDepth 20000 in
theorem gX5_times_X5_at : GoodIn wsX5_times (wsV RX5 56 RX5 yX5_at wsX5_at) := goodIn_app (goodIn_of _ (by decide +kernel)) ggX5_times_X5_at
set_option maxRecDepth 20000 in
theorem ggX5_times_X0_holds : GoodIn wsX5_times wsX0_holds := goodIn_r _ [12, 13, 14, 4, 15, 16, 17, 18, 19, 20, 21, 22, 23, 24, 11, 25, 26, 27, 49, 50, 51, 52, 53, 54, 55, 56, 57, 58, 59, 60] (by decide +kernel) (by decide +kernel)
set_option maxRecDepth 20000 in
theorem gX5_times_X0_holds : GoodIn wsX5_times (wsV RX5 93 RX0 yX0_holds wsX0_holds) := goodIn_app (goodIn_of _ (by decide +kernel)) ggX5_times_X0_holds
set_option maxRecDepth 20000 in
theorem ggX5_times_X0_multiple : GoodIn wsX5_times wsX0_multiple := goodIn_r _ [31, 32, 33, 34, 11, 35, 13, 16, 4, 17, 14, 15, 36, 37, 38, 39, 40, 41, 26, 42, 43, 20, 44, 49, 50, 51, 52, 53, 54, 55, 56, 57, 58, 59, 60] (by decide +kernel) (by decide +kernel)
set_option maxRecDepth 20000 in
theorem gX5_times_X0_multiple : GoodIn wsX5_times (wsV RX5 137 RX0 yX0_multiple wsX0_multiple) := goodIn_app (goodIn_of _ (by decide +kernel)) ggX5_times_X0_multiple
theorem dX5_times_0 : decode cX5_times 0 = .ok (.aload_n 0, 1) := by decide +kernel
theorem dX5_times_1 : decode cX5_times 1 = .ok (.iload_n 1, 1) := by decide +kernel
theorem dX5_times_2 : decode cX5_times 2 = .ok (.invokevirtual 56, 3) := by decide +kernel
theorem dX5_times_5 : decode cX5_times 5 = .ok (.astore 5, 2) := by decide +kernel
theorem dX5_times_7 : decode cX5_times 7 = .ok (.aload 5, 2) := by decide +kernel
theorem dX5_times_9 : decode cX5_times 9 = .ok (.ifnull 12, 3) := by decide +kernel
theorem dX5_times_12 : decode cX5_times 12 = .ok (.aload 5, 2) := by decide +kernel
theorem dX5_times_14 : decode cX5_times 14 = .ok (.iload_n 2, 1) := by decide +kernel
theorem dX5_times_15 : decode cX5_times 15 = .ok (.invokevirtual 93, 3) := by decide +kernel
theorem dX5_times_18 : decode cX5_times 18 = .ok (.ifCond .ne 8, 3) := by decide +kernel
theorem dX5_times_21 : decode cX5_times 21 = .ok (.bipush (-2), 2) := by decide +kernel
theorem dX5_times_23 : decode cX5_times 23 = .ok (.goto 10, 3) := by decide +kernel
theorem dX5_times_26 : decode cX5_times 26 = .ok (.aload 5, 2) := by decide +kernel
theorem dX5_times_28 : decode cX5_times 28 = .ok (.iload_n 2, 1) := by decide +kernel
theorem dX5_times_29 : decode cX5_times 29 = .ok (.lload_n 3, 1) := by decide +kernel
theorem dX5_times_30 : decode cX5_times 30 = .ok (.invokevirtual 137, 3) := by decide +kernel
theorem dX5_times_33 : decode cX5_times 33 = .ok (.ireturn, 1) := by decide +kernel
set_option maxRecDepth 20000 in
theorem ggX5_alone_X5_at : GoodIn wsX5_alone wsX5_at := goodIn_r _ [7, 8, 9, 96, 97, 98, 99] (by decide +kernel) (by decide +kernel)
set_option maxRecDepth 20000 in
theorem gX5_alone_X5_at : GoodIn wsX5_alone (wsV RX5 56 RX5 yX5_at wsX5_at) := goodIn_app (goodIn_of _ (by decide +kernel)) ggX5_alone_X5_at
set_option maxRecDepth 20000 in
theorem ggX5_alone_X4_isBelow : GoodIn wsX5_alone wsX4_isBelow := goodIn_r _ [13] (by decide +kernel) (by decide +kernel)
set_option maxRecDepth 20000 in
theorem gX5_alone_X4_isBelow : GoodIn wsX5_alone (va_wsS RX5 41 yX4_isBelow wsX4_isBelow) := goodIn_app (goodIn_of _ (by decide +kernel)) ggX5_alone_X4_isBelow
set_option maxRecDepth 20000 in
theorem ggX5_alone_X3_lesserAt : GoodIn wsX5_alone wsX3_lesserAt := goodIn_r _ [18, 19, 20, 21, 22, 23, 24, 25, 26, 27, 28, 29, 30, 31, 32, 33, 34, 35, 36, 37, 38, 39, 40, 6, 41, 100, 101, 102, 84, 85, 86, 87, 88, 89, 90, 91, 92, 93, 94, 95, 103, 104] (by decide +kernel) (by decide +kernel)
set_option maxRecDepth 20000 in
theorem gX5_alone_X3_lesserAt : GoodIn wsX5_alone (wsV RX5 121 RX3 yX3_lesserAt wsX3_lesserAt) := goodIn_app (goodIn_of _ (by decide +kernel)) ggX5_alone_X3_lesserAt
set_option maxRecDepth 20000 in
theorem ggX5_alone_X0_multiple : GoodIn wsX5_alone wsX0_multiple := goodIn_r _ [45, 46, 47, 48, 24, 49, 27, 50, 6, 51, 52, 53, 40, 41, 54, 55, 56, 57, 26, 58, 59, 12, 60, 84, 85, 86, 87, 88, 89, 90, 91, 92, 93, 94, 95] (by decide +kernel) (by decide +kernel)
set_option maxRecDepth 20000 in
theorem gX5_alone_X0_multiple : GoodIn wsX5_alone (wsV RX5 137 RX0 yX0_multiple wsX0_multiple) := goodIn_app (goodIn_of _ (by decide +kernel)) ggX5_alone_X0_multiple
set_option maxRecDepth 20000 in
theorem ggX5_alone_X5_xOf : GoodIn wsX5_alone wsX5_xOf := goodIn_r _ [53] (by decide +kernel) (by decide +kernel)
set_option maxRecDepth 20000 in
theorem gX5_alone_X5_xOf : GoodIn wsX5_alone (va_wsS RX5 96 yX5_xOf wsX5_xOf) := goodIn_app (goodIn_of _ (by decide +kernel)) ggX5_alone_X5_xOf
set_option maxRecDepth 20000 in
theorem ggX5_alone_X4_leastNoSquare : GoodIn wsX5_alone wsX4_leastNoSquare := goodIn_r _ [64, 65, 66, 12, 67] (by decide +kernel) (by decide +kernel)
set_option maxRecDepth 20000 in
theorem gX5_alone_X4_leastNoSquare : GoodIn wsX5_alone (va_wsS RX5 79 yX4_leastNoSquare wsX4_leastNoSquare) := goodIn_app (goodIn_of _ (by decide +kernel)) ggX5_alone_X4_leastNoSquare
set_option maxRecDepth 20000 in
theorem ggX5_alone_X0_twisted : GoodIn wsX5_alone wsX0_twisted := goodIn_r _ [71, 27, 72, 73, 24, 26, 28, 74, 63, 12, 64, 65, 66, 67, 75, 76, 77, 78, 79, 80, 81, 82, 84, 85, 86, 87, 88, 89, 90, 91, 92, 93, 94, 95] (by decide +kernel) (by decide +kernel)
set_option maxRecDepth 20000 in
theorem gX5_alone_X0_twisted : GoodIn wsX5_alone (wsV RX5 86 RX0 yX0_twisted wsX0_twisted) := goodIn_app (goodIn_of _ (by decide +kernel)) ggX5_alone_X0_twisted
set_option maxRecDepth 20000 in
theorem ggX5_alone_X4_inverted : GoodIn wsX5_alone wsX4_inverted := goodIn_r _ [60] (by decide +kernel) (by decide +kernel)
set_option maxRecDepth 20000 in
theorem gX5_alone_X4_inverted : GoodIn wsX5_alone (va_wsS RX5 108 yX4_inverted wsX4_inverted) := goodIn_app (goodIn_of _ (by decide +kernel)) ggX5_alone_X4_inverted
theorem dX5_alone_0 : decode cX5_alone 0 = .ok (.aload_n 0, 1) := by decide +kernel
theorem dX5_alone_1 : decode cX5_alone 1 = .ok (.iload_n 1, 1) := by decide +kernel
theorem dX5_alone_2 : decode cX5_alone 2 = .ok (.invokevirtual 56, 3) := by decide +kernel
theorem dX5_alone_5 : decode cX5_alone 5 = .ok (.astore 5, 2) := by decide +kernel
theorem dX5_alone_7 : decode cX5_alone 7 = .ok (.aload 5, 2) := by decide +kernel
theorem dX5_alone_9 : decode cX5_alone 9 = .ok (.ifnull 15, 3) := by decide +kernel
theorem dX5_alone_12 : decode cX5_alone 12 = .ok (.iload_n 2, 1) := by decide +kernel
theorem dX5_alone_13 : decode cX5_alone 13 = .ok (.aload 5, 2) := by decide +kernel
theorem dX5_alone_15 : decode cX5_alone 15 = .ok (.getfield 60, 3) := by decide +kernel
theorem dX5_alone_18 : decode cX5_alone 18 = .ok (.invokestatic 41, 3) := by decide +kernel
theorem dX5_alone_21 : decode cX5_alone 21 = .ok (.ifCond .ne 6, 3) := by decide +kernel
theorem dX5_alone_24 : decode cX5_alone 24 = .ok (.bipush (-2), 2) := by decide +kernel
theorem dX5_alone_26 : decode cX5_alone 26 = .ok (.ireturn, 1) := by decide +kernel
theorem dX5_alone_27 : decode cX5_alone 27 = .ok (.aload_n 0, 1) := by decide +kernel
theorem dX5_alone_28 : decode cX5_alone 28 = .ok (.getfield 31, 3) := by decide +kernel
theorem dX5_alone_31 : decode cX5_alone 31 = .ok (.aload 5, 2) := by decide +kernel
theorem dX5_alone_33 : decode cX5_alone 33 = .ok (.iload_n 2, 1) := by decide +kernel
theorem dX5_alone_34 : decode cX5_alone 34 = .ok (.invokevirtual 121, 3) := by decide +kernel
theorem dX5_alone_37 : decode cX5_alone 37 = .ok (.istore 6, 2) := by decide +kernel
theorem dX5_alone_39 : decode cX5_alone 39 = .ok (.iload 6, 2) := by decide +kernel
theorem dX5_alone_41 : decode cX5_alone 41 = .ok (.iconst (-1), 1) := by decide +kernel
theorem dX5_alone_42 : decode cX5_alone 42 = .ok (.if_icmp .eq 29, 3) := by decide +kernel
theorem dX5_alone_45 : decode cX5_alone 45 = .ok (.aload 5, 2) := by decide +kernel
theorem dX5_alone_47 : decode cX5_alone 47 = .ok (.iload 6, 2) := by decide +kernel
theorem dX5_alone_49 : decode cX5_alone 49 = .ok (.lload_n 3, 1) := by decide +kernel
theorem dX5_alone_50 : decode cX5_alone 50 = .ok (.invokevirtual 137, 3) := by decide +kernel
theorem dX5_alone_53 : decode cX5_alone 53 = .ok (.istore 7, 2) := by decide +kernel
theorem dX5_alone_55 : decode cX5_alone 55 = .ok (.iload 7, 2) := by decide +kernel
theorem dX5_alone_57 : decode cX5_alone 57 = .ok (.iconst (-1), 1) := by decide +kernel
theorem dX5_alone_58 : decode cX5_alone 58 = .ok (.if_icmp .ne 7, 3) := by decide +kernel
theorem dX5_alone_61 : decode cX5_alone 61 = .ok (.iconst (-1), 1) := by decide +kernel
theorem dX5_alone_62 : decode cX5_alone 62 = .ok (.goto 8, 3) := by decide +kernel
theorem dX5_alone_65 : decode cX5_alone 65 = .ok (.iload 7, 2) := by decide +kernel
theorem dX5_alone_67 : decode cX5_alone 67 = .ok (.invokestatic 96, 3) := by decide +kernel
theorem dX5_alone_70 : decode cX5_alone 70 = .ok (.ireturn, 1) := by decide +kernel
theorem dX5_alone_71 : decode cX5_alone 71 = .ok (.aload 5, 2) := by decide +kernel
theorem dX5_alone_73 : decode cX5_alone 73 = .ok (.getfield 60, 3) := by decide +kernel
theorem dX5_alone_76 : decode cX5_alone 76 = .ok (.invokestatic 79, 3) := by decide +kernel
theorem dX5_alone_79 : decode cX5_alone 79 = .ok (.istore 7, 2) := by decide +kernel
theorem dX5_alone_81 : decode cX5_alone 81 = .ok (.aload 5, 2) := by decide +kernel
theorem dX5_alone_83 : decode cX5_alone 83 = .ok (.invokevirtual 86, 3) := by decide +kernel
theorem dX5_alone_86 : decode cX5_alone 86 = .ok (.astore 8, 2) := by decide +kernel
theorem dX5_alone_88 : decode cX5_alone 88 = .ok (.aload 8, 2) := by decide +kernel
theorem dX5_alone_90 : decode cX5_alone 90 = .ok (.aload_n 0, 1) := by decide +kernel
theorem dX5_alone_91 : decode cX5_alone 91 = .ok (.getfield 31, 3) := by decide +kernel
theorem dX5_alone_94 : decode cX5_alone 94 = .ok (.aload 8, 2) := by decide +kernel
theorem dX5_alone_96 : decode cX5_alone 96 = .ok (.iload 7, 2) := by decide +kernel
theorem dX5_alone_98 : decode cX5_alone 98 = .ok (.iload_n 2, 1) := by decide +kernel
theorem dX5_alone_99 : decode cX5_alone 99 = .ok (.imul, 1) := by decide +kernel
theorem dX5_alone_100 : decode cX5_alone 100 = .ok (.aload 5, 2) := by decide +kernel
theorem dX5_alone_102 : decode cX5_alone 102 = .ok (.getfield 60, 3) := by decide +kernel
theorem dX5_alone_105 : decode cX5_alone 105 = .ok (.irem, 1) := by decide +kernel
theorem dX5_alone_106 : decode cX5_alone 106 = .ok (.invokevirtual 121, 3) := by decide +kernel
theorem dX5_alone_109 : decode cX5_alone 109 = .ok (.lload_n 3, 1) := by decide +kernel
theorem dX5_alone_110 : decode cX5_alone 110 = .ok (.invokevirtual 137, 3) := by decide +kernel
theorem dX5_alone_113 : decode cX5_alone 113 = .ok (.istore 9, 2) := by decide +kernel
theorem dX5_alone_115 : decode cX5_alone 115 = .ok (.iload 9, 2) := by decide +kernel
theorem dX5_alone_117 : decode cX5_alone 117 = .ok (.iconst (-1), 1) := by decide +kernel
theorem dX5_alone_118 : decode cX5_alone 118 = .ok (.if_icmp .ne 7, 3) := by decide +kernel
theorem dX5_alone_121 : decode cX5_alone 121 = .ok (.iconst (-1), 1) := by decide +kernel
theorem dX5_alone_122 : decode cX5_alone 122 = .ok (.goto 25, 3) := by decide +kernel
theorem dX5_alone_125 : decode cX5_alone 125 = .ok (.iload 9, 2) := by decide +kernel
theorem dX5_alone_127 : decode cX5_alone 127 = .ok (.invokestatic 96, 3) := by decide +kernel
theorem dX5_alone_130 : decode cX5_alone 130 = .ok (.iload 7, 2) := by decide +kernel
theorem dX5_alone_132 : decode cX5_alone 132 = .ok (.aload 5, 2) := by decide +kernel
theorem dX5_alone_134 : decode cX5_alone 134 = .ok (.getfield 60, 3) := by decide +kernel
theorem dX5_alone_137 : decode cX5_alone 137 = .ok (.invokestatic 108, 3) := by decide +kernel
theorem dX5_alone_140 : decode cX5_alone 140 = .ok (.imul, 1) := by decide +kernel
theorem dX5_alone_141 : decode cX5_alone 141 = .ok (.aload 5, 2) := by decide +kernel
theorem dX5_alone_143 : decode cX5_alone 143 = .ok (.getfield 60, 3) := by decide +kernel
theorem dX5_alone_146 : decode cX5_alone 146 = .ok (.irem, 1) := by decide +kernel
theorem dX5_alone_147 : decode cX5_alone 147 = .ok (.ireturn, 1) := by decide +kernel
set_option maxRecDepth 20000 in
theorem ggX5_count_X5_at : GoodIn wsX5_count wsX5_at := goodIn_r _ [6, 7, 8, 38, 39, 40, 41] (by decide +kernel) (by decide +kernel)
set_option maxRecDepth 20000 in
theorem gX5_count_X5_at : GoodIn wsX5_count (wsV RX5 56 RX5 yX5_at wsX5_at) := goodIn_app (goodIn_of _ (by decide +kernel)) ggX5_count_X5_at
set_option maxRecDepth 20000 in
theorem ggX5_count_X3_sizeOf : GoodIn wsX5_count wsX3_sizeOf := goodIn_r _ [13, 14, 15, 16, 17, 18, 19, 20, 12, 21, 22, 23, 24, 25, 26, 27, 28, 29, 30, 31, 32, 33, 34, 35, 36, 37, 42, 43, 44, 45, 46, 47, 48, 49, 50, 51, 52, 53, 54, 55, 56, 57, 58] (by decide +kernel) (by decide +kernel)
set_option maxRecDepth 20000 in
theorem gX5_count_X3_sizeOf : GoodIn wsX5_count (wsV RX5 141 RX3 yX3_sizeOf wsX3_sizeOf) := goodIn_app (goodIn_of _ (by decide +kernel)) ggX5_count_X3_sizeOf
theorem dX5_count_0 : decode cX5_count 0 = .ok (.aload_n 0, 1) := by decide +kernel
theorem dX5_count_1 : decode cX5_count 1 = .ok (.iload_n 1, 1) := by decide +kernel
theorem dX5_count_2 : decode cX5_count 2 = .ok (.invokevirtual 56, 3) := by decide +kernel
theorem dX5_count_5 : decode cX5_count 5 = .ok (.astore_n 2, 1) := by decide +kernel
theorem dX5_count_6 : decode cX5_count 6 = .ok (.aload_n 2, 1) := by decide +kernel
theorem dX5_count_7 : decode cX5_count 7 = .ok (.ifnonnull 8, 3) := by decide +kernel
theorem dX5_count_10 : decode cX5_count 10 = .ok (.bipush (-2), 2) := by decide +kernel
theorem dX5_count_12 : decode cX5_count 12 = .ok (.goto 11, 3) := by decide +kernel
theorem dX5_count_15 : decode cX5_count 15 = .ok (.aload_n 0, 1) := by decide +kernel
theorem dX5_count_16 : decode cX5_count 16 = .ok (.getfield 31, 3) := by decide +kernel
theorem dX5_count_19 : decode cX5_count 19 = .ok (.aload_n 2, 1) := by decide +kernel
theorem dX5_count_20 : decode cX5_count 20 = .ok (.invokevirtual 141, 3) := by decide +kernel
theorem dX5_count_23 : decode cX5_count 23 = .ok (.ireturn, 1) := by decide +kernel
set_option maxRecDepth 20000 in
theorem ggX5_countOver_X5_at : GoodIn wsX5_countOver wsX5_at := goodIn_r _ [9, 10, 11, 53, 54, 55, 56] (by decide +kernel) (by decide +kernel)
set_option maxRecDepth 20000 in
theorem gX5_countOver_X5_at : GoodIn wsX5_countOver (wsV RX5 56 RX5 yX5_at wsX5_at) := goodIn_app (goodIn_of _ (by decide +kernel)) ggX5_countOver_X5_at
set_option maxRecDepth 20000 in
theorem ggX5_countOver_X3_sizeOf : GoodIn wsX5_countOver wsX3_sizeOf := goodIn_r _ [16, 17, 18, 19, 20, 21, 22, 23, 15, 24, 25, 26, 27, 28, 29, 30, 31, 32, 33, 34, 35, 36, 37, 38, 39, 40, 41, 42, 43, 44, 45, 46, 47, 48, 49, 50, 51, 52, 57, 58, 59, 60, 61] (by decide +kernel) (by decide +kernel)
set_option maxRecDepth 20000 in
theorem gX5_countOver_X3_sizeOf : GoodIn wsX5_countOver (wsV RX5 141 RX3 yX3_sizeOf wsX3_sizeOf) := goodIn_app (goodIn_of _ (by decide +kernel)) ggX5_countOver_X3_sizeOf
theorem dX5_countOver_0 : decode cX5_countOver 0 = .ok (.aload_n 0, 1) := by decide +kernel
theorem dX5_countOver_1 : decode cX5_countOver 1 = .ok (.iload_n 1, 1) := by decide +kernel
theorem dX5_countOver_2 : decode cX5_countOver 2 = .ok (.invokevirtual 56, 3) := by decide +kernel
theorem dX5_countOver_5 : decode cX5_countOver 5 = .ok (.astore_n 3, 1) := by decide +kernel
theorem dX5_countOver_6 : decode cX5_countOver 6 = .ok (.aload_n 3, 1) := by decide +kernel
theorem dX5_countOver_7 : decode cX5_countOver 7 = .ok (.ifnull 13, 3) := by decide +kernel
theorem dX5_countOver_10 : decode cX5_countOver 10 = .ok (.iload_n 2, 1) := by decide +kernel
theorem dX5_countOver_11 : decode cX5_countOver 11 = .ok (.iconst 1, 1) := by decide +kernel
theorem dX5_countOver_12 : decode cX5_countOver 12 = .ok (.if_icmp .lt 8, 3) := by decide +kernel
theorem dX5_countOver_15 : decode cX5_countOver 15 = .ok (.iload_n 2, 1) := by decide +kernel
theorem dX5_countOver_16 : decode cX5_countOver 16 = .ok (.iconst 4, 1) := by decide +kernel
theorem dX5_countOver_17 : decode cX5_countOver 17 = .ok (.if_icmp .le 7, 3) := by decide +kernel
theorem dX5_countOver_20 : decode cX5_countOver 20 = .ok (.ldc2_w 144, 3) := by decide +kernel
theorem dX5_countOver_23 : decode cX5_countOver 23 = .ok (.lreturn, 1) := by decide +kernel
theorem dX5_countOver_24 : decode cX5_countOver 24 = .ok (.aload_n 3, 1) := by decide +kernel
theorem dX5_countOver_25 : decode cX5_countOver 25 = .ok (.getfield 60, 3) := by decide +kernel
theorem dX5_countOver_28 : decode cX5_countOver 28 = .ok (.iconst 1, 1) := by decide +kernel
theorem dX5_countOver_29 : decode cX5_countOver 29 = .ok (.iadd, 1) := by decide +kernel
theorem dX5_countOver_30 : decode cX5_countOver 30 = .ok (.aload_n 0, 1) := by decide +kernel
theorem dX5_countOver_31 : decode cX5_countOver 31 = .ok (.getfield 31, 3) := by decide +kernel
theorem dX5_countOver_34 : decode cX5_countOver 34 = .ok (.aload_n 3, 1) := by decide +kernel
theorem dX5_countOver_35 : decode cX5_countOver 35 = .ok (.invokevirtual 141, 3) := by decide +kernel
theorem dX5_countOver_38 : decode cX5_countOver 38 = .ok (.isub, 1) := by decide +kernel
theorem dX5_countOver_39 : decode cX5_countOver 39 = .ok (.i2l, 1) := by decide +kernel
theorem dX5_countOver_40 : decode cX5_countOver 40 = .ok (.lstore 4, 2) := by decide +kernel
theorem dX5_countOver_42 : decode cX5_countOver 42 = .ok (.ldc2_w 146, 3) := by decide +kernel
theorem dX5_countOver_45 : decode cX5_countOver 45 = .ok (.lstore 6, 2) := by decide +kernel
theorem dX5_countOver_47 : decode cX5_countOver 47 = .ok (.lload 4, 2) := by decide +kernel
theorem dX5_countOver_49 : decode cX5_countOver 49 = .ok (.lstore 8, 2) := by decide +kernel
theorem dX5_countOver_51 : decode cX5_countOver 51 = .ok (.aload_n 3, 1) := by decide +kernel
theorem dX5_countOver_52 : decode cX5_countOver 52 = .ok (.getfield 60, 3) := by decide +kernel
theorem dX5_countOver_55 : decode cX5_countOver 55 = .ok (.i2l, 1) := by decide +kernel
theorem dX5_countOver_56 : decode cX5_countOver 56 = .ok (.lstore 10, 2) := by decide +kernel
theorem dX5_countOver_58 : decode cX5_countOver 58 = .ok (.iconst 1, 1) := by decide +kernel
theorem dX5_countOver_59 : decode cX5_countOver 59 = .ok (.istore 12, 2) := by decide +kernel
theorem dX5_countOver_61 : decode cX5_countOver 61 = .ok (.iload 12, 2) := by decide +kernel
theorem dX5_countOver_63 : decode cX5_countOver 63 = .ok (.iload_n 2, 1) := by decide +kernel
theorem dX5_countOver_64 : decode cX5_countOver 64 = .ok (.if_icmp .ge 43, 3) := by decide +kernel
theorem dX5_countOver_67 : decode cX5_countOver 67 = .ok (.lload 4, 2) := by decide +kernel
theorem dX5_countOver_69 : decode cX5_countOver 69 = .ok (.lload 8, 2) := by decide +kernel
theorem dX5_countOver_71 : decode cX5_countOver 71 = .ok (.lmul, 1) := by decide +kernel
theorem dX5_countOver_72 : decode cX5_countOver 72 = .ok (.aload_n 3, 1) := by decide +kernel
theorem dX5_countOver_73 : decode cX5_countOver 73 = .ok (.getfield 60, 3) := by decide +kernel
theorem dX5_countOver_76 : decode cX5_countOver 76 = .ok (.i2l, 1) := by decide +kernel
theorem dX5_countOver_77 : decode cX5_countOver 77 = .ok (.lload 6, 2) := by decide +kernel
theorem dX5_countOver_79 : decode cX5_countOver 79 = .ok (.lmul, 1) := by decide +kernel
theorem dX5_countOver_80 : decode cX5_countOver 80 = .ok (.lsub, 1) := by decide +kernel
theorem dX5_countOver_81 : decode cX5_countOver 81 = .ok (.lstore 13, 2) := by decide +kernel
theorem dX5_countOver_83 : decode cX5_countOver 83 = .ok (.lload 8, 2) := by decide +kernel
theorem dX5_countOver_85 : decode cX5_countOver 85 = .ok (.lstore 6, 2) := by decide +kernel
theorem dX5_countOver_87 : decode cX5_countOver 87 = .ok (.lload 13, 2) := by decide +kernel
theorem dX5_countOver_89 : decode cX5_countOver 89 = .ok (.lstore 8, 2) := by decide +kernel
theorem dX5_countOver_91 : decode cX5_countOver 91 = .ok (.lload 10, 2) := by decide +kernel
theorem dX5_countOver_93 : decode cX5_countOver 93 = .ok (.aload_n 3, 1) := by decide +kernel
theorem dX5_countOver_94 : decode cX5_countOver 94 = .ok (.getfield 60, 3) := by decide +kernel
theorem dX5_countOver_97 : decode cX5_countOver 97 = .ok (.i2l, 1) := by decide +kernel
theorem dX5_countOver_98 : decode cX5_countOver 98 = .ok (.lmul, 1) := by decide +kernel
theorem dX5_countOver_99 : decode cX5_countOver 99 = .ok (.lstore 10, 2) := by decide +kernel
theorem dX5_countOver_101 : decode cX5_countOver 101 = .ok (.iinc 12 1, 3) := by decide +kernel
theorem dX5_countOver_104 : decode cX5_countOver 104 = .ok (.goto (-43), 3) := by decide +kernel
theorem dX5_countOver_107 : decode cX5_countOver 107 = .ok (.lload 10, 2) := by decide +kernel
theorem dX5_countOver_109 : decode cX5_countOver 109 = .ok (.lconst 1, 1) := by decide +kernel
theorem dX5_countOver_110 : decode cX5_countOver 110 = .ok (.ladd, 1) := by decide +kernel
theorem dX5_countOver_111 : decode cX5_countOver 111 = .ok (.lload 8, 2) := by decide +kernel
theorem dX5_countOver_113 : decode cX5_countOver 113 = .ok (.lsub, 1) := by decide +kernel
theorem dX5_countOver_114 : decode cX5_countOver 114 = .ok (.lreturn, 1) := by decide +kernel
set_option maxRecDepth 20000 in
theorem ggX5_bound_X5_at : GoodIn wsX5_bound wsX5_at := goodIn_r _ [6, 7, 8, 25, 26, 27, 28] (by decide +kernel) (by decide +kernel)
set_option maxRecDepth 20000 in
theorem gX5_bound_X5_at : GoodIn wsX5_bound (wsV RX5 56 RX5 yX5_at wsX5_at) := goodIn_app (goodIn_of _ (by decide +kernel)) ggX5_bound_X5_at
set_option maxRecDepth 20000 in
theorem ggX5_bound_X4_reachOf : GoodIn wsX5_bound wsX4_reachOf := goodIn_r _ [12] (by decide +kernel) (by decide +kernel)
set_option maxRecDepth 20000 in
theorem gX5_bound_X4_reachOf : GoodIn wsX5_bound (va_wsS RX5 148 yX4_reachOf wsX4_reachOf) := goodIn_app (goodIn_of _ (by decide +kernel)) ggX5_bound_X4_reachOf
theorem dX5_bound_0 : decode cX5_bound 0 = .ok (.aload_n 0, 1) := by decide +kernel
theorem dX5_bound_1 : decode cX5_bound 1 = .ok (.iload_n 1, 1) := by decide +kernel
theorem dX5_bound_2 : decode cX5_bound 2 = .ok (.invokevirtual 56, 3) := by decide +kernel
theorem dX5_bound_5 : decode cX5_bound 5 = .ok (.astore_n 3, 1) := by decide +kernel
theorem dX5_bound_6 : decode cX5_bound 6 = .ok (.aload_n 3, 1) := by decide +kernel
theorem dX5_bound_7 : decode cX5_bound 7 = .ok (.ifnull 12, 3) := by decide +kernel
theorem dX5_bound_10 : decode cX5_bound 10 = .ok (.iload_n 2, 1) := by decide +kernel
theorem dX5_bound_11 : decode cX5_bound 11 = .ok (.ifCond .lt 8, 3) := by decide +kernel
theorem dX5_bound_14 : decode cX5_bound 14 = .ok (.iload_n 2, 1) := by decide +kernel
theorem dX5_bound_15 : decode cX5_bound 15 = .ok (.iconst 1, 1) := by decide +kernel
theorem dX5_bound_16 : decode cX5_bound 16 = .ok (.if_icmp .le 6, 3) := by decide +kernel
theorem dX5_bound_19 : decode cX5_bound 19 = .ok (.bipush (-2), 2) := by decide +kernel
theorem dX5_bound_21 : decode cX5_bound 21 = .ok (.ireturn, 1) := by decide +kernel
theorem dX5_bound_22 : decode cX5_bound 22 = .ok (.aload_n 3, 1) := by decide +kernel
theorem dX5_bound_23 : decode cX5_bound 23 = .ok (.getfield 60, 3) := by decide +kernel
theorem dX5_bound_26 : decode cX5_bound 26 = .ok (.invokestatic 148, 3) := by decide +kernel
theorem dX5_bound_29 : decode cX5_bound 29 = .ok (.istore 4, 2) := by decide +kernel
theorem dX5_bound_31 : decode cX5_bound 31 = .ok (.iload_n 2, 1) := by decide +kernel
theorem dX5_bound_32 : decode cX5_bound 32 = .ok (.ifCond .ne 15, 3) := by decide +kernel
theorem dX5_bound_35 : decode cX5_bound 35 = .ok (.aload_n 3, 1) := by decide +kernel
theorem dX5_bound_36 : decode cX5_bound 36 = .ok (.getfield 60, 3) := by decide +kernel
theorem dX5_bound_39 : decode cX5_bound 39 = .ok (.iconst 1, 1) := by decide +kernel
theorem dX5_bound_40 : decode cX5_bound 40 = .ok (.iadd, 1) := by decide +kernel
theorem dX5_bound_41 : decode cX5_bound 41 = .ok (.iload 4, 2) := by decide +kernel
theorem dX5_bound_43 : decode cX5_bound 43 = .ok (.isub, 1) := by decide +kernel
theorem dX5_bound_44 : decode cX5_bound 44 = .ok (.goto 12, 3) := by decide +kernel
theorem dX5_bound_47 : decode cX5_bound 47 = .ok (.aload_n 3, 1) := by decide +kernel
theorem dX5_bound_48 : decode cX5_bound 48 = .ok (.getfield 60, 3) := by decide +kernel
theorem dX5_bound_51 : decode cX5_bound 51 = .ok (.iconst 1, 1) := by decide +kernel
theorem dX5_bound_52 : decode cX5_bound 52 = .ok (.iadd, 1) := by decide +kernel
theorem dX5_bound_53 : decode cX5_bound 53 = .ok (.iload 4, 2) := by decide +kernel
theorem dX5_bound_55 : decode cX5_bound 55 = .ok (.iadd, 1) := by decide +kernel
theorem dX5_bound_56 : decode cX5_bound 56 = .ok (.ireturn, 1) := by decide +kernel
set_option maxRecDepth 20000 in
theorem ggX5_proof_X5_at : GoodIn wsX5_proof wsX5_at := goodIn_r _ [8, 9, 10, 178, 179, 180, 181] (by decide +kernel) (by decide +kernel)
set_option maxRecDepth 20000 in
theorem gX5_proof_X5_at : GoodIn wsX5_proof (wsV RX5 56 RX5 yX5_at wsX5_at) := goodIn_app (goodIn_of _ (by decide +kernel)) ggX5_proof_X5_at
set_option maxRecDepth 20000 in
theorem ggX5_proof_X0_twisted : GoodIn wsX5_proof wsX0_twisted := goodIn_r _ [15, 16, 17, 18, 14, 19, 20, 21, 22, 23, 24, 25, 26, 27, 28, 29, 30, 31, 32, 33, 34, 35, 166, 167, 168, 169, 170, 171, 172, 173, 174, 175, 176, 177] (by decide +kernel) (by decide +kernel)
set_option maxRecDepth 20000 in
theorem gX5_proof_X0_twisted : GoodIn wsX5_proof (wsV RX5 86 RX0 yX0_twisted wsX0_twisted) := goodIn_app (goodIn_of _ (by decide +kernel)) ggX5_proof_X0_twisted
set_option maxRecDepth 20000 in
theorem ggX5_proof_X3_sizeOf : GoodIn wsX5_proof wsX3_sizeOf := goodIn_r _ [40, 41, 42, 43, 44, 45, 46, 47, 39, 48, 49, 50, 51, 52, 53, 54, 55, 56, 57, 58, 59, 60, 61, 62, 63, 64, 166, 167, 168, 169, 170, 171, 172, 173, 174, 175, 176, 177, 182, 183, 184, 185, 186] (by decide +kernel) (by decide +kernel)
set_option maxRecDepth 20000 in
theorem gX5_proof_X3_sizeOf : GoodIn wsX5_proof (wsV RX5 141 RX3 yX3_sizeOf wsX3_sizeOf) := goodIn_app (goodIn_of _ (by decide +kernel)) ggX5_proof_X3_sizeOf
set_option maxRecDepth 20000 in
theorem ggX5_proof_X3_settle : GoodIn wsX5_proof wsX3_settle := goodIn_r _ [68, 69, 42, 41, 70, 71, 37, 38, 39, 40, 43, 44, 45, 46, 47, 48, 49, 50, 51, 52, 53, 54, 55, 56, 57, 58, 59, 60, 61, 62, 63, 64, 72, 73, 23, 74, 75, 76, 77, 78, 79, 80, 81, 82, 83, 84, 85, 86, 87, 88, 89, 90, 91, 92, 93, 94, 95, 96, 97, 98, 99, 100, 101, 102, 7, 103, 104, 105, 106, 14, 107, 16, 19, 108, 109, 110, 111, 112, 113, 114, 115, 116, 117, 118, 119, 120, 121, 122, 123, 124, 125, 126, 20, 127, 128, 129, 130, 131, 132, 133, 134, 135, 136, 137, 138, 139, 140, 141, 142, 143, 144, 145, 146, 147, 148, 149, 150, 151, 152, 153, 154, 166, 167, 168, 169, 170, 171, 172, 173, 174, 175, 176, 177, 182, 183, 184, 185, 186, 187, 188, 189, 190, 191, 192] (by decide +kernel) (by decide +kernel)
set_option maxRecDepth 20000 in
theorem gX5_proof_X3_settle : GoodIn wsX5_proof (wsV RX5 154 RX3 yX3_settle wsX3_settle) := goodIn_app (goodIn_of _ (by decide +kernel)) ggX5_proof_X3_settle
set_option maxRecDepth 20000 in
theorem ggX5_proof_X3_leastProver : GoodIn wsX5_proof wsX3_leastProver := goodIn_r _ [158, 70, 42, 159, 160, 161, 14, 162, 16, 163, 164, 23, 165, 119, 120, 121, 39, 122, 53, 123, 124, 125, 126, 19, 20, 54, 55, 56, 57, 58, 59, 60, 61, 62, 63, 64, 113, 7, 114, 133, 134, 135, 136, 137, 73, 74, 138, 128, 129, 130, 131, 116, 117, 118, 108, 109, 102, 103, 132, 105, 106, 107, 110, 111, 112, 166, 167, 168, 169, 170, 171, 172, 173, 174, 175, 176, 177, 182, 183, 184, 185, 186] (by decide +kernel) (by decide +kernel)
set_option maxRecDepth 20000 in
theorem gX5_proof_X3_leastProver : GoodIn wsX5_proof (wsV RX5 158 RX3 yX3_leastProver wsX3_leastProver) := goodIn_app (goodIn_of _ (by decide +kernel)) ggX5_proof_X3_leastProver
theorem dX5_proof_0 : decode cX5_proof 0 = .ok (.aload_n 0, 1) := by decide +kernel
theorem dX5_proof_1 : decode cX5_proof 1 = .ok (.iload_n 1, 1) := by decide +kernel
theorem dX5_proof_2 : decode cX5_proof 2 = .ok (.invokevirtual 56, 3) := by decide +kernel
theorem dX5_proof_5 : decode cX5_proof 5 = .ok (.astore_n 3, 1) := by decide +kernel
theorem dX5_proof_6 : decode cX5_proof 6 = .ok (.aload_n 3, 1) := by decide +kernel
theorem dX5_proof_7 : decode cX5_proof 7 = .ok (.ifnull 12, 3) := by decide +kernel
theorem dX5_proof_10 : decode cX5_proof 10 = .ok (.iload_n 2, 1) := by decide +kernel
theorem dX5_proof_11 : decode cX5_proof 11 = .ok (.ifCond .lt 8, 3) := by decide +kernel
theorem dX5_proof_14 : decode cX5_proof 14 = .ok (.iload_n 2, 1) := by decide +kernel
theorem dX5_proof_15 : decode cX5_proof 15 = .ok (.iconst 1, 1) := by decide +kernel
theorem dX5_proof_16 : decode cX5_proof 16 = .ok (.if_icmp .le 6, 3) := by decide +kernel
theorem dX5_proof_19 : decode cX5_proof 19 = .ok (.bipush (-2), 2) := by decide +kernel
theorem dX5_proof_21 : decode cX5_proof 21 = .ok (.ireturn, 1) := by decide +kernel
theorem dX5_proof_22 : decode cX5_proof 22 = .ok (.aload_n 3, 1) := by decide +kernel
theorem dX5_proof_23 : decode cX5_proof 23 = .ok (.astore 4, 2) := by decide +kernel
theorem dX5_proof_25 : decode cX5_proof 25 = .ok (.iload_n 2, 1) := by decide +kernel
theorem dX5_proof_26 : decode cX5_proof 26 = .ok (.iconst 1, 1) := by decide +kernel
theorem dX5_proof_27 : decode cX5_proof 27 = .ok (.if_icmp .ne 31, 3) := by decide +kernel
theorem dX5_proof_30 : decode cX5_proof 30 = .ok (.aload_n 3, 1) := by decide +kernel
theorem dX5_proof_31 : decode cX5_proof 31 = .ok (.invokevirtual 86, 3) := by decide +kernel
theorem dX5_proof_34 : decode cX5_proof 34 = .ok (.astore 4, 2) := by decide +kernel
theorem dX5_proof_36 : decode cX5_proof 36 = .ok (.aload 4, 2) := by decide +kernel
theorem dX5_proof_38 : decode cX5_proof 38 = .ok (.iconst 2, 1) := by decide +kernel
theorem dX5_proof_39 : decode cX5_proof 39 = .ok (.aload_n 3, 1) := by decide +kernel
theorem dX5_proof_40 : decode cX5_proof 40 = .ok (.getfield 60, 3) := by decide +kernel
theorem dX5_proof_43 : decode cX5_proof 43 = .ok (.imul, 1) := by decide +kernel
theorem dX5_proof_44 : decode cX5_proof 44 = .ok (.iconst 2, 1) := by decide +kernel
theorem dX5_proof_45 : decode cX5_proof 45 = .ok (.iadd, 1) := by decide +kernel
theorem dX5_proof_46 : decode cX5_proof 46 = .ok (.aload_n 0, 1) := by decide +kernel
theorem dX5_proof_47 : decode cX5_proof 47 = .ok (.getfield 31, 3) := by decide +kernel
theorem dX5_proof_50 : decode cX5_proof 50 = .ok (.aload_n 3, 1) := by decide +kernel
theorem dX5_proof_51 : decode cX5_proof 51 = .ok (.invokevirtual 141, 3) := by decide +kernel
theorem dX5_proof_54 : decode cX5_proof 54 = .ok (.isub, 1) := by decide +kernel
theorem dX5_proof_55 : decode cX5_proof 55 = .ok (.putfield 151, 3) := by decide +kernel
theorem dX5_proof_58 : decode cX5_proof 58 = .ok (.aload_n 0, 1) := by decide +kernel
theorem dX5_proof_59 : decode cX5_proof 59 = .ok (.getfield 31, 3) := by decide +kernel
theorem dX5_proof_62 : decode cX5_proof 62 = .ok (.aload 4, 2) := by decide +kernel
theorem dX5_proof_64 : decode cX5_proof 64 = .ok (.invokevirtual 154, 3) := by decide +kernel
theorem dX5_proof_67 : decode cX5_proof 67 = .ok (.aload_n 0, 1) := by decide +kernel
theorem dX5_proof_68 : decode cX5_proof 68 = .ok (.getfield 31, 3) := by decide +kernel
theorem dX5_proof_71 : decode cX5_proof 71 = .ok (.aload 4, 2) := by decide +kernel
theorem dX5_proof_73 : decode cX5_proof 73 = .ok (.invokevirtual 158, 3) := by decide +kernel
theorem dX5_proof_76 : decode cX5_proof 76 = .ok (.ireturn, 1) := by decide +kernel
set_option maxRecDepth 20000 in
theorem ggX5_supersingular_X5_at : GoodIn wsX5_supersingular wsX5_at := goodIn_r _ [7, 8, 9, 51, 52, 53, 54] (by decide +kernel) (by decide +kernel)
set_option maxRecDepth 20000 in
theorem gX5_supersingular_X5_at : GoodIn wsX5_supersingular (wsV RX5 56 RX5 yX5_at wsX5_at) := goodIn_app (goodIn_of _ (by decide +kernel)) ggX5_supersingular_X5_at
set_option maxRecDepth 20000 in
theorem ggX5_supersingular_X3_sizeOf : GoodIn wsX5_supersingular wsX3_sizeOf := goodIn_r _ [14, 15, 16, 17, 18, 19, 20, 21, 13, 22, 23, 24, 25, 26, 27, 28, 29, 30, 31, 32, 33, 34, 35, 36, 37, 38, 39, 40, 41, 42, 43, 44, 45, 46, 47, 48, 49, 50, 55, 56, 57, 58, 59] (by decide +kernel) (by decide +kernel)
set_option maxRecDepth 20000 in
theorem gX5_supersingular_X3_sizeOf : GoodIn wsX5_supersingular (wsV RX5 141 RX3 yX3_sizeOf wsX3_sizeOf) := goodIn_app (goodIn_of _ (by decide +kernel)) ggX5_supersingular_X3_sizeOf
theorem dX5_supersingular_0 : decode cX5_supersingular 0 = .ok (.aload_n 0, 1) := by decide +kernel
theorem dX5_supersingular_1 : decode cX5_supersingular 1 = .ok (.iload_n 1, 1) := by decide +kernel
theorem dX5_supersingular_2 : decode cX5_supersingular 2 = .ok (.invokevirtual 56, 3) := by decide +kernel
theorem dX5_supersingular_5 : decode cX5_supersingular 5 = .ok (.astore_n 2, 1) := by decide +kernel
theorem dX5_supersingular_6 : decode cX5_supersingular 6 = .ok (.aload_n 2, 1) := by decide +kernel
theorem dX5_supersingular_7 : decode cX5_supersingular 7 = .ok (.ifnonnull 6, 3) := by decide +kernel
theorem dX5_supersingular_10 : decode cX5_supersingular 10 = .ok (.bipush (-2), 2) := by decide +kernel
theorem dX5_supersingular_12 : decode cX5_supersingular 12 = .ok (.ireturn, 1) := by decide +kernel
theorem dX5_supersingular_13 : decode cX5_supersingular 13 = .ok (.aload_n 2, 1) := by decide +kernel
theorem dX5_supersingular_14 : decode cX5_supersingular 14 = .ok (.getfield 60, 3) := by decide +kernel
theorem dX5_supersingular_17 : decode cX5_supersingular 17 = .ok (.iconst 1, 1) := by decide +kernel
theorem dX5_supersingular_18 : decode cX5_supersingular 18 = .ok (.iadd, 1) := by decide +kernel
theorem dX5_supersingular_19 : decode cX5_supersingular 19 = .ok (.aload_n 0, 1) := by decide +kernel
theorem dX5_supersingular_20 : decode cX5_supersingular 20 = .ok (.getfield 31, 3) := by decide +kernel
theorem dX5_supersingular_23 : decode cX5_supersingular 23 = .ok (.aload_n 2, 1) := by decide +kernel
theorem dX5_supersingular_24 : decode cX5_supersingular 24 = .ok (.invokevirtual 141, 3) := by decide +kernel
theorem dX5_supersingular_27 : decode cX5_supersingular 27 = .ok (.isub, 1) := by decide +kernel
theorem dX5_supersingular_28 : decode cX5_supersingular 28 = .ok (.aload_n 2, 1) := by decide +kernel
theorem dX5_supersingular_29 : decode cX5_supersingular 29 = .ok (.getfield 60, 3) := by decide +kernel
theorem dX5_supersingular_32 : decode cX5_supersingular 32 = .ok (.irem, 1) := by decide +kernel
theorem dX5_supersingular_33 : decode cX5_supersingular 33 = .ok (.ifCond .ne 7, 3) := by decide +kernel
theorem dX5_supersingular_36 : decode cX5_supersingular 36 = .ok (.iconst 1, 1) := by decide +kernel
theorem dX5_supersingular_37 : decode cX5_supersingular 37 = .ok (.goto 4, 3) := by decide +kernel
theorem dX5_supersingular_40 : decode cX5_supersingular 40 = .ok (.iconst 0, 1) := by decide +kernel
theorem dX5_supersingular_41 : decode cX5_supersingular 41 = .ok (.ireturn, 1) := by decide +kernel
set_option maxRecDepth 20000 in
theorem ggX5_order_X5_at : GoodIn wsX5_order wsX5_at := goodIn_r _ [6, 7, 8, 82, 83, 84, 85] (by decide +kernel) (by decide +kernel)
set_option maxRecDepth 20000 in
theorem gX5_order_X5_at : GoodIn wsX5_order (wsV RX5 56 RX5 yX5_at wsX5_at) := goodIn_app (goodIn_of _ (by decide +kernel)) ggX5_order_X5_at
set_option maxRecDepth 20000 in
theorem ggX5_order_X0_holds : GoodIn wsX5_order wsX0_holds := goodIn_r _ [13, 14, 15, 5, 16, 17, 18, 19, 20, 21, 22, 23, 24, 25, 12, 26, 27, 28, 86, 87, 88, 89, 90, 91, 92, 93, 94, 95, 96, 97] (by decide +kernel) (by decide +kernel)
set_option maxRecDepth 20000 in
theorem gX5_order_X0_holds : GoodIn wsX5_order (wsV RX5 93 RX0 yX0_holds wsX0_holds) := goodIn_app (goodIn_of _ (by decide +kernel)) ggX5_order_X0_holds
set_option maxRecDepth 20000 in
theorem ggX5_order_X3_sizeOf : GoodIn wsX5_order wsX3_sizeOf := goodIn_r _ [33, 34, 35, 36, 37, 38, 39, 40, 32, 41, 42, 43, 44, 45, 46, 47, 48, 49, 50, 51, 52, 53, 54, 55, 56, 57, 86, 87, 88, 89, 90, 91, 92, 93, 94, 95, 96, 97, 98, 99, 100, 101, 102] (by decide +kernel) (by decide +kernel)
set_option maxRecDepth 20000 in
theorem gX5_order_X3_sizeOf : GoodIn wsX5_order (wsV RX5 141 RX3 yX3_sizeOf wsX3_sizeOf) := goodIn_app (goodIn_of _ (by decide +kernel)) ggX5_order_X3_sizeOf
set_option maxRecDepth 20000 in
theorem ggX5_order_X0_orderWithin : GoodIn wsX5_order wsX0_orderWithin := goodIn_r _ [61, 62, 63, 21, 64, 65, 66, 67, 12, 68, 69, 70, 71, 72, 14, 17, 5, 18, 15, 16, 73, 74, 75, 76, 77, 78, 27, 79, 80, 81, 86, 87, 88, 89, 90, 91, 92, 93, 94, 95, 96, 97] (by decide +kernel) (by decide +kernel)
set_option maxRecDepth 20000 in
theorem gX5_order_X0_orderWithin : GoodIn wsX5_order (wsV RX5 161 RX0 yX0_orderWithin wsX0_orderWithin) := goodIn_app (goodIn_of _ (by decide +kernel)) ggX5_order_X0_orderWithin
theorem dX5_order_0 : decode cX5_order 0 = .ok (.aload_n 0, 1) := by decide +kernel
theorem dX5_order_1 : decode cX5_order 1 = .ok (.iload_n 1, 1) := by decide +kernel
theorem dX5_order_2 : decode cX5_order 2 = .ok (.invokevirtual 56, 3) := by decide +kernel
theorem dX5_order_5 : decode cX5_order 5 = .ok (.astore_n 3, 1) := by decide +kernel
theorem dX5_order_6 : decode cX5_order 6 = .ok (.aload_n 3, 1) := by decide +kernel
theorem dX5_order_7 : decode cX5_order 7 = .ok (.ifnull 11, 3) := by decide +kernel
theorem dX5_order_10 : decode cX5_order 10 = .ok (.aload_n 3, 1) := by decide +kernel
theorem dX5_order_11 : decode cX5_order 11 = .ok (.iload_n 2, 1) := by decide +kernel
theorem dX5_order_12 : decode cX5_order 12 = .ok (.invokevirtual 93, 3) := by decide +kernel
theorem dX5_order_15 : decode cX5_order 15 = .ok (.ifCond .ne 6, 3) := by decide +kernel
theorem dX5_order_18 : decode cX5_order 18 = .ok (.bipush (-2), 2) := by decide +kernel
theorem dX5_order_20 : decode cX5_order 20 = .ok (.ireturn, 1) := by decide +kernel
theorem dX5_order_21 : decode cX5_order 21 = .ok (.aload_n 3, 1) := by decide +kernel
theorem dX5_order_22 : decode cX5_order 22 = .ok (.iload_n 2, 1) := by decide +kernel
theorem dX5_order_23 : decode cX5_order 23 = .ok (.aload_n 0, 1) := by decide +kernel
theorem dX5_order_24 : decode cX5_order 24 = .ok (.getfield 31, 3) := by decide +kernel
theorem dX5_order_27 : decode cX5_order 27 = .ok (.aload_n 3, 1) := by decide +kernel
theorem dX5_order_28 : decode cX5_order 28 = .ok (.invokevirtual 141, 3) := by decide +kernel
theorem dX5_order_31 : decode cX5_order 31 = .ok (.invokevirtual 161, 3) := by decide +kernel
theorem dX5_order_34 : decode cX5_order 34 = .ok (.ireturn, 1) := by decide +kernel
set_option maxRecDepth 20000 in
theorem ggX5_ofOrder_X5_at : GoodIn wsX5_ofOrder wsX5_at := goodIn_r _ [6, 7, 8, 146, 147, 148, 149] (by decide +kernel) (by decide +kernel)
set_option maxRecDepth 20000 in
theorem gX5_ofOrder_X5_at : GoodIn wsX5_ofOrder (wsV RX5 56 RX5 yX5_at wsX5_at) := goodIn_app (goodIn_of _ (by decide +kernel)) ggX5_ofOrder_X5_at
set_option maxRecDepth 20000 in
theorem ggX5_ofOrder_X3_settle : GoodIn wsX5_ofOrder wsX3_settle := goodIn_r _ [13, 14, 15, 16, 17, 18, 19, 20, 12, 21, 22, 23, 24, 25, 26, 27, 28, 29, 30, 31, 32, 33, 34, 35, 36, 37, 38, 39, 40, 41, 42, 43, 44, 45, 46, 47, 48, 49, 50, 51, 52, 53, 54, 55, 56, 57, 58, 59, 60, 61, 62, 63, 64, 65, 66, 67, 68, 69, 70, 71, 72, 73, 74, 75, 5, 76, 77, 78, 79, 80, 81, 82, 83, 84, 85, 86, 87, 88, 89, 90, 91, 92, 93, 94, 95, 96, 97, 98, 99, 100, 101, 102, 103, 104, 105, 106, 107, 108, 109, 110, 111, 112, 113, 114, 115, 116, 117, 118, 119, 120, 121, 122, 123, 124, 125, 126, 127, 128, 129, 130, 131, 150, 151, 152, 153, 154, 155, 156, 157, 158, 159, 160, 161, 162, 163, 164, 165, 166, 167, 168, 169, 170, 171, 172] (by decide +kernel) (by decide +kernel)
set_option maxRecDepth 20000 in
theorem gX5_ofOrder_X3_settle : GoodIn wsX5_ofOrder (wsV RX5 154 RX3 yX3_settle wsX3_settle) := goodIn_app (goodIn_of _ (by decide +kernel)) ggX5_ofOrder_X3_settle
set_option maxRecDepth 20000 in
theorem ggX5_ofOrder_X0_manyOfOrder : GoodIn wsX5_ofOrder wsX0_manyOfOrder := goodIn_r _ [135, 136, 114, 45, 46, 47, 137, 49, 50, 138, 139, 140, 80, 141, 142, 143, 144, 145, 150, 151, 152, 153, 154, 155, 156, 157, 158, 159, 160, 161] (by decide +kernel) (by decide +kernel)
set_option maxRecDepth 20000 in
theorem gX5_ofOrder_X0_manyOfOrder : GoodIn wsX5_ofOrder (wsV RX5 164 RX0 yX0_manyOfOrder wsX0_manyOfOrder) := goodIn_app (goodIn_of _ (by decide +kernel)) ggX5_ofOrder_X0_manyOfOrder
theorem dX5_ofOrder_0 : decode cX5_ofOrder 0 = .ok (.aload_n 0, 1) := by decide +kernel
theorem dX5_ofOrder_1 : decode cX5_ofOrder 1 = .ok (.iload_n 1, 1) := by decide +kernel
theorem dX5_ofOrder_2 : decode cX5_ofOrder 2 = .ok (.invokevirtual 56, 3) := by decide +kernel
theorem dX5_ofOrder_5 : decode cX5_ofOrder 5 = .ok (.astore_n 3, 1) := by decide +kernel
theorem dX5_ofOrder_6 : decode cX5_ofOrder 6 = .ok (.aload_n 3, 1) := by decide +kernel
theorem dX5_ofOrder_7 : decode cX5_ofOrder 7 = .ok (.ifnull 8, 3) := by decide +kernel
theorem dX5_ofOrder_10 : decode cX5_ofOrder 10 = .ok (.iload_n 2, 1) := by decide +kernel
theorem dX5_ofOrder_11 : decode cX5_ofOrder 11 = .ok (.iconst 1, 1) := by decide +kernel
theorem dX5_ofOrder_12 : decode cX5_ofOrder 12 = .ok (.if_icmp .ge 6, 3) := by decide +kernel
theorem dX5_ofOrder_15 : decode cX5_ofOrder 15 = .ok (.bipush (-2), 2) := by decide +kernel
theorem dX5_ofOrder_17 : decode cX5_ofOrder 17 = .ok (.ireturn, 1) := by decide +kernel
theorem dX5_ofOrder_18 : decode cX5_ofOrder 18 = .ok (.aload_n 0, 1) := by decide +kernel
theorem dX5_ofOrder_19 : decode cX5_ofOrder 19 = .ok (.getfield 31, 3) := by decide +kernel
theorem dX5_ofOrder_22 : decode cX5_ofOrder 22 = .ok (.aload_n 3, 1) := by decide +kernel
theorem dX5_ofOrder_23 : decode cX5_ofOrder 23 = .ok (.invokevirtual 154, 3) := by decide +kernel
theorem dX5_ofOrder_26 : decode cX5_ofOrder 26 = .ok (.aload_n 3, 1) := by decide +kernel
theorem dX5_ofOrder_27 : decode cX5_ofOrder 27 = .ok (.iload_n 2, 1) := by decide +kernel
theorem dX5_ofOrder_28 : decode cX5_ofOrder 28 = .ok (.invokevirtual 164, 3) := by decide +kernel
theorem dX5_ofOrder_31 : decode cX5_ofOrder 31 = .ok (.ireturn, 1) := by decide +kernel
set_option maxRecDepth 20000 in
theorem ggX5_torsion_X5_at : GoodIn wsX5_torsion wsX5_at := goodIn_r _ [6, 7, 8, 141, 142, 143, 144] (by decide +kernel) (by decide +kernel)
set_option maxRecDepth 20000 in
theorem gX5_torsion_X5_at : GoodIn wsX5_torsion (wsV RX5 56 RX5 yX5_at wsX5_at) := goodIn_app (goodIn_of _ (by decide +kernel)) ggX5_torsion_X5_at
set_option maxRecDepth 20000 in
theorem ggX5_torsion_X3_settle : GoodIn wsX5_torsion wsX3_settle := goodIn_r _ [13, 14, 15, 16, 17, 18, 19, 20, 12, 21, 22, 23, 24, 25, 26, 27, 28, 29, 30, 31, 32, 33, 34, 35, 36, 37, 38, 39, 40, 41, 42, 43, 44, 45, 46, 47, 48, 49, 50, 51, 52, 53, 54, 55, 56, 57, 58, 59, 60, 61, 62, 63, 64, 65, 66, 67, 68, 69, 70, 71, 72, 73, 74, 75, 5, 76, 77, 78, 79, 80, 81, 82, 83, 84, 85, 86, 87, 88, 89, 90, 91, 92, 93, 94, 95, 96, 97, 98, 99, 100, 101, 102, 103, 104, 105, 106, 107, 108, 109, 110, 111, 112, 113, 114, 115, 116, 117, 118, 119, 120, 121, 122, 123, 124, 125, 126, 127, 128, 129, 130, 131, 145, 146, 147, 148, 149, 150, 151, 152, 153, 154, 155, 156, 157, 158, 159, 160, 161, 162, 163, 164, 165, 166, 167] (by decide +kernel) (by decide +kernel)
set_option maxRecDepth 20000 in
theorem gX5_torsion_X3_settle : GoodIn wsX5_torsion (wsV RX5 154 RX3 yX3_settle wsX3_settle) := goodIn_app (goodIn_of _ (by decide +kernel)) ggX5_torsion_X3_settle
set_option maxRecDepth 20000 in
theorem ggX5_torsion_X0_manyKilledBy : GoodIn wsX5_torsion wsX0_manyKilledBy := goodIn_r _ [135, 136, 137, 138, 139, 46, 140, 145, 146, 147, 148, 149, 150, 151, 152, 153, 154, 155, 156] (by decide +kernel) (by decide +kernel)
set_option maxRecDepth 20000 in
theorem gX5_torsion_X0_manyKilledBy : GoodIn wsX5_torsion (wsV RX5 167 RX0 yX0_manyKilledBy wsX0_manyKilledBy) := goodIn_app (goodIn_of _ (by decide +kernel)) ggX5_torsion_X0_manyKilledBy
theorem dX5_torsion_0 : decode cX5_torsion 0 = .ok (.aload_n 0, 1) := by decide +kernel
theorem dX5_torsion_1 : decode cX5_torsion 1 = .ok (.iload_n 1, 1) := by decide +kernel
theorem dX5_torsion_2 : decode cX5_torsion 2 = .ok (.invokevirtual 56, 3) := by decide +kernel
theorem dX5_torsion_5 : decode cX5_torsion 5 = .ok (.astore_n 3, 1) := by decide +kernel
theorem dX5_torsion_6 : decode cX5_torsion 6 = .ok (.aload_n 3, 1) := by decide +kernel
theorem dX5_torsion_7 : decode cX5_torsion 7 = .ok (.ifnull 8, 3) := by decide +kernel
theorem dX5_torsion_10 : decode cX5_torsion 10 = .ok (.iload_n 2, 1) := by decide +kernel
theorem dX5_torsion_11 : decode cX5_torsion 11 = .ok (.iconst 1, 1) := by decide +kernel
theorem dX5_torsion_12 : decode cX5_torsion 12 = .ok (.if_icmp .ge 6, 3) := by decide +kernel
theorem dX5_torsion_15 : decode cX5_torsion 15 = .ok (.bipush (-2), 2) := by decide +kernel
theorem dX5_torsion_17 : decode cX5_torsion 17 = .ok (.ireturn, 1) := by decide +kernel
theorem dX5_torsion_18 : decode cX5_torsion 18 = .ok (.aload_n 0, 1) := by decide +kernel
theorem dX5_torsion_19 : decode cX5_torsion 19 = .ok (.getfield 31, 3) := by decide +kernel
theorem dX5_torsion_22 : decode cX5_torsion 22 = .ok (.aload_n 3, 1) := by decide +kernel
theorem dX5_torsion_23 : decode cX5_torsion 23 = .ok (.invokevirtual 154, 3) := by decide +kernel
theorem dX5_torsion_26 : decode cX5_torsion 26 = .ok (.aload_n 3, 1) := by decide +kernel
theorem dX5_torsion_27 : decode cX5_torsion 27 = .ok (.iload_n 2, 1) := by decide +kernel
theorem dX5_torsion_28 : decode cX5_torsion 28 = .ok (.invokevirtual 167, 3) := by decide +kernel
theorem dX5_torsion_31 : decode cX5_torsion 31 = .ok (.ireturn, 1) := by decide +kernel
set_option maxRecDepth 20000 in
theorem ggX5_made_X5_at : GoodIn wsX5_made wsX5_at := goodIn_r _ [10, 11, 12, 147, 148, 149, 150] (by decide +kernel) (by decide +kernel)
set_option maxRecDepth 20000 in
theorem gX5_made_X5_at : GoodIn wsX5_made (wsV RX5 56 RX5 yX5_at wsX5_at) := goodIn_app (goodIn_of _ (by decide +kernel)) ggX5_made_X5_at
set_option maxRecDepth 20000 in
theorem ggX5_made_X3_settle : GoodIn wsX5_made wsX3_settle := goodIn_r _ [17, 18, 19, 20, 21, 22, 23, 24, 16, 25, 26, 27, 28, 29, 30, 31, 32, 33, 34, 35, 36, 37, 38, 39, 40, 41, 42, 43, 44, 45, 46, 47, 48, 49, 50, 51, 52, 53, 54, 55, 56, 57, 58, 59, 60, 61, 62, 63, 64, 65, 66, 67, 68, 69, 70, 71, 72, 73, 74, 75, 76, 77, 78, 79, 9, 80, 81, 82, 83, 84, 85, 86, 87, 88, 89, 90, 91, 92, 93, 94, 95, 96, 97, 98, 99, 100, 101, 102, 103, 104, 105, 106, 107, 108, 109, 110, 111, 112, 113, 114, 115, 116, 117, 118, 119, 120, 121, 122, 123, 124, 125, 126, 127, 128, 129, 130, 131, 132, 133, 134, 135, 151, 152, 153, 154, 155, 156, 157, 158, 159, 160, 161, 162, 163, 164, 165, 166, 167, 168, 169, 170, 171, 172, 173] (by decide +kernel) (by decide +kernel)
set_option maxRecDepth 20000 in
theorem gX5_made_X3_settle : GoodIn wsX5_made (wsV RX5 154 RX3 yX3_settle wsX3_settle) := goodIn_app (goodIn_of _ (by decide +kernel)) ggX5_made_X3_settle
set_option maxRecDepth 20000 in
theorem ggX5_made_X3_findMakers : GoodIn wsX5_made wsX3_findMakers := goodIn_r _ [139, 140, 19, 141, 21, 142, 18, 99, 100, 101, 16, 102, 36, 103, 104, 105, 84, 106, 87, 86, 107, 37, 38, 39, 40, 41, 42, 43, 44, 45, 46, 47, 93, 9, 94, 114, 115, 116, 117, 118, 49, 50, 51, 119, 109, 110, 111, 112, 96, 97, 98, 88, 89, 79, 80, 113, 82, 83, 85, 90, 91, 92, 108, 143, 144, 145, 146, 59, 48, 52, 53, 54, 60, 61, 62, 63, 64, 65, 66, 67, 68, 69, 70, 71, 72, 73, 74, 75, 76, 77, 78, 81, 95, 124, 125, 126, 127, 128, 129, 130, 131, 132, 133, 134, 135, 151, 152, 153, 154, 155, 156, 157, 158, 159, 160, 161, 162, 163, 164, 165, 166, 167, 168, 169, 170, 171, 172, 173] (by decide +kernel) (by decide +kernel)
set_option maxRecDepth 20000 in
theorem gX5_made_X3_findMakers : GoodIn wsX5_made (wsV RX5 176 RX3 yX3_findMakers wsX3_findMakers) := goodIn_app (goodIn_of _ (by decide +kernel)) ggX5_made_X3_findMakers
theorem dX5_made_0 : decode cX5_made 0 = .ok (.aload_n 0, 1) := by decide +kernel
theorem dX5_made_1 : decode cX5_made 1 = .ok (.iload_n 1, 1) := by decide +kernel
theorem dX5_made_2 : decode cX5_made 2 = .ok (.invokevirtual 56, 3) := by decide +kernel
theorem dX5_made_5 : decode cX5_made 5 = .ok (.astore_n 3, 1) := by decide +kernel
theorem dX5_made_6 : decode cX5_made 6 = .ok (.aload_n 3, 1) := by decide +kernel
theorem dX5_made_7 : decode cX5_made 7 = .ok (.ifnull 12, 3) := by decide +kernel
theorem dX5_made_10 : decode cX5_made 10 = .ok (.iload_n 2, 1) := by decide +kernel
theorem dX5_made_11 : decode cX5_made 11 = .ok (.ifCond .lt 8, 3) := by decide +kernel
theorem dX5_made_14 : decode cX5_made 14 = .ok (.iload_n 2, 1) := by decide +kernel
theorem dX5_made_15 : decode cX5_made 15 = .ok (.iconst 3, 1) := by decide +kernel
theorem dX5_made_16 : decode cX5_made 16 = .ok (.if_icmp .le 6, 3) := by decide +kernel
theorem dX5_made_19 : decode cX5_made 19 = .ok (.bipush (-2), 2) := by decide +kernel
theorem dX5_made_21 : decode cX5_made 21 = .ok (.ireturn, 1) := by decide +kernel
theorem dX5_made_22 : decode cX5_made 22 = .ok (.aload_n 0, 1) := by decide +kernel
theorem dX5_made_23 : decode cX5_made 23 = .ok (.getfield 31, 3) := by decide +kernel
theorem dX5_made_26 : decode cX5_made 26 = .ok (.aload_n 3, 1) := by decide +kernel
theorem dX5_made_27 : decode cX5_made 27 = .ok (.invokevirtual 154, 3) := by decide +kernel
theorem dX5_made_30 : decode cX5_made 30 = .ok (.iload_n 2, 1) := by decide +kernel
theorem dX5_made_31 : decode cX5_made 31 = .ok (.iconst 2, 1) := by decide +kernel
theorem dX5_made_32 : decode cX5_made 32 = .ok (.if_icmp .ge 19, 3) := by decide +kernel
theorem dX5_made_35 : decode cX5_made 35 = .ok (.iload_n 2, 1) := by decide +kernel
theorem dX5_made_36 : decode cX5_made 36 = .ok (.ifCond .ne 10, 3) := by decide +kernel
theorem dX5_made_39 : decode cX5_made 39 = .ok (.aload_n 3, 1) := by decide +kernel
theorem dX5_made_40 : decode cX5_made 40 = .ok (.getfield 170, 3) := by decide +kernel
theorem dX5_made_43 : decode cX5_made 43 = .ok (.goto 7, 3) := by decide +kernel
theorem dX5_made_46 : decode cX5_made 46 = .ok (.aload_n 3, 1) := by decide +kernel
theorem dX5_made_47 : decode cX5_made 47 = .ok (.getfield 173, 3) := by decide +kernel
theorem dX5_made_50 : decode cX5_made 50 = .ok (.ireturn, 1) := by decide +kernel
theorem dX5_made_51 : decode cX5_made 51 = .ok (.aload_n 0, 1) := by decide +kernel
theorem dX5_made_52 : decode cX5_made 52 = .ok (.getfield 31, 3) := by decide +kernel
theorem dX5_made_55 : decode cX5_made 55 = .ok (.aload_n 3, 1) := by decide +kernel
theorem dX5_made_56 : decode cX5_made 56 = .ok (.invokevirtual 176, 3) := by decide +kernel
theorem dX5_made_59 : decode cX5_made 59 = .ok (.iload_n 2, 1) := by decide +kernel
theorem dX5_made_60 : decode cX5_made 60 = .ok (.iconst 2, 1) := by decide +kernel
theorem dX5_made_61 : decode cX5_made 61 = .ok (.if_icmp .ne 10, 3) := by decide +kernel
theorem dX5_made_64 : decode cX5_made 64 = .ok (.aload_n 3, 1) := by decide +kernel
theorem dX5_made_65 : decode cX5_made 65 = .ok (.getfield 179, 3) := by decide +kernel
theorem dX5_made_68 : decode cX5_made 68 = .ok (.goto 7, 3) := by decide +kernel
theorem dX5_made_71 : decode cX5_made 71 = .ok (.aload_n 3, 1) := by decide +kernel
theorem dX5_made_72 : decode cX5_made 72 = .ok (.getfield 182, 3) := by decide +kernel
theorem dX5_made_75 : decode cX5_made 75 = .ok (.ireturn, 1) := by decide +kernel
set_option maxRecDepth 20000 in
theorem ggX5_halves_X5_at : GoodIn wsX5_halves wsX5_at := goodIn_r _ [6, 7, 8, 75, 76, 77, 78] (by decide +kernel) (by decide +kernel)
set_option maxRecDepth 20000 in
theorem gX5_halves_X5_at : GoodIn wsX5_halves (wsV RX5 56 RX5 yX5_at wsX5_at) := goodIn_app (goodIn_of _ (by decide +kernel)) ggX5_halves_X5_at
set_option maxRecDepth 20000 in
theorem ggX5_halves_X0_holds : GoodIn wsX5_halves wsX0_holds := goodIn_r _ [13, 14, 15, 5, 16, 17, 18, 19, 20, 21, 22, 23, 24, 25, 12, 26, 27, 28, 79, 80, 81, 82, 83, 84, 85, 86, 87, 88, 89, 90] (by decide +kernel) (by decide +kernel)
set_option maxRecDepth 20000 in
theorem gX5_halves_X0_holds : GoodIn wsX5_halves (wsV RX5 93 RX0 yX0_holds wsX0_holds) := goodIn_app (goodIn_of _ (by decide +kernel)) ggX5_halves_X0_holds
set_option maxRecDepth 20000 in
theorem ggX5_halves_X3_findHalves : GoodIn wsX5_halves wsX3_findHalves := goodIn_r _ [33, 34, 35, 36, 37, 32, 38, 39, 40, 41, 42, 43, 44, 45, 24, 25, 12, 26, 27, 14, 28, 15, 5, 16, 46, 47, 48, 49, 50, 51, 52, 53, 54, 55, 56, 57, 58, 59, 60, 61, 62, 63, 64, 65, 66, 67, 17, 18, 68, 69, 70, 71, 72, 73, 21, 74, 79, 80, 81, 82, 83, 84, 85, 86, 87, 88, 89, 90, 91, 92, 93, 94, 95] (by decide +kernel) (by decide +kernel)
set_option maxRecDepth 20000 in
theorem gX5_halves_X3_findHalves : GoodIn wsX5_halves (wsV RX5 185 RX3 yX3_findHalves wsX3_findHalves) := goodIn_app (goodIn_of _ (by decide +kernel)) ggX5_halves_X3_findHalves
theorem dX5_halves_0 : decode cX5_halves 0 = .ok (.aload_n 0, 1) := by decide +kernel
theorem dX5_halves_1 : decode cX5_halves 1 = .ok (.iload_n 1, 1) := by decide +kernel
theorem dX5_halves_2 : decode cX5_halves 2 = .ok (.invokevirtual 56, 3) := by decide +kernel
theorem dX5_halves_5 : decode cX5_halves 5 = .ok (.astore_n 3, 1) := by decide +kernel
theorem dX5_halves_6 : decode cX5_halves 6 = .ok (.aload_n 3, 1) := by decide +kernel
theorem dX5_halves_7 : decode cX5_halves 7 = .ok (.ifnull 11, 3) := by decide +kernel
theorem dX5_halves_10 : decode cX5_halves 10 = .ok (.aload_n 3, 1) := by decide +kernel
theorem dX5_halves_11 : decode cX5_halves 11 = .ok (.iload_n 2, 1) := by decide +kernel
theorem dX5_halves_12 : decode cX5_halves 12 = .ok (.invokevirtual 93, 3) := by decide +kernel
theorem dX5_halves_15 : decode cX5_halves 15 = .ok (.ifCond .ne 8, 3) := by decide +kernel
theorem dX5_halves_18 : decode cX5_halves 18 = .ok (.bipush (-2), 2) := by decide +kernel
theorem dX5_halves_20 : decode cX5_halves 20 = .ok (.goto 12, 3) := by decide +kernel
theorem dX5_halves_23 : decode cX5_halves 23 = .ok (.aload_n 0, 1) := by decide +kernel
theorem dX5_halves_24 : decode cX5_halves 24 = .ok (.getfield 31, 3) := by decide +kernel
theorem dX5_halves_27 : decode cX5_halves 27 = .ok (.aload_n 3, 1) := by decide +kernel
theorem dX5_halves_28 : decode cX5_halves 28 = .ok (.iload_n 2, 1) := by decide +kernel
theorem dX5_halves_29 : decode cX5_halves 29 = .ok (.invokevirtual 185, 3) := by decide +kernel
theorem dX5_halves_32 : decode cX5_halves 32 = .ok (.ireturn, 1) := by decide +kernel
set_option maxRecDepth 20000 in
theorem ggX5_half_X5_at : GoodIn wsX5_half wsX5_at := goodIn_r _ [6, 7, 8, 79, 80, 81, 82] (by decide +kernel) (by decide +kernel)
set_option maxRecDepth 20000 in
theorem gX5_half_X5_at : GoodIn wsX5_half (wsV RX5 56 RX5 yX5_at wsX5_at) := goodIn_app (goodIn_of _ (by decide +kernel)) ggX5_half_X5_at
set_option maxRecDepth 20000 in
theorem ggX5_half_X0_holds : GoodIn wsX5_half wsX0_holds := goodIn_r _ [13, 14, 15, 5, 16, 17, 18, 19, 20, 21, 22, 23, 24, 25, 12, 26, 27, 28, 83, 84, 85, 86, 87, 88, 89, 90, 91, 92, 93, 94] (by decide +kernel) (by decide +kernel)
set_option maxRecDepth 20000 in
theorem gX5_half_X0_holds : GoodIn wsX5_half (wsV RX5 93 RX0 yX0_holds wsX0_holds) := goodIn_app (goodIn_of _ (by decide +kernel)) ggX5_half_X0_holds
set_option maxRecDepth 20000 in
theorem ggX5_half_X3_findHalves : GoodIn wsX5_half wsX3_findHalves := goodIn_r _ [33, 34, 35, 36, 37, 32, 38, 39, 40, 41, 42, 43, 44, 45, 24, 25, 12, 26, 27, 14, 28, 15, 5, 16, 46, 47, 48, 49, 50, 51, 52, 53, 54, 55, 56, 57, 58, 59, 60, 61, 62, 63, 64, 65, 66, 67, 17, 18, 68, 69, 70, 71, 72, 73, 21, 74, 83, 84, 85, 86, 87, 88, 89, 90, 91, 92, 93, 94, 95, 96, 97, 98, 99] (by decide +kernel) (by decide +kernel)
set_option maxRecDepth 20000 in
theorem gX5_half_X3_findHalves : GoodIn wsX5_half (wsV RX5 185 RX3 yX3_findHalves wsX3_findHalves) := goodIn_app (goodIn_of _ (by decide +kernel)) ggX5_half_X3_findHalves
set_option maxRecDepth 20000 in
theorem ggX5_half_X3_foundHalf : GoodIn wsX5_half wsX3_foundHalf := goodIn_r _ [78, 39, 95, 96, 97] (by decide +kernel) (by decide +kernel)
set_option maxRecDepth 20000 in
theorem gX5_half_X3_foundHalf : GoodIn wsX5_half (wsV RX5 188 RX3 yX3_foundHalf wsX3_foundHalf) := goodIn_app (goodIn_of _ (by decide +kernel)) ggX5_half_X3_foundHalf
theorem dX5_half_0 : decode cX5_half 0 = .ok (.aload_n 0, 1) := by decide +kernel
theorem dX5_half_1 : decode cX5_half 1 = .ok (.iload_n 1, 1) := by decide +kernel
theorem dX5_half_2 : decode cX5_half 2 = .ok (.invokevirtual 56, 3) := by decide +kernel
theorem dX5_half_5 : decode cX5_half 5 = .ok (.astore 4, 2) := by decide +kernel
theorem dX5_half_7 : decode cX5_half 7 = .ok (.aload 4, 2) := by decide +kernel
theorem dX5_half_9 : decode cX5_half 9 = .ok (.ifnull 12, 3) := by decide +kernel
theorem dX5_half_12 : decode cX5_half 12 = .ok (.aload 4, 2) := by decide +kernel
theorem dX5_half_14 : decode cX5_half 14 = .ok (.iload_n 2, 1) := by decide +kernel
theorem dX5_half_15 : decode cX5_half 15 = .ok (.invokevirtual 93, 3) := by decide +kernel
theorem dX5_half_18 : decode cX5_half 18 = .ok (.ifCond .ne 6, 3) := by decide +kernel
theorem dX5_half_21 : decode cX5_half 21 = .ok (.bipush (-2), 2) := by decide +kernel
theorem dX5_half_23 : decode cX5_half 23 = .ok (.ireturn, 1) := by decide +kernel
theorem dX5_half_24 : decode cX5_half 24 = .ok (.iload_n 3, 1) := by decide +kernel
theorem dX5_half_25 : decode cX5_half 25 = .ok (.ifCond .lt 28, 3) := by decide +kernel
theorem dX5_half_28 : decode cX5_half 28 = .ok (.iload_n 3, 1) := by decide +kernel
theorem dX5_half_29 : decode cX5_half 29 = .ok (.aload_n 0, 1) := by decide +kernel
theorem dX5_half_30 : decode cX5_half 30 = .ok (.getfield 31, 3) := by decide +kernel
theorem dX5_half_33 : decode cX5_half 33 = .ok (.aload 4, 2) := by decide +kernel
theorem dX5_half_35 : decode cX5_half 35 = .ok (.iload_n 2, 1) := by decide +kernel
theorem dX5_half_36 : decode cX5_half 36 = .ok (.invokevirtual 185, 3) := by decide +kernel
theorem dX5_half_39 : decode cX5_half 39 = .ok (.if_icmp .ge 14, 3) := by decide +kernel
theorem dX5_half_42 : decode cX5_half 42 = .ok (.aload_n 0, 1) := by decide +kernel
theorem dX5_half_43 : decode cX5_half 43 = .ok (.getfield 31, 3) := by decide +kernel
theorem dX5_half_46 : decode cX5_half 46 = .ok (.iload_n 3, 1) := by decide +kernel
theorem dX5_half_47 : decode cX5_half 47 = .ok (.invokevirtual 188, 3) := by decide +kernel
theorem dX5_half_50 : decode cX5_half 50 = .ok (.goto 4, 3) := by decide +kernel
theorem dX5_half_53 : decode cX5_half 53 = .ok (.iconst (-1), 1) := by decide +kernel
theorem dX5_half_54 : decode cX5_half 54 = .ok (.ireturn, 1) := by decide +kernel
set_option maxRecDepth 20000 in
theorem ggX5_log_X5_at : GoodIn wsX5_log wsX5_at := goodIn_r _ [6, 7, 8, 120, 121, 122, 123] (by decide +kernel) (by decide +kernel)
set_option maxRecDepth 20000 in
theorem gX5_log_X5_at : GoodIn wsX5_log (wsV RX5 56 RX5 yX5_at wsX5_at) := goodIn_app (goodIn_of _ (by decide +kernel)) ggX5_log_X5_at
set_option maxRecDepth 20000 in
theorem ggX5_log_X0_holds : GoodIn wsX5_log wsX0_holds := goodIn_r _ [13, 14, 15, 5, 16, 17, 18, 19, 20, 21, 22, 23, 24, 25, 12, 26, 27, 28, 124, 125, 126, 127, 128, 129, 130, 131, 132, 133, 134, 135] (by decide +kernel) (by decide +kernel)
set_option maxRecDepth 20000 in
theorem gX5_log_X0_holds : GoodIn wsX5_log (wsV RX5 93 RX0 yX0_holds wsX0_holds) := goodIn_app (goodIn_of _ (by decide +kernel)) ggX5_log_X0_holds
set_option maxRecDepth 20000 in
theorem ggX5_log_X3_logarithm : GoodIn wsX5_log wsX3_logarithm := goodIn_r _ [33, 34, 35, 36, 37, 32, 38, 39, 40, 41, 42, 43, 44, 45, 46, 47, 48, 49, 50, 51, 52, 53, 54, 55, 56, 57, 58, 59, 60, 61, 62, 63, 64, 65, 12, 66, 67, 68, 21, 69, 70, 71, 72, 73, 74, 75, 76, 77, 14, 17, 5, 18, 15, 16, 78, 79, 80, 81, 82, 83, 27, 84, 85, 86, 87, 88, 89, 90, 91, 92, 93, 94, 95, 96, 97, 98, 99, 100, 101, 102, 103, 104, 105, 106, 107, 108, 109, 110, 111, 112, 113, 114, 115, 116, 117, 118, 119, 136, 137, 138, 124, 125, 126, 127, 128, 129, 130, 131, 132, 133, 134, 135, 139, 140, 141, 142, 143, 144, 145, 146] (by decide +kernel) (by decide +kernel)
set_option maxRecDepth 20000 in
theorem gX5_log_X3_logarithm : GoodIn wsX5_log (wsV RX5 191 RX3 yX3_logarithm wsX3_logarithm) := goodIn_app (goodIn_of _ (by decide +kernel)) ggX5_log_X3_logarithm
theorem dX5_log_0 : decode cX5_log 0 = .ok (.aload_n 0, 1) := by decide +kernel
theorem dX5_log_1 : decode cX5_log 1 = .ok (.iload_n 1, 1) := by decide +kernel
theorem dX5_log_2 : decode cX5_log 2 = .ok (.invokevirtual 56, 3) := by decide +kernel
theorem dX5_log_5 : decode cX5_log 5 = .ok (.astore 4, 2) := by decide +kernel
theorem dX5_log_7 : decode cX5_log 7 = .ok (.aload 4, 2) := by decide +kernel
theorem dX5_log_9 : decode cX5_log 9 = .ok (.ifnull 21, 3) := by decide +kernel
theorem dX5_log_12 : decode cX5_log 12 = .ok (.aload 4, 2) := by decide +kernel
theorem dX5_log_14 : decode cX5_log 14 = .ok (.iload_n 2, 1) := by decide +kernel
theorem dX5_log_15 : decode cX5_log 15 = .ok (.invokevirtual 93, 3) := by decide +kernel
theorem dX5_log_18 : decode cX5_log 18 = .ok (.ifCond .eq 12, 3) := by decide +kernel
theorem dX5_log_21 : decode cX5_log 21 = .ok (.aload 4, 2) := by decide +kernel
theorem dX5_log_23 : decode cX5_log 23 = .ok (.iload_n 3, 1) := by decide +kernel
theorem dX5_log_24 : decode cX5_log 24 = .ok (.invokevirtual 93, 3) := by decide +kernel
theorem dX5_log_27 : decode cX5_log 27 = .ok (.ifCond .ne 6, 3) := by decide +kernel
theorem dX5_log_30 : decode cX5_log 30 = .ok (.bipush (-2), 2) := by decide +kernel
theorem dX5_log_32 : decode cX5_log 32 = .ok (.ireturn, 1) := by decide +kernel
theorem dX5_log_33 : decode cX5_log 33 = .ok (.aload_n 0, 1) := by decide +kernel
theorem dX5_log_34 : decode cX5_log 34 = .ok (.getfield 31, 3) := by decide +kernel
theorem dX5_log_37 : decode cX5_log 37 = .ok (.aload 4, 2) := by decide +kernel
theorem dX5_log_39 : decode cX5_log 39 = .ok (.iload_n 2, 1) := by decide +kernel
theorem dX5_log_40 : decode cX5_log 40 = .ok (.iload_n 3, 1) := by decide +kernel
theorem dX5_log_41 : decode cX5_log 41 = .ok (.invokevirtual 191, 3) := by decide +kernel
theorem dX5_log_44 : decode cX5_log 44 = .ok (.ireturn, 1) := by decide +kernel
set_option maxRecDepth 20000 in
theorem ggX5_embedding_X5_at : GoodIn wsX5_embedding wsX5_at := goodIn_r _ [6, 7, 8, 28, 29, 30, 31] (by decide +kernel) (by decide +kernel)
set_option maxRecDepth 20000 in
theorem gX5_embedding_X5_at : GoodIn wsX5_embedding (wsV RX5 56 RX5 yX5_at wsX5_at) := goodIn_app (goodIn_of _ (by decide +kernel)) ggX5_embedding_X5_at
set_option maxRecDepth 20000 in
theorem ggX5_embedding_X4_orderModulo : GoodIn wsX5_embedding wsX4_orderModulo := goodIn_r _ [12, 13, 14, 11, 15] (by decide +kernel) (by decide +kernel)
set_option maxRecDepth 20000 in
theorem gX5_embedding_X4_orderModulo : GoodIn wsX5_embedding (va_wsS RX5 195 yX4_orderModulo wsX4_orderModulo) := goodIn_app (goodIn_of _ (by decide +kernel)) ggX5_embedding_X4_orderModulo
theorem dX5_embedding_0 : decode cX5_embedding 0 = .ok (.aload_n 0, 1) := by decide +kernel
theorem dX5_embedding_1 : decode cX5_embedding 1 = .ok (.iload_n 1, 1) := by decide +kernel
theorem dX5_embedding_2 : decode cX5_embedding 2 = .ok (.invokevirtual 56, 3) := by decide +kernel
theorem dX5_embedding_5 : decode cX5_embedding 5 = .ok (.astore_n 3, 1) := by decide +kernel
theorem dX5_embedding_6 : decode cX5_embedding 6 = .ok (.aload_n 3, 1) := by decide +kernel
theorem dX5_embedding_7 : decode cX5_embedding 7 = .ok (.ifnull 15, 3) := by decide +kernel
theorem dX5_embedding_10 : decode cX5_embedding 10 = .ok (.iload_n 2, 1) := by decide +kernel
theorem dX5_embedding_11 : decode cX5_embedding 11 = .ok (.iconst 2, 1) := by decide +kernel
theorem dX5_embedding_12 : decode cX5_embedding 12 = .ok (.if_icmp .lt 10, 3) := by decide +kernel
theorem dX5_embedding_15 : decode cX5_embedding 15 = .ok (.iload_n 2, 1) := by decide +kernel
theorem dX5_embedding_16 : decode cX5_embedding 16 = .ok (.sipush 20000, 3) := by decide +kernel
theorem dX5_embedding_19 : decode cX5_embedding 19 = .ok (.if_icmp .le 6, 3) := by decide +kernel
theorem dX5_embedding_22 : decode cX5_embedding 22 = .ok (.bipush (-2), 2) := by decide +kernel
theorem dX5_embedding_24 : decode cX5_embedding 24 = .ok (.ireturn, 1) := by decide +kernel
theorem dX5_embedding_25 : decode cX5_embedding 25 = .ok (.aload_n 3, 1) := by decide +kernel
theorem dX5_embedding_26 : decode cX5_embedding 26 = .ok (.getfield 60, 3) := by decide +kernel
theorem dX5_embedding_29 : decode cX5_embedding 29 = .ok (.iload_n 2, 1) := by decide +kernel
theorem dX5_embedding_30 : decode cX5_embedding 30 = .ok (.irem, 1) := by decide +kernel
theorem dX5_embedding_31 : decode cX5_embedding 31 = .ok (.iload_n 2, 1) := by decide +kernel
theorem dX5_embedding_32 : decode cX5_embedding 32 = .ok (.invokestatic 195, 3) := by decide +kernel
theorem dX5_embedding_35 : decode cX5_embedding 35 = .ok (.ireturn, 1) := by decide +kernel
set_option maxRecDepth 20000 in
theorem ggX5_quotient_X5_at : GoodIn wsX5_quotient wsX5_at := goodIn_r _ [5, 6, 7, 62, 63, 64, 65] (by decide +kernel) (by decide +kernel)
set_option maxRecDepth 20000 in
theorem gX5_quotient_X5_at : GoodIn wsX5_quotient (wsV RX5 56 RX5 yX5_at wsX5_at) := goodIn_app (goodIn_of _ (by decide +kernel)) ggX5_quotient_X5_at
set_option maxRecDepth 20000 in
theorem ggX5_quotient_X0_holds : GoodIn wsX5_quotient wsX0_holds := goodIn_r _ [12, 13, 14, 4, 15, 16, 17, 18, 19, 20, 21, 22, 23, 24, 11, 25, 26, 27, 66, 67, 68, 69, 70, 71, 72, 73, 74, 75, 76, 77] (by decide +kernel) (by decide +kernel)
set_option maxRecDepth 20000 in
theorem gX5_quotient_X0_holds : GoodIn wsX5_quotient (wsV RX5 93 RX0 yX0_holds wsX0_holds) := goodIn_app (goodIn_of _ (by decide +kernel)) ggX5_quotient_X0_holds
set_option maxRecDepth 20000 in
theorem ggX5_quotient_X0_dividedBy : GoodIn wsX5_quotient wsX0_dividedBy := goodIn_r _ [31, 13, 26, 27, 32, 33, 11, 34, 35, 36, 14, 4, 15, 37, 38, 39, 40, 16, 17, 41, 42, 20, 43, 44, 45, 46, 47, 48, 49, 50, 51, 52, 53, 54, 55, 56, 57, 66, 67, 68, 69, 70, 71, 72, 73, 74, 75, 76, 77] (by decide +kernel) (by decide +kernel)
set_option maxRecDepth 20000 in
theorem gX5_quotient_X0_dividedBy : GoodIn wsX5_quotient (wsV RX5 198 RX0 yX0_dividedBy wsX0_dividedBy) := goodIn_app (goodIn_of _ (by decide +kernel)) ggX5_quotient_X0_dividedBy
set_option maxRecDepth 20000 in
theorem ggX5_quotient_X5_keep : GoodIn wsX5_quotient wsX5_keep := goodIn_r _ [61, 6, 7, 62, 63, 64, 65] (by decide +kernel) (by decide +kernel)
set_option maxRecDepth 20000 in
theorem gX5_quotient_X5_keep : GoodIn wsX5_quotient (wsV RX5 52 RX5 yX5_keep wsX5_keep) := goodIn_app (goodIn_of _ (by decide +kernel)) ggX5_quotient_X5_keep
theorem dX5_quotient_0 : decode cX5_quotient 0 = .ok (.aload_n 0, 1) := by decide +kernel
theorem dX5_quotient_1 : decode cX5_quotient 1 = .ok (.iload_n 1, 1) := by decide +kernel
theorem dX5_quotient_2 : decode cX5_quotient 2 = .ok (.invokevirtual 56, 3) := by decide +kernel
theorem dX5_quotient_5 : decode cX5_quotient 5 = .ok (.astore_n 3, 1) := by decide +kernel
theorem dX5_quotient_6 : decode cX5_quotient 6 = .ok (.aload_n 3, 1) := by decide +kernel
theorem dX5_quotient_7 : decode cX5_quotient 7 = .ok (.ifnull 11, 3) := by decide +kernel
theorem dX5_quotient_10 : decode cX5_quotient 10 = .ok (.aload_n 3, 1) := by decide +kernel
theorem dX5_quotient_11 : decode cX5_quotient 11 = .ok (.iload_n 2, 1) := by decide +kernel
theorem dX5_quotient_12 : decode cX5_quotient 12 = .ok (.invokevirtual 93, 3) := by decide +kernel
theorem dX5_quotient_15 : decode cX5_quotient 15 = .ok (.ifCond .ne 6, 3) := by decide +kernel
theorem dX5_quotient_18 : decode cX5_quotient 18 = .ok (.bipush (-2), 2) := by decide +kernel
theorem dX5_quotient_20 : decode cX5_quotient 20 = .ok (.ireturn, 1) := by decide +kernel
theorem dX5_quotient_21 : decode cX5_quotient 21 = .ok (.aload_n 3, 1) := by decide +kernel
theorem dX5_quotient_22 : decode cX5_quotient 22 = .ok (.iload_n 2, 1) := by decide +kernel
theorem dX5_quotient_23 : decode cX5_quotient 23 = .ok (.iload_n 1, 1) := by decide +kernel
theorem dX5_quotient_24 : decode cX5_quotient 24 = .ok (.invokevirtual 198, 3) := by decide +kernel
theorem dX5_quotient_27 : decode cX5_quotient 27 = .ok (.astore 4, 2) := by decide +kernel
theorem dX5_quotient_29 : decode cX5_quotient 29 = .ok (.aload 4, 2) := by decide +kernel
theorem dX5_quotient_31 : decode cX5_quotient 31 = .ok (.ifnonnull 8, 3) := by decide +kernel
theorem dX5_quotient_34 : decode cX5_quotient 34 = .ok (.bipush (-3), 2) := by decide +kernel
theorem dX5_quotient_36 : decode cX5_quotient 36 = .ok (.goto 9, 3) := by decide +kernel
theorem dX5_quotient_39 : decode cX5_quotient 39 = .ok (.aload_n 0, 1) := by decide +kernel
theorem dX5_quotient_40 : decode cX5_quotient 40 = .ok (.aload 4, 2) := by decide +kernel
theorem dX5_quotient_42 : decode cX5_quotient 42 = .ok (.invokevirtual 52, 3) := by decide +kernel
theorem dX5_quotient_45 : decode cX5_quotient 45 = .ok (.ireturn, 1) := by decide +kernel
set_option maxRecDepth 20000 in
theorem ggX5_image_X5_madeByKernel : GoodIn wsX5_image wsX5_madeByKernel := goodIn_r _ [8, 3, 9, 10, 11, 7, 12, 13, 14, 52, 53, 54, 55, 56, 57, 58, 59, 60, 61, 62, 63, 64, 65, 66, 67] (by decide +kernel) (by decide +kernel)
set_option maxRecDepth 20000 in
theorem gX5_image_X5_madeByKernel : GoodIn wsX5_image (wsV RX5 202 RX5 yX5_madeByKernel wsX5_madeByKernel) := goodIn_app (goodIn_of _ (by decide +kernel)) ggX5_image_X5_madeByKernel
set_option maxRecDepth 20000 in
theorem ggX5_image_X5_at : GoodIn wsX5_image wsX5_at := goodIn_r _ [12, 13, 14, 64, 65, 66, 67] (by decide +kernel) (by decide +kernel)
set_option maxRecDepth 20000 in
theorem gX5_image_X5_at : GoodIn wsX5_image (wsV RX5 56 RX5 yX5_at wsX5_at) := goodIn_app (goodIn_of _ (by decide +kernel)) ggX5_image_X5_at
set_option maxRecDepth 20000 in
theorem ggX5_image_X0_holds : GoodIn wsX5_image wsX0_holds := goodIn_r _ [19, 20, 21, 7, 22, 23, 24, 25, 26, 27, 28, 29, 30, 31, 18, 32, 33, 34, 52, 53, 54, 55, 56, 57, 58, 59, 60, 61, 62, 63] (by decide +kernel) (by decide +kernel)
set_option maxRecDepth 20000 in
theorem gX5_image_X0_holds : GoodIn wsX5_image (wsV RX5 93 RX0 yX0_holds wsX0_holds) := goodIn_app (goodIn_of _ (by decide +kernel)) ggX5_image_X0_holds
set_option maxRecDepth 20000 in
theorem ggX5_image_X0_imageOf : GoodIn wsX5_image wsX0_imageOf := goodIn_r _ [38, 20, 21, 7, 22, 23, 24, 39, 40, 41, 18, 42, 33, 43, 44, 27, 45, 46, 47, 48, 49, 50, 51, 52, 53, 54, 55, 56, 57, 58, 59, 60, 61, 62, 63] (by decide +kernel) (by decide +kernel)
set_option maxRecDepth 20000 in
theorem gX5_image_X0_imageOf : GoodIn wsX5_image (wsV RX5 214 RX0 yX0_imageOf wsX0_imageOf) := goodIn_app (goodIn_of _ (by decide +kernel)) ggX5_image_X0_imageOf
theorem dX5_image_0 : decode cX5_image 0 = .ok (.aload_n 0, 1) := by decide +kernel
theorem dX5_image_1 : decode cX5_image 1 = .ok (.iload_n 1, 1) := by decide +kernel
theorem dX5_image_2 : decode cX5_image 2 = .ok (.invokevirtual 202, 3) := by decide +kernel
theorem dX5_image_5 : decode cX5_image 5 = .ok (.astore_n 3, 1) := by decide +kernel
theorem dX5_image_6 : decode cX5_image 6 = .ok (.aload_n 3, 1) := by decide +kernel
theorem dX5_image_7 : decode cX5_image 7 = .ok (.ifnonnull 7, 3) := by decide +kernel
theorem dX5_image_10 : decode cX5_image 10 = .ok (.aconst_null, 1) := by decide +kernel
theorem dX5_image_11 : decode cX5_image 11 = .ok (.goto 11, 3) := by decide +kernel
theorem dX5_image_14 : decode cX5_image 14 = .ok (.aload_n 0, 1) := by decide +kernel
theorem dX5_image_15 : decode cX5_image 15 = .ok (.aload_n 3, 1) := by decide +kernel
theorem dX5_image_16 : decode cX5_image 16 = .ok (.getfield 205, 3) := by decide +kernel
theorem dX5_image_19 : decode cX5_image 19 = .ok (.invokevirtual 56, 3) := by decide +kernel
theorem dX5_image_22 : decode cX5_image 22 = .ok (.astore 4, 2) := by decide +kernel
theorem dX5_image_24 : decode cX5_image 24 = .ok (.aload 4, 2) := by decide +kernel
theorem dX5_image_26 : decode cX5_image 26 = .ok (.ifnull 12, 3) := by decide +kernel
theorem dX5_image_29 : decode cX5_image 29 = .ok (.aload 4, 2) := by decide +kernel
theorem dX5_image_31 : decode cX5_image 31 = .ok (.iload_n 2, 1) := by decide +kernel
theorem dX5_image_32 : decode cX5_image 32 = .ok (.invokevirtual 93, 3) := by decide +kernel
theorem dX5_image_35 : decode cX5_image 35 = .ok (.ifCond .ne 6, 3) := by decide +kernel
theorem dX5_image_38 : decode cX5_image 38 = .ok (.bipush (-2), 2) := by decide +kernel
theorem dX5_image_40 : decode cX5_image 40 = .ok (.ireturn, 1) := by decide +kernel
theorem dX5_image_41 : decode cX5_image 41 = .ok (.aload 4, 2) := by decide +kernel
theorem dX5_image_43 : decode cX5_image 43 = .ok (.iload_n 2, 1) := by decide +kernel
theorem dX5_image_44 : decode cX5_image 44 = .ok (.aload_n 3, 1) := by decide +kernel
theorem dX5_image_45 : decode cX5_image 45 = .ok (.getfield 208, 3) := by decide +kernel
theorem dX5_image_48 : decode cX5_image 48 = .ok (.aload_n 3, 1) := by decide +kernel
theorem dX5_image_49 : decode cX5_image 49 = .ok (.getfield 211, 3) := by decide +kernel
theorem dX5_image_52 : decode cX5_image 52 = .ok (.invokevirtual 214, 3) := by decide +kernel
theorem dX5_image_55 : decode cX5_image 55 = .ok (.ireturn, 1) := by decide +kernel
set_option maxRecDepth 20000 in
theorem ggX5_kernel_X5_madeByKernel : GoodIn wsX5_kernel wsX5_madeByKernel := goodIn_r _ [8, 3, 9, 10, 11, 7, 12, 13, 14, 15, 16, 17, 18, 19, 20, 21, 22, 23, 24, 25, 26, 27, 28, 29, 30] (by decide +kernel) (by decide +kernel)
set_option maxRecDepth 20000 in
theorem gX5_kernel_X5_madeByKernel : GoodIn wsX5_kernel (wsV RX5 202 RX5 yX5_madeByKernel wsX5_madeByKernel) := goodIn_app (goodIn_of _ (by decide +kernel)) ggX5_kernel_X5_madeByKernel
theorem dX5_kernel_0 : decode cX5_kernel 0 = .ok (.aload_n 0, 1) := by decide +kernel
theorem dX5_kernel_1 : decode cX5_kernel 1 = .ok (.iload_n 1, 1) := by decide +kernel
theorem dX5_kernel_2 : decode cX5_kernel 2 = .ok (.invokevirtual 202, 3) := by decide +kernel
theorem dX5_kernel_5 : decode cX5_kernel 5 = .ok (.astore_n 3, 1) := by decide +kernel
theorem dX5_kernel_6 : decode cX5_kernel 6 = .ok (.aload_n 3, 1) := by decide +kernel
theorem dX5_kernel_7 : decode cX5_kernel 7 = .ok (.ifnonnull 6, 3) := by decide +kernel
theorem dX5_kernel_10 : decode cX5_kernel 10 = .ok (.bipush (-2), 2) := by decide +kernel
theorem dX5_kernel_12 : decode cX5_kernel 12 = .ok (.ireturn, 1) := by decide +kernel
theorem dX5_kernel_13 : decode cX5_kernel 13 = .ok (.iload_n 2, 1) := by decide +kernel
theorem dX5_kernel_14 : decode cX5_kernel 14 = .ok (.tableswitch 41 0 2 #[26, 31, 36], 26) := by decide +kernel
theorem dX5_kernel_40 : decode cX5_kernel 40 = .ok (.aload_n 3, 1) := by decide +kernel
theorem dX5_kernel_41 : decode cX5_kernel 41 = .ok (.getfield 205, 3) := by decide +kernel
theorem dX5_kernel_44 : decode cX5_kernel 44 = .ok (.ireturn, 1) := by decide +kernel
theorem dX5_kernel_45 : decode cX5_kernel 45 = .ok (.aload_n 3, 1) := by decide +kernel
theorem dX5_kernel_46 : decode cX5_kernel 46 = .ok (.getfield 208, 3) := by decide +kernel
theorem dX5_kernel_49 : decode cX5_kernel 49 = .ok (.ireturn, 1) := by decide +kernel
theorem dX5_kernel_50 : decode cX5_kernel 50 = .ok (.aload_n 3, 1) := by decide +kernel
theorem dX5_kernel_51 : decode cX5_kernel 51 = .ok (.getfield 211, 3) := by decide +kernel
theorem dX5_kernel_54 : decode cX5_kernel 54 = .ok (.ireturn, 1) := by decide +kernel
theorem dX5_kernel_55 : decode cX5_kernel 55 = .ok (.bipush (-2), 2) := by decide +kernel
theorem dX5_kernel_57 : decode cX5_kernel 57 = .ok (.ireturn, 1) := by decide +kernel
set_option maxRecDepth 20000 in
theorem ggX5_sign_X5_at : GoodIn wsX5_sign wsX5_at := goodIn_r _ [5, 6, 7, 93, 94, 95, 96] (by decide +kernel) (by decide +kernel)
set_option maxRecDepth 20000 in
theorem gX5_sign_X5_at : GoodIn wsX5_sign (wsV RX5 56 RX5 yX5_at wsX5_at) := goodIn_app (goodIn_of _ (by decide +kernel)) ggX5_sign_X5_at
set_option maxRecDepth 20000 in
theorem ggX5_sign_X5_primeOrder : GoodIn wsX5_sign wsX5_primeOrder := goodIn_r _ [11, 12, 13, 14, 15, 16, 17, 18, 19, 4, 20, 21, 22, 23, 24, 25, 26, 27, 28, 29, 30, 31, 32, 33, 34, 35, 36, 37, 38, 39, 40, 41, 42, 43, 44, 45, 46, 47, 48, 49, 50, 51, 52, 53, 54, 55, 56, 57, 58, 59, 60, 61, 62, 63, 64, 65, 66, 67, 68, 69, 70, 71, 72, 73, 74, 75, 76, 77, 78, 79, 80, 81, 82, 83, 84, 85, 86, 87, 88, 89, 93, 94, 95, 96, 97, 98, 99, 100, 101, 102, 103, 104, 105, 106, 107, 108, 109, 110, 111, 112, 113] (by decide +kernel) (by decide +kernel)
set_option maxRecDepth 20000 in
theorem gX5_sign_X5_primeOrder : GoodIn wsX5_sign (wsV RX5 217 RX5 yX5_primeOrder wsX5_primeOrder) := goodIn_app (goodIn_of _ (by decide +kernel)) ggX5_sign_X5_primeOrder
set_option maxRecDepth 20000 in
theorem ggX5_sign_X0_multiple : GoodIn wsX5_sign wsX0_multiple := goodIn_r _ [72, 73, 74, 75, 16, 76, 18, 21, 4, 22, 19, 20, 77, 78, 79, 80, 81, 82, 31, 83, 84, 25, 85, 97, 98, 99, 100, 101, 102, 103, 104, 105, 106, 107, 108] (by decide +kernel) (by decide +kernel)
set_option maxRecDepth 20000 in
theorem gX5_sign_X0_multiple : GoodIn wsX5_sign (wsV RX5 137 RX0 yX0_multiple wsX0_multiple) := goodIn_app (goodIn_of _ (by decide +kernel)) ggX5_sign_X0_multiple
set_option maxRecDepth 20000 in
theorem ggX5_sign_X5_xOf : GoodIn wsX5_sign wsX5_xOf := goodIn_r _ [20] (by decide +kernel) (by decide +kernel)
set_option maxRecDepth 20000 in
theorem gX5_sign_X5_xOf : GoodIn wsX5_sign (va_wsS RX5 96 yX5_xOf wsX5_xOf) := goodIn_app (goodIn_of _ (by decide +kernel)) ggX5_sign_X5_xOf
set_option maxRecDepth 20000 in
theorem ggX5_sign_X4_inverted : GoodIn wsX5_sign wsX4_inverted := goodIn_r _ [85] (by decide +kernel) (by decide +kernel)
set_option maxRecDepth 20000 in
theorem gX5_sign_X4_inverted : GoodIn wsX5_sign (va_wsS RX5 108 yX4_inverted wsX4_inverted) := goodIn_app (goodIn_of _ (by decide +kernel)) ggX5_sign_X4_inverted
theorem dX5_sign_0 : decode cX5_sign 0 = .ok (.aload_n 0, 1) := by decide +kernel
theorem dX5_sign_1 : decode cX5_sign 1 = .ok (.iload_n 1, 1) := by decide +kernel
theorem dX5_sign_2 : decode cX5_sign 2 = .ok (.invokevirtual 56, 3) := by decide +kernel
theorem dX5_sign_5 : decode cX5_sign 5 = .ok (.astore 7, 2) := by decide +kernel
theorem dX5_sign_7 : decode cX5_sign 7 = .ok (.aload_n 0, 1) := by decide +kernel
theorem dX5_sign_8 : decode cX5_sign 8 = .ok (.aload 7, 2) := by decide +kernel
theorem dX5_sign_10 : decode cX5_sign 10 = .ok (.iload_n 2, 1) := by decide +kernel
theorem dX5_sign_11 : decode cX5_sign 11 = .ok (.invokevirtual 217, 3) := by decide +kernel
theorem dX5_sign_14 : decode cX5_sign 14 = .ok (.istore 8, 2) := by decide +kernel
theorem dX5_sign_16 : decode cX5_sign 16 = .ok (.iload 8, 2) := by decide +kernel
theorem dX5_sign_18 : decode cX5_sign 18 = .ok (.ifCond .eq 43, 3) := by decide +kernel
theorem dX5_sign_21 : decode cX5_sign 21 = .ok (.iload_n 3, 1) := by decide +kernel
theorem dX5_sign_22 : decode cX5_sign 22 = .ok (.iconst 1, 1) := by decide +kernel
theorem dX5_sign_23 : decode cX5_sign 23 = .ok (.if_icmp .lt 38, 3) := by decide +kernel
theorem dX5_sign_26 : decode cX5_sign 26 = .ok (.iload_n 3, 1) := by decide +kernel
theorem dX5_sign_27 : decode cX5_sign 27 = .ok (.iload 8, 2) := by decide +kernel
theorem dX5_sign_29 : decode cX5_sign 29 = .ok (.if_icmp .ge 32, 3) := by decide +kernel
theorem dX5_sign_32 : decode cX5_sign 32 = .ok (.iload 4, 2) := by decide +kernel
theorem dX5_sign_34 : decode cX5_sign 34 = .ok (.iconst 1, 1) := by decide +kernel
theorem dX5_sign_35 : decode cX5_sign 35 = .ok (.if_icmp .lt 26, 3) := by decide +kernel
theorem dX5_sign_38 : decode cX5_sign 38 = .ok (.iload 4, 2) := by decide +kernel
theorem dX5_sign_40 : decode cX5_sign 40 = .ok (.iload 8, 2) := by decide +kernel
theorem dX5_sign_42 : decode cX5_sign 42 = .ok (.if_icmp .ge 19, 3) := by decide +kernel
theorem dX5_sign_45 : decode cX5_sign 45 = .ok (.iload 5, 2) := by decide +kernel
theorem dX5_sign_47 : decode cX5_sign 47 = .ok (.ifCond .lt 14, 3) := by decide +kernel
theorem dX5_sign_50 : decode cX5_sign 50 = .ok (.iload 6, 2) := by decide +kernel
theorem dX5_sign_52 : decode cX5_sign 52 = .ok (.ifCond .lt 9, 3) := by decide +kernel
theorem dX5_sign_55 : decode cX5_sign 55 = .ok (.iload 6, 2) := by decide +kernel
theorem dX5_sign_57 : decode cX5_sign 57 = .ok (.iconst 1, 1) := by decide +kernel
theorem dX5_sign_58 : decode cX5_sign 58 = .ok (.if_icmp .le 6, 3) := by decide +kernel
theorem dX5_sign_61 : decode cX5_sign 61 = .ok (.bipush (-2), 2) := by decide +kernel
theorem dX5_sign_63 : decode cX5_sign 63 = .ok (.ireturn, 1) := by decide +kernel
theorem dX5_sign_64 : decode cX5_sign 64 = .ok (.aload 7, 2) := by decide +kernel
theorem dX5_sign_66 : decode cX5_sign 66 = .ok (.iload_n 2, 1) := by decide +kernel
theorem dX5_sign_67 : decode cX5_sign 67 = .ok (.iload 4, 2) := by decide +kernel
theorem dX5_sign_69 : decode cX5_sign 69 = .ok (.i2l, 1) := by decide +kernel
theorem dX5_sign_70 : decode cX5_sign 70 = .ok (.invokevirtual 137, 3) := by decide +kernel
theorem dX5_sign_73 : decode cX5_sign 73 = .ok (.istore 9, 2) := by decide +kernel
theorem dX5_sign_75 : decode cX5_sign 75 = .ok (.iload 9, 2) := by decide +kernel
theorem dX5_sign_77 : decode cX5_sign 77 = .ok (.iconst (-1), 1) := by decide +kernel
theorem dX5_sign_78 : decode cX5_sign 78 = .ok (.if_icmp .ne 7, 3) := by decide +kernel
theorem dX5_sign_81 : decode cX5_sign 81 = .ok (.iconst 0, 1) := by decide +kernel
theorem dX5_sign_82 : decode cX5_sign 82 = .ok (.goto 11, 3) := by decide +kernel
theorem dX5_sign_85 : decode cX5_sign 85 = .ok (.iload 9, 2) := by decide +kernel
theorem dX5_sign_87 : decode cX5_sign 87 = .ok (.invokestatic 96, 3) := by decide +kernel
theorem dX5_sign_90 : decode cX5_sign 90 = .ok (.iload 8, 2) := by decide +kernel
theorem dX5_sign_92 : decode cX5_sign 92 = .ok (.irem, 1) := by decide +kernel
theorem dX5_sign_93 : decode cX5_sign 93 = .ok (.istore 10, 2) := by decide +kernel
theorem dX5_sign_95 : decode cX5_sign 95 = .ok (.iload 5, 2) := by decide +kernel
theorem dX5_sign_97 : decode cX5_sign 97 = .ok (.iload 8, 2) := by decide +kernel
theorem dX5_sign_99 : decode cX5_sign 99 = .ok (.irem, 1) := by decide +kernel
theorem dX5_sign_100 : decode cX5_sign 100 = .ok (.iload 10, 2) := by decide +kernel
theorem dX5_sign_102 : decode cX5_sign 102 = .ok (.iload_n 3, 1) := by decide +kernel
theorem dX5_sign_103 : decode cX5_sign 103 = .ok (.imul, 1) := by decide +kernel
theorem dX5_sign_104 : decode cX5_sign 104 = .ok (.iadd, 1) := by decide +kernel
theorem dX5_sign_105 : decode cX5_sign 105 = .ok (.iload 8, 2) := by decide +kernel
theorem dX5_sign_107 : decode cX5_sign 107 = .ok (.irem, 1) := by decide +kernel
theorem dX5_sign_108 : decode cX5_sign 108 = .ok (.iload 4, 2) := by decide +kernel
theorem dX5_sign_110 : decode cX5_sign 110 = .ok (.iload 8, 2) := by decide +kernel
theorem dX5_sign_112 : decode cX5_sign 112 = .ok (.invokestatic 108, 3) := by decide +kernel
theorem dX5_sign_115 : decode cX5_sign 115 = .ok (.imul, 1) := by decide +kernel
theorem dX5_sign_116 : decode cX5_sign 116 = .ok (.iload 8, 2) := by decide +kernel
theorem dX5_sign_118 : decode cX5_sign 118 = .ok (.irem, 1) := by decide +kernel
theorem dX5_sign_119 : decode cX5_sign 119 = .ok (.istore 11, 2) := by decide +kernel
theorem dX5_sign_121 : decode cX5_sign 121 = .ok (.iload 10, 2) := by decide +kernel
theorem dX5_sign_123 : decode cX5_sign 123 = .ok (.ifCond .eq 8, 3) := by decide +kernel
theorem dX5_sign_126 : decode cX5_sign 126 = .ok (.iload 11, 2) := by decide +kernel
theorem dX5_sign_128 : decode cX5_sign 128 = .ok (.ifCond .ne 6, 3) := by decide +kernel
theorem dX5_sign_131 : decode cX5_sign 131 = .ok (.bipush (-3), 2) := by decide +kernel
theorem dX5_sign_133 : decode cX5_sign 133 = .ok (.ireturn, 1) := by decide +kernel
theorem dX5_sign_134 : decode cX5_sign 134 = .ok (.iload 6, 2) := by decide +kernel
theorem dX5_sign_136 : decode cX5_sign 136 = .ok (.ifCond .ne 8, 3) := by decide +kernel
theorem dX5_sign_139 : decode cX5_sign 139 = .ok (.iload 10, 2) := by decide +kernel
theorem dX5_sign_141 : decode cX5_sign 141 = .ok (.goto 5, 3) := by decide +kernel
theorem dX5_sign_144 : decode cX5_sign 144 = .ok (.iload 11, 2) := by decide +kernel
theorem dX5_sign_146 : decode cX5_sign 146 = .ok (.ireturn, 1) := by decide +kernel
set_option maxRecDepth 20000 in
theorem ggX5_good_X5_at : GoodIn wsX5_good wsX5_at := goodIn_r _ [5, 6, 7, 94, 95, 96, 97] (by decide +kernel) (by decide +kernel)
set_option maxRecDepth 20000 in
theorem gX5_good_X5_at : GoodIn wsX5_good (wsV RX5 56 RX5 yX5_at wsX5_at) := goodIn_app (goodIn_of _ (by decide +kernel)) ggX5_good_X5_at
set_option maxRecDepth 20000 in
theorem ggX5_good_X5_primeOrder : GoodIn wsX5_good wsX5_primeOrder := goodIn_r _ [11, 12, 13, 14, 15, 16, 17, 18, 19, 4, 20, 21, 22, 23, 24, 25, 26, 27, 28, 29, 30, 31, 32, 33, 34, 35, 36, 37, 38, 39, 40, 41, 42, 43, 44, 45, 46, 47, 48, 49, 50, 51, 52, 53, 54, 55, 56, 57, 58, 59, 60, 61, 62, 63, 64, 65, 66, 67, 68, 69, 70, 71, 72, 73, 74, 75, 76, 77, 78, 79, 80, 81, 82, 83, 84, 85, 86, 87, 88, 89, 94, 95, 96, 97, 98, 99, 100, 101, 102, 103, 104, 105, 106, 107, 108, 109, 110, 111, 112, 113, 114] (by decide +kernel) (by decide +kernel)
set_option maxRecDepth 20000 in
theorem gX5_good_X5_primeOrder : GoodIn wsX5_good (wsV RX5 217 RX5 yX5_primeOrder wsX5_primeOrder) := goodIn_app (goodIn_of _ (by decide +kernel)) ggX5_good_X5_primeOrder
set_option maxRecDepth 20000 in
theorem ggX5_good_X0_holds : GoodIn wsX5_good wsX0_holds := goodIn_r _ [17, 18, 19, 4, 20, 21, 22, 23, 24, 25, 26, 27, 28, 29, 16, 30, 31, 32, 98, 99, 100, 101, 102, 103, 104, 105, 106, 107, 108, 109] (by decide +kernel) (by decide +kernel)
set_option maxRecDepth 20000 in
theorem gX5_good_X0_holds : GoodIn wsX5_good (wsV RX5 93 RX0 yX0_holds wsX0_holds) := goodIn_app (goodIn_of _ (by decide +kernel)) ggX5_good_X0_holds
set_option maxRecDepth 20000 in
theorem ggX5_good_X4_inverted : GoodIn wsX5_good wsX4_inverted := goodIn_r _ [85] (by decide +kernel) (by decide +kernel)
set_option maxRecDepth 20000 in
theorem gX5_good_X4_inverted : GoodIn wsX5_good (va_wsS RX5 108 yX4_inverted wsX4_inverted) := goodIn_app (goodIn_of _ (by decide +kernel)) ggX5_good_X4_inverted
set_option maxRecDepth 20000 in
theorem ggX5_good_X0_multiple : GoodIn wsX5_good wsX0_multiple := goodIn_r _ [72, 73, 74, 75, 16, 76, 18, 21, 4, 22, 19, 20, 77, 78, 79, 80, 81, 82, 31, 83, 84, 25, 85, 98, 99, 100, 101, 102, 103, 104, 105, 106, 107, 108, 109] (by decide +kernel) (by decide +kernel)
set_option maxRecDepth 20000 in
theorem gX5_good_X0_multiple : GoodIn wsX5_good (wsV RX5 137 RX0 yX0_multiple wsX0_multiple) := goodIn_app (goodIn_of _ (by decide +kernel)) ggX5_good_X0_multiple
set_option maxRecDepth 20000 in
theorem ggX5_good_X0_sum : GoodIn wsX5_good wsX0_sum := goodIn_r _ [82, 18, 31, 19, 4, 20, 21, 22, 83, 84, 25, 85, 77, 78, 98, 99, 100, 101, 102, 103, 104, 105, 106, 107, 108, 109] (by decide +kernel) (by decide +kernel)
set_option maxRecDepth 20000 in
theorem gX5_good_X0_sum : GoodIn wsX5_good (wsV RX5 131 RX0 yX0_sum wsX0_sum) := goodIn_app (goodIn_of _ (by decide +kernel)) ggX5_good_X0_sum
set_option maxRecDepth 20000 in
theorem ggX5_good_X5_xOf : GoodIn wsX5_good wsX5_xOf := goodIn_r _ [20] (by decide +kernel) (by decide +kernel)
set_option maxRecDepth 20000 in
theorem gX5_good_X5_xOf : GoodIn wsX5_good (va_wsS RX5 96 yX5_xOf wsX5_xOf) := goodIn_app (goodIn_of _ (by decide +kernel)) ggX5_good_X5_xOf
theorem dX5_good_0 : decode cX5_good 0 = .ok (.aload_n 0, 1) := by decide +kernel
theorem dX5_good_1 : decode cX5_good 1 = .ok (.iload_n 1, 1) := by decide +kernel
theorem dX5_good_2 : decode cX5_good 2 = .ok (.invokevirtual 56, 3) := by decide +kernel
theorem dX5_good_5 : decode cX5_good 5 = .ok (.astore 7, 2) := by decide +kernel
theorem dX5_good_7 : decode cX5_good 7 = .ok (.aload_n 0, 1) := by decide +kernel
theorem dX5_good_8 : decode cX5_good 8 = .ok (.aload 7, 2) := by decide +kernel
theorem dX5_good_10 : decode cX5_good 10 = .ok (.iload_n 2, 1) := by decide +kernel
theorem dX5_good_11 : decode cX5_good 11 = .ok (.invokevirtual 217, 3) := by decide +kernel
theorem dX5_good_14 : decode cX5_good 14 = .ok (.istore 8, 2) := by decide +kernel
theorem dX5_good_16 : decode cX5_good 16 = .ok (.iload 8, 2) := by decide +kernel
theorem dX5_good_18 : decode cX5_good 18 = .ok (.ifCond .eq 17, 3) := by decide +kernel
theorem dX5_good_21 : decode cX5_good 21 = .ok (.aload 7, 2) := by decide +kernel
theorem dX5_good_23 : decode cX5_good 23 = .ok (.iload_n 3, 1) := by decide +kernel
theorem dX5_good_24 : decode cX5_good 24 = .ok (.invokevirtual 93, 3) := by decide +kernel
theorem dX5_good_27 : decode cX5_good 27 = .ok (.ifCond .eq 8, 3) := by decide +kernel
theorem dX5_good_30 : decode cX5_good 30 = .ok (.iload 4, 2) := by decide +kernel
theorem dX5_good_32 : decode cX5_good 32 = .ok (.ifCond .ge 6, 3) := by decide +kernel
theorem dX5_good_35 : decode cX5_good 35 = .ok (.bipush (-2), 2) := by decide +kernel
theorem dX5_good_37 : decode cX5_good 37 = .ok (.ireturn, 1) := by decide +kernel
theorem dX5_good_38 : decode cX5_good 38 = .ok (.iload 5, 2) := by decide +kernel
theorem dX5_good_40 : decode cX5_good 40 = .ok (.iconst 1, 1) := by decide +kernel
theorem dX5_good_41 : decode cX5_good 41 = .ok (.if_icmp .lt 23, 3) := by decide +kernel
theorem dX5_good_44 : decode cX5_good 44 = .ok (.iload 5, 2) := by decide +kernel
theorem dX5_good_46 : decode cX5_good 46 = .ok (.iload 8, 2) := by decide +kernel
theorem dX5_good_48 : decode cX5_good 48 = .ok (.if_icmp .ge 16, 3) := by decide +kernel
theorem dX5_good_51 : decode cX5_good 51 = .ok (.iload 6, 2) := by decide +kernel
theorem dX5_good_53 : decode cX5_good 53 = .ok (.iconst 1, 1) := by decide +kernel
theorem dX5_good_54 : decode cX5_good 54 = .ok (.if_icmp .lt 10, 3) := by decide +kernel
theorem dX5_good_57 : decode cX5_good 57 = .ok (.iload 6, 2) := by decide +kernel
theorem dX5_good_59 : decode cX5_good 59 = .ok (.iload 8, 2) := by decide +kernel
theorem dX5_good_61 : decode cX5_good 61 = .ok (.if_icmp .lt 5, 3) := by decide +kernel
theorem dX5_good_64 : decode cX5_good 64 = .ok (.iconst 0, 1) := by decide +kernel
theorem dX5_good_65 : decode cX5_good 65 = .ok (.ireturn, 1) := by decide +kernel
theorem dX5_good_66 : decode cX5_good 66 = .ok (.iload 6, 2) := by decide +kernel
theorem dX5_good_68 : decode cX5_good 68 = .ok (.iload 8, 2) := by decide +kernel
theorem dX5_good_70 : decode cX5_good 70 = .ok (.invokestatic 108, 3) := by decide +kernel
theorem dX5_good_73 : decode cX5_good 73 = .ok (.istore 9, 2) := by decide +kernel
theorem dX5_good_75 : decode cX5_good 75 = .ok (.aload 7, 2) := by decide +kernel
theorem dX5_good_77 : decode cX5_good 77 = .ok (.aload 7, 2) := by decide +kernel
theorem dX5_good_79 : decode cX5_good 79 = .ok (.iload_n 2, 1) := by decide +kernel
theorem dX5_good_80 : decode cX5_good 80 = .ok (.iload 4, 2) := by decide +kernel
theorem dX5_good_82 : decode cX5_good 82 = .ok (.iload 8, 2) := by decide +kernel
theorem dX5_good_84 : decode cX5_good 84 = .ok (.irem, 1) := by decide +kernel
theorem dX5_good_85 : decode cX5_good 85 = .ok (.iload 9, 2) := by decide +kernel
theorem dX5_good_87 : decode cX5_good 87 = .ok (.imul, 1) := by decide +kernel
theorem dX5_good_88 : decode cX5_good 88 = .ok (.iload 8, 2) := by decide +kernel
theorem dX5_good_90 : decode cX5_good 90 = .ok (.irem, 1) := by decide +kernel
theorem dX5_good_91 : decode cX5_good 91 = .ok (.i2l, 1) := by decide +kernel
theorem dX5_good_92 : decode cX5_good 92 = .ok (.invokevirtual 137, 3) := by decide +kernel
theorem dX5_good_95 : decode cX5_good 95 = .ok (.aload 7, 2) := by decide +kernel
theorem dX5_good_97 : decode cX5_good 97 = .ok (.iload_n 3, 1) := by decide +kernel
theorem dX5_good_98 : decode cX5_good 98 = .ok (.iload 5, 2) := by decide +kernel
theorem dX5_good_100 : decode cX5_good 100 = .ok (.iload 9, 2) := by decide +kernel
theorem dX5_good_102 : decode cX5_good 102 = .ok (.imul, 1) := by decide +kernel
theorem dX5_good_103 : decode cX5_good 103 = .ok (.iload 8, 2) := by decide +kernel
theorem dX5_good_105 : decode cX5_good 105 = .ok (.irem, 1) := by decide +kernel
theorem dX5_good_106 : decode cX5_good 106 = .ok (.i2l, 1) := by decide +kernel
theorem dX5_good_107 : decode cX5_good 107 = .ok (.invokevirtual 137, 3) := by decide +kernel
theorem dX5_good_110 : decode cX5_good 110 = .ok (.invokevirtual 131, 3) := by decide +kernel
theorem dX5_good_113 : decode cX5_good 113 = .ok (.istore 10, 2) := by decide +kernel
theorem dX5_good_115 : decode cX5_good 115 = .ok (.iload 10, 2) := by decide +kernel
theorem dX5_good_117 : decode cX5_good 117 = .ok (.iconst (-1), 1) := by decide +kernel
theorem dX5_good_118 : decode cX5_good 118 = .ok (.if_icmp .eq 20, 3) := by decide +kernel
theorem dX5_good_121 : decode cX5_good 121 = .ok (.iload 10, 2) := by decide +kernel
theorem dX5_good_123 : decode cX5_good 123 = .ok (.invokestatic 96, 3) := by decide +kernel
theorem dX5_good_126 : decode cX5_good 126 = .ok (.iload 8, 2) := by decide +kernel
theorem dX5_good_128 : decode cX5_good 128 = .ok (.irem, 1) := by decide +kernel
theorem dX5_good_129 : decode cX5_good 129 = .ok (.iload 5, 2) := by decide +kernel
theorem dX5_good_131 : decode cX5_good 131 = .ok (.if_icmp .ne 7, 3) := by decide +kernel
theorem dX5_good_134 : decode cX5_good 134 = .ok (.iconst 1, 1) := by decide +kernel
theorem dX5_good_135 : decode cX5_good 135 = .ok (.goto 4, 3) := by decide +kernel
theorem dX5_good_138 : decode cX5_good 138 = .ok (.iconst 0, 1) := by decide +kernel
theorem dX5_good_139 : decode cX5_good 139 = .ok (.ireturn, 1) := by decide +kernel
set_option maxRecDepth 20000 in
theorem ggX5_census_X4_isFieldPrime : GoodIn wsX5_census wsX4_isFieldPrime := goodIn_r _ [5, 6, 7, 4, 8, 9, 10, 11] (by decide +kernel) (by decide +kernel)
set_option maxRecDepth 20000 in
theorem gX5_census_X4_isFieldPrime : GoodIn wsX5_census (va_wsS RX5 35 yX4_isFieldPrime wsX4_isFieldPrime) := goodIn_app (goodIn_of _ (by decide +kernel)) ggX5_census_X4_isFieldPrime
set_option maxRecDepth 20000 in
theorem ggX5_census_X3_pairsWith : GoodIn wsX5_census wsX3_pairsWith := goodIn_r _ [16, 17, 18, 19, 15, 20, 21, 22, 23, 24, 25, 26, 27, 28, 29, 30, 31, 32, 33, 34, 35, 36, 37, 38, 39, 40, 41, 42, 43, 44, 49, 50, 51, 52, 53] (by decide +kernel) (by decide +kernel)
set_option maxRecDepth 20000 in
theorem gX5_census_X3_pairsWith : GoodIn wsX5_census (wsV RX5 220 RX3 yX3_pairsWith wsX3_pairsWith) := goodIn_app (goodIn_of _ (by decide +kernel)) ggX5_census_X3_pairsWith
theorem dX5_census_0 : decode cX5_census 0 = .ok (.iload_n 1, 1) := by decide +kernel
theorem dX5_census_1 : decode cX5_census 1 = .ok (.bipush 61, 2) := by decide +kernel
theorem dX5_census_3 : decode cX5_census 3 = .ok (.if_icmp .gt 10, 3) := by decide +kernel
theorem dX5_census_6 : decode cX5_census 6 = .ok (.iload_n 1, 1) := by decide +kernel
theorem dX5_census_7 : decode cX5_census 7 = .ok (.invokestatic 35, 3) := by decide +kernel
theorem dX5_census_10 : decode cX5_census 10 = .ok (.ifCond .ne 8, 3) := by decide +kernel
theorem dX5_census_13 : decode cX5_census 13 = .ok (.bipush (-2), 2) := by decide +kernel
theorem dX5_census_15 : decode cX5_census 15 = .ok (.goto 12, 3) := by decide +kernel
theorem dX5_census_18 : decode cX5_census 18 = .ok (.aload_n 0, 1) := by decide +kernel
theorem dX5_census_19 : decode cX5_census 19 = .ok (.getfield 31, 3) := by decide +kernel
theorem dX5_census_22 : decode cX5_census 22 = .ok (.iload_n 1, 1) := by decide +kernel
theorem dX5_census_23 : decode cX5_census 23 = .ok (.iload_n 2, 1) := by decide +kernel
theorem dX5_census_24 : decode cX5_census 24 = .ok (.invokevirtual 220, 3) := by decide +kernel
theorem dX5_census_27 : decode cX5_census 27 = .ok (.ireturn, 1) := by decide +kernel
set_option maxRecDepth 20000 in
theorem ggX5_kinds_X4_isFieldPrime : GoodIn wsX5_kinds wsX4_isFieldPrime := goodIn_r _ [5, 6, 7, 4, 8, 9, 10, 11] (by decide +kernel) (by decide +kernel)
set_option maxRecDepth 20000 in
theorem gX5_kinds_X4_isFieldPrime : GoodIn wsX5_kinds (va_wsS RX5 35 yX4_isFieldPrime wsX4_isFieldPrime) := goodIn_app (goodIn_of _ (by decide +kernel)) ggX5_kinds_X4_isFieldPrime
set_option maxRecDepth 20000 in
theorem ggX5_kinds_X3_kindsWith : GoodIn wsX5_kinds wsX3_kindsWith := goodIn_r _ [16, 17, 18, 19, 15, 20, 21, 22, 23, 24, 25, 26, 27, 28, 29, 30, 31, 32, 33, 34, 35, 36, 37, 38, 39, 40, 41, 42, 43, 44, 49, 50, 51, 52, 53] (by decide +kernel) (by decide +kernel)
set_option maxRecDepth 20000 in
theorem gX5_kinds_X3_kindsWith : GoodIn wsX5_kinds (wsV RX5 223 RX3 yX3_kindsWith wsX3_kindsWith) := goodIn_app (goodIn_of _ (by decide +kernel)) ggX5_kinds_X3_kindsWith
theorem dX5_kinds_0 : decode cX5_kinds 0 = .ok (.iload_n 1, 1) := by decide +kernel
theorem dX5_kinds_1 : decode cX5_kinds 1 = .ok (.bipush 61, 2) := by decide +kernel
theorem dX5_kinds_3 : decode cX5_kinds 3 = .ok (.if_icmp .gt 10, 3) := by decide +kernel
theorem dX5_kinds_6 : decode cX5_kinds 6 = .ok (.iload_n 1, 1) := by decide +kernel
theorem dX5_kinds_7 : decode cX5_kinds 7 = .ok (.invokestatic 35, 3) := by decide +kernel
theorem dX5_kinds_10 : decode cX5_kinds 10 = .ok (.ifCond .ne 8, 3) := by decide +kernel
theorem dX5_kinds_13 : decode cX5_kinds 13 = .ok (.bipush (-2), 2) := by decide +kernel
theorem dX5_kinds_15 : decode cX5_kinds 15 = .ok (.goto 12, 3) := by decide +kernel
theorem dX5_kinds_18 : decode cX5_kinds 18 = .ok (.aload_n 0, 1) := by decide +kernel
theorem dX5_kinds_19 : decode cX5_kinds 19 = .ok (.getfield 31, 3) := by decide +kernel
theorem dX5_kinds_22 : decode cX5_kinds 22 = .ok (.iload_n 1, 1) := by decide +kernel
theorem dX5_kinds_23 : decode cX5_kinds 23 = .ok (.iload_n 2, 1) := by decide +kernel
theorem dX5_kinds_24 : decode cX5_kinds 24 = .ok (.invokevirtual 223, 3) := by decide +kernel
theorem dX5_kinds_27 : decode cX5_kinds 27 = .ok (.ireturn, 1) := by decide +kernel
theorem dX5_curves_0 : decode cX5_curves 0 = .ok (.aload_n 0, 1) := by decide +kernel
theorem dX5_curves_1 : decode cX5_curves 1 = .ok (.getfield 15, 3) := by decide +kernel
theorem dX5_curves_4 : decode cX5_curves 4 = .ok (.ireturn, 1) := by decide +kernel
theorem dX5_drop_0 : decode cX5_drop 0 = .ok (.aload_n 0, 1) := by decide +kernel
theorem dX5_drop_1 : decode cX5_drop 1 = .ok (.getfield 15, 3) := by decide +kernel
theorem dX5_drop_4 : decode cX5_drop 4 = .ok (.iconst 1, 1) := by decide +kernel
theorem dX5_drop_5 : decode cX5_drop 5 = .ok (.if_icmp .ge 5, 3) := by decide +kernel
theorem dX5_drop_8 : decode cX5_drop 8 = .ok (.iconst (-1), 1) := by decide +kernel
theorem dX5_drop_9 : decode cX5_drop 9 = .ok (.ireturn, 1) := by decide +kernel
theorem dX5_drop_10 : decode cX5_drop 10 = .ok (.aload_n 0, 1) := by decide +kernel
theorem dX5_drop_11 : decode cX5_drop 11 = .ok (.dup, 1) := by decide +kernel
theorem dX5_drop_12 : decode cX5_drop 12 = .ok (.getfield 15, 3) := by decide +kernel
theorem dX5_drop_15 : decode cX5_drop 15 = .ok (.iconst 1, 1) := by decide +kernel
theorem dX5_drop_16 : decode cX5_drop 16 = .ok (.isub, 1) := by decide +kernel
theorem dX5_drop_17 : decode cX5_drop 17 = .ok (.putfield 15, 3) := by decide +kernel
theorem dX5_drop_20 : decode cX5_drop 20 = .ok (.aload_n 0, 1) := by decide +kernel
theorem dX5_drop_21 : decode cX5_drop 21 = .ok (.getfield 11, 3) := by decide +kernel
theorem dX5_drop_24 : decode cX5_drop 24 = .ok (.aload_n 0, 1) := by decide +kernel
theorem dX5_drop_25 : decode cX5_drop 25 = .ok (.getfield 15, 3) := by decide +kernel
theorem dX5_drop_28 : decode cX5_drop 28 = .ok (.aconst_null, 1) := by decide +kernel
theorem dX5_drop_29 : decode cX5_drop 29 = .ok (.aastore, 1) := by decide +kernel
theorem dX5_drop_30 : decode cX5_drop 30 = .ok (.aload_n 0, 1) := by decide +kernel
theorem dX5_drop_31 : decode cX5_drop 31 = .ok (.getfield 15, 3) := by decide +kernel
theorem dX5_drop_34 : decode cX5_drop 34 = .ok (.ireturn, 1) := by decide +kernel
theorem dX5_at_0 : decode cX5_at 0 = .ok (.iload_n 1, 1) := by decide +kernel
theorem dX5_at_1 : decode cX5_at 1 = .ok (.ifCond .lt 29, 3) := by decide +kernel
theorem dX5_at_4 : decode cX5_at 4 = .ok (.iload_n 1, 1) := by decide +kernel
theorem dX5_at_5 : decode cX5_at 5 = .ok (.aload_n 0, 1) := by decide +kernel
theorem dX5_at_6 : decode cX5_at 6 = .ok (.getfield 15, 3) := by decide +kernel
theorem dX5_at_9 : decode cX5_at 9 = .ok (.if_icmp .ge 21, 3) := by decide +kernel
theorem dX5_at_12 : decode cX5_at 12 = .ok (.iload_n 1, 1) := by decide +kernel
theorem dX5_at_13 : decode cX5_at 13 = .ok (.aload_n 0, 1) := by decide +kernel
theorem dX5_at_14 : decode cX5_at 14 = .ok (.getfield 11, 3) := by decide +kernel
theorem dX5_at_17 : decode cX5_at 17 = .ok (.arraylength, 1) := by decide +kernel
theorem dX5_at_18 : decode cX5_at 18 = .ok (.if_icmp .ge 12, 3) := by decide +kernel
theorem dX5_at_21 : decode cX5_at 21 = .ok (.aload_n 0, 1) := by decide +kernel
theorem dX5_at_22 : decode cX5_at 22 = .ok (.getfield 11, 3) := by decide +kernel
theorem dX5_at_25 : decode cX5_at 25 = .ok (.iload_n 1, 1) := by decide +kernel
theorem dX5_at_26 : decode cX5_at 26 = .ok (.aaload, 1) := by decide +kernel
theorem dX5_at_27 : decode cX5_at 27 = .ok (.goto 4, 3) := by decide +kernel
theorem dX5_at_30 : decode cX5_at 30 = .ok (.aconst_null, 1) := by decide +kernel
theorem dX5_at_31 : decode cX5_at 31 = .ok (.areturn, 1) := by decide +kernel
set_option maxRecDepth 20000 in
theorem ggX5_madeByKernel_X5_at : GoodIn wsX5_madeByKernel wsX5_at := goodIn_r _ [6, 7, 8, 21, 22, 23, 24] (by decide +kernel) (by decide +kernel)
set_option maxRecDepth 20000 in
theorem gX5_madeByKernel_X5_at : GoodIn wsX5_madeByKernel (wsV RX5 56 RX5 yX5_at wsX5_at) := goodIn_app (goodIn_of _ (by decide +kernel)) ggX5_madeByKernel_X5_at
theorem dX5_madeByKernel_0 : decode cX5_madeByKernel 0 = .ok (.aload_n 0, 1) := by decide +kernel
theorem dX5_madeByKernel_1 : decode cX5_madeByKernel 1 = .ok (.iload_n 1, 1) := by decide +kernel
theorem dX5_madeByKernel_2 : decode cX5_madeByKernel 2 = .ok (.invokevirtual 56, 3) := by decide +kernel
theorem dX5_madeByKernel_5 : decode cX5_madeByKernel 5 = .ok (.astore_n 2, 1) := by decide +kernel
theorem dX5_madeByKernel_6 : decode cX5_madeByKernel 6 = .ok (.aload_n 2, 1) := by decide +kernel
theorem dX5_madeByKernel_7 : decode cX5_madeByKernel 7 = .ok (.ifnull 10, 3) := by decide +kernel
theorem dX5_madeByKernel_10 : decode cX5_madeByKernel 10 = .ok (.aload_n 2, 1) := by decide +kernel
theorem dX5_madeByKernel_11 : decode cX5_madeByKernel 11 = .ok (.getfield 211, 3) := by decide +kernel
theorem dX5_madeByKernel_14 : decode cX5_madeByKernel 14 = .ok (.ifCond .ne 7, 3) := by decide +kernel
theorem dX5_madeByKernel_17 : decode cX5_madeByKernel 17 = .ok (.aconst_null, 1) := by decide +kernel
theorem dX5_madeByKernel_18 : decode cX5_madeByKernel 18 = .ok (.goto 4, 3) := by decide +kernel
theorem dX5_madeByKernel_21 : decode cX5_madeByKernel 21 = .ok (.aload_n 2, 1) := by decide +kernel
theorem dX5_madeByKernel_22 : decode cX5_madeByKernel 22 = .ok (.areturn, 1) := by decide +kernel
theorem dX5_keep_0 : decode cX5_keep 0 = .ok (.aload_n 0, 1) := by decide +kernel
theorem dX5_keep_1 : decode cX5_keep 1 = .ok (.getfield 15, 3) := by decide +kernel
theorem dX5_keep_4 : decode cX5_keep 4 = .ok (.aload_n 0, 1) := by decide +kernel
theorem dX5_keep_5 : decode cX5_keep 5 = .ok (.getfield 11, 3) := by decide +kernel
theorem dX5_keep_8 : decode cX5_keep 8 = .ok (.arraylength, 1) := by decide +kernel
theorem dX5_keep_9 : decode cX5_keep 9 = .ok (.if_icmp .lt 6, 3) := by decide +kernel
theorem dX5_keep_12 : decode cX5_keep 12 = .ok (.bipush (-4), 2) := by decide +kernel
theorem dX5_keep_14 : decode cX5_keep 14 = .ok (.ireturn, 1) := by decide +kernel
theorem dX5_keep_15 : decode cX5_keep 15 = .ok (.aload_n 0, 1) := by decide +kernel
theorem dX5_keep_16 : decode cX5_keep 16 = .ok (.getfield 11, 3) := by decide +kernel
theorem dX5_keep_19 : decode cX5_keep 19 = .ok (.aload_n 0, 1) := by decide +kernel
theorem dX5_keep_20 : decode cX5_keep 20 = .ok (.getfield 15, 3) := by decide +kernel
theorem dX5_keep_23 : decode cX5_keep 23 = .ok (.aload_n 1, 1) := by decide +kernel
theorem dX5_keep_24 : decode cX5_keep 24 = .ok (.aastore, 1) := by decide +kernel
theorem dX5_keep_25 : decode cX5_keep 25 = .ok (.aload_n 0, 1) := by decide +kernel
theorem dX5_keep_26 : decode cX5_keep 26 = .ok (.dup, 1) := by decide +kernel
theorem dX5_keep_27 : decode cX5_keep 27 = .ok (.getfield 15, 3) := by decide +kernel
theorem dX5_keep_30 : decode cX5_keep 30 = .ok (.iconst 1, 1) := by decide +kernel
theorem dX5_keep_31 : decode cX5_keep 31 = .ok (.iadd, 1) := by decide +kernel
theorem dX5_keep_32 : decode cX5_keep 32 = .ok (.putfield 15, 3) := by decide +kernel
theorem dX5_keep_35 : decode cX5_keep 35 = .ok (.aload_n 0, 1) := by decide +kernel
theorem dX5_keep_36 : decode cX5_keep 36 = .ok (.getfield 15, 3) := by decide +kernel
theorem dX5_keep_39 : decode cX5_keep 39 = .ok (.iconst 1, 1) := by decide +kernel
theorem dX5_keep_40 : decode cX5_keep 40 = .ok (.isub, 1) := by decide +kernel
theorem dX5_keep_41 : decode cX5_keep 41 = .ok (.ireturn, 1) := by decide +kernel
set_option maxRecDepth 20000 in
theorem ggX5_primeOrder_X0_holds : GoodIn wsX5_primeOrder wsX0_holds := goodIn_r _ [6, 7, 8, 9, 10, 11, 12, 13, 14, 15, 16, 17, 18, 19, 5, 20, 21, 22, 84, 85, 86, 87, 88, 89, 90, 91, 92, 93, 94, 95] (by decide +kernel) (by decide +kernel)
set_option maxRecDepth 20000 in
theorem gX5_primeOrder_X0_holds : GoodIn wsX5_primeOrder (wsV RX5 93 RX0 yX0_holds wsX0_holds) := goodIn_app (goodIn_of _ (by decide +kernel)) ggX5_primeOrder_X0_holds
set_option maxRecDepth 20000 in
theorem ggX5_primeOrder_X3_sizeOf : GoodIn wsX5_primeOrder wsX3_sizeOf := goodIn_r _ [27, 28, 29, 30, 31, 32, 33, 34, 26, 35, 36, 37, 38, 39, 40, 41, 42, 43, 44, 45, 46, 47, 48, 49, 50, 51, 84, 85, 86, 87, 88, 89, 90, 91, 92, 93, 94, 95, 96, 97, 98, 99, 100] (by decide +kernel) (by decide +kernel)
set_option maxRecDepth 20000 in
theorem gX5_primeOrder_X3_sizeOf : GoodIn wsX5_primeOrder (wsV RX5 141 RX3 yX3_sizeOf wsX3_sizeOf) := goodIn_app (goodIn_of _ (by decide +kernel)) ggX5_primeOrder_X3_sizeOf
set_option maxRecDepth 20000 in
theorem ggX5_primeOrder_X0_orderWithin : GoodIn wsX5_primeOrder wsX0_orderWithin := goodIn_r _ [55, 56, 57, 15, 58, 59, 60, 61, 5, 62, 63, 64, 65, 66, 7, 11, 9, 12, 8, 10, 67, 68, 69, 70, 71, 72, 21, 73, 74, 75, 84, 85, 86, 87, 88, 89, 90, 91, 92, 93, 94, 95] (by decide +kernel) (by decide +kernel)
set_option maxRecDepth 20000 in
theorem gX5_primeOrder_X0_orderWithin : GoodIn wsX5_primeOrder (wsV RX5 161 RX0 yX0_orderWithin wsX0_orderWithin) := goodIn_app (goodIn_of _ (by decide +kernel)) ggX5_primeOrder_X0_orderWithin
set_option maxRecDepth 20000 in
theorem ggX5_primeOrder_X4_isPrime : GoodIn wsX5_primeOrder wsX4_isPrime := goodIn_r _ [78, 79, 57, 15, 58] (by decide +kernel) (by decide +kernel)
set_option maxRecDepth 20000 in
theorem gX5_primeOrder_X4_isPrime : GoodIn wsX5_primeOrder (va_wsS RX5 226 yX4_isPrime wsX4_isPrime) := goodIn_app (goodIn_of _ (by decide +kernel)) ggX5_primeOrder_X4_isPrime

