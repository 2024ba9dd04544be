theorem dX0_init_0 : decode cX0_init 0 = .ok (.aload_n 0, 1) := by decide +kernel
theorem dX0_init_1 : decode cX0_init 1 = .ok (.invokespecial 3, 3) := by decide +kernel
theorem dX0_init_4 : decode cX0_init 4 = .ok (.aload_n 0, 1) := by decide +kernel
theorem dX0_init_5 : decode cX0_init 5 = .ok (.iload_n 1, 1) := by decide +kernel
theorem dX0_init_6 : decode cX0_init 6 = .ok (.putfield 9, 3) := by decide +kernel
theorem dX0_init_9 : decode cX0_init 9 = .ok (.aload_n 0, 1) := by decide +kernel
theorem dX0_init_10 : decode cX0_init 10 = .ok (.iload_n 2, 1) := by decide +kernel
theorem dX0_init_11 : decode cX0_init 11 = .ok (.putfield 15, 3) := by decide +kernel
theorem dX0_init_14 : decode cX0_init 14 = .ok (.aload_n 0, 1) := by decide +kernel
theorem dX0_init_15 : decode cX0_init 15 = .ok (.iload_n 3, 1) := by decide +kernel
theorem dX0_init_16 : decode cX0_init 16 = .ok (.putfield 18, 3) := by decide +kernel
theorem dX0_init_19 : decode cX0_init 19 = .ok (.aload_n 0, 1) := by decide +kernel
theorem dX0_init_20 : decode cX0_init 20 = .ok (.iconst (-1), 1) := by decide +kernel
theorem dX0_init_21 : decode cX0_init 21 = .ok (.putfield 21, 3) := by decide +kernel
theorem dX0_init_24 : decode cX0_init 24 = .ok (.aload_n 0, 1) := by decide +kernel
theorem dX0_init_25 : decode cX0_init 25 = .ok (.iconst (-1), 1) := by decide +kernel
theorem dX0_init_26 : decode cX0_init 26 = .ok (.putfield 24, 3) := by decide +kernel
theorem dX0_init_29 : decode cX0_init 29 = .ok (.return_, 1) := by decide +kernel
theorem dX0_cubic_0 : decode cX0_cubic 0 = .ok (.iload_n 1, 1) := by decide +kernel
theorem dX0_cubic_1 : decode cX0_cubic 1 = .ok (.iload_n 1, 1) := by decide +kernel
theorem dX0_cubic_2 : decode cX0_cubic 2 = .ok (.imul, 1) := by decide +kernel
theorem dX0_cubic_3 : decode cX0_cubic 3 = .ok (.aload_n 0, 1) := by decide +kernel
theorem dX0_cubic_4 : decode cX0_cubic 4 = .ok (.getfield 15, 3) := by decide +kernel
theorem dX0_cubic_7 : decode cX0_cubic 7 = .ok (.iadd, 1) := by decide +kernel
theorem dX0_cubic_8 : decode cX0_cubic 8 = .ok (.aload_n 0, 1) := by decide +kernel
theorem dX0_cubic_9 : decode cX0_cubic 9 = .ok (.getfield 9, 3) := by decide +kernel
theorem dX0_cubic_12 : decode cX0_cubic 12 = .ok (.irem, 1) := by decide +kernel
theorem dX0_cubic_13 : decode cX0_cubic 13 = .ok (.iload_n 1, 1) := by decide +kernel
theorem dX0_cubic_14 : decode cX0_cubic 14 = .ok (.imul, 1) := by decide +kernel
theorem dX0_cubic_15 : decode cX0_cubic 15 = .ok (.aload_n 0, 1) := by decide +kernel
theorem dX0_cubic_16 : decode cX0_cubic 16 = .ok (.getfield 18, 3) := by decide +kernel
theorem dX0_cubic_19 : decode cX0_cubic 19 = .ok (.iadd, 1) := by decide +kernel
theorem dX0_cubic_20 : decode cX0_cubic 20 = .ok (.aload_n 0, 1) := by decide +kernel
theorem dX0_cubic_21 : decode cX0_cubic 21 = .ok (.getfield 9, 3) := by decide +kernel
theorem dX0_cubic_24 : decode cX0_cubic 24 = .ok (.irem, 1) := by decide +kernel
theorem dX0_cubic_25 : decode cX0_cubic 25 = .ok (.ireturn, 1) := by decide +kernel
set_option maxRecDepth 20000 in
theorem ggX0_holds_X5_xOf : GoodIn wsX0_holds wsX5_xOf := goodIn_r _ [4] (by decide +kernel) (by decide +kernel)
set_option maxRecDepth 20000 in
theorem gX0_holds_X5_xOf_n27 : GoodIn wsX0_holds (wsX5_xOf) := ggX0_holds_X5_xOf
set_option maxRecDepth 20000 in
theorem ggX0_holds_X5_yOf : GoodIn wsX0_holds wsX5_yOf := goodIn_r _ [6] (by decide +kernel) (by decide +kernel)
set_option maxRecDepth 20000 in
theorem gX0_holds_X5_yOf_n31 : GoodIn wsX0_holds (wsX5_yOf) := ggX0_holds_X5_yOf
set_option maxRecDepth 20000 in
theorem ggX0_holds_X4_isBelow : GoodIn wsX0_holds wsX4_isBelow := goodIn_r _ [10] (by decide +kernel) (by decide +kernel)
set_option maxRecDepth 20000 in
theorem gX0_holds_X4_isBelow : GoodIn wsX0_holds (va_wsS RX0 34 yX4_isBelow wsX4_isBelow) := goodIn_app (goodIn_of _ (by decide +kernel)) ggX0_holds_X4_isBelow
set_option maxRecDepth 20000 in
theorem ggX0_holds_X0_cubic : GoodIn wsX0_holds wsX0_cubic := goodIn_r _ [15, 16, 1, 17, 18, 19, 20, 21, 22, 23, 24, 25, 26, 27, 28, 29] (by decide +kernel) (by decide +kernel)
set_option maxRecDepth 20000 in
theorem gX0_holds_X0_cubic : GoodIn wsX0_holds (wsV RX0 40 RX0 yX0_cubic wsX0_cubic) := goodIn_app (goodIn_of _ (by decide +kernel)) ggX0_holds_X0_cubic
theorem dX0_holds_0 : decode cX0_holds 0 = .ok (.iload_n 1, 1) := by decide +kernel
theorem dX0_holds_1 : decode cX0_holds 1 = .ok (.iconst (-1), 1) := by decide +kernel
theorem dX0_holds_2 : decode cX0_holds 2 = .ok (.if_icmp .ne 5, 3) := by decide +kernel
theorem dX0_holds_5 : decode cX0_holds 5 = .ok (.iconst 1, 1) := by decide +kernel
theorem dX0_holds_6 : decode cX0_holds 6 = .ok (.ireturn, 1) := by decide +kernel
theorem dX0_holds_7 : decode cX0_holds 7 = .ok (.iload_n 1, 1) := by decide +kernel
theorem dX0_holds_8 : decode cX0_holds 8 = .ok (.invokestatic 27, 3) := by decide +kernel
theorem dX0_holds_11 : decode cX0_holds 11 = .ok (.istore_n 2, 1) := by decide +kernel
theorem dX0_holds_12 : decode cX0_holds 12 = .ok (.iload_n 1, 1) := by decide +kernel
theorem dX0_holds_13 : decode cX0_holds 13 = .ok (.invokestatic 31, 3) := by decide +kernel
theorem dX0_holds_16 : decode cX0_holds 16 = .ok (.istore_n 3, 1) := by decide +kernel
theorem dX0_holds_17 : decode cX0_holds 17 = .ok (.iload_n 2, 1) := by decide +kernel
theorem dX0_holds_18 : decode cX0_holds 18 = .ok (.aload_n 0, 1) := by decide +kernel
theorem dX0_holds_19 : decode cX0_holds 19 = .ok (.getfield 9, 3) := by decide +kernel
theorem dX0_holds_22 : decode cX0_holds 22 = .ok (.invokestatic 34, 3) := by decide +kernel
theorem dX0_holds_25 : decode cX0_holds 25 = .ok (.ifCond .eq 31, 3) := by decide +kernel
theorem dX0_holds_28 : decode cX0_holds 28 = .ok (.iload_n 3, 1) := by decide +kernel
theorem dX0_holds_29 : decode cX0_holds 29 = .ok (.aload_n 0, 1) := by decide +kernel
theorem dX0_holds_30 : decode cX0_holds 30 = .ok (.getfield 9, 3) := by decide +kernel
theorem dX0_holds_33 : decode cX0_holds 33 = .ok (.if_icmp .ge 23, 3) := by decide +kernel
theorem dX0_holds_36 : decode cX0_holds 36 = .ok (.iload_n 3, 1) := by decide +kernel
theorem dX0_holds_37 : decode cX0_holds 37 = .ok (.iload_n 3, 1) := by decide +kernel
theorem dX0_holds_38 : decode cX0_holds 38 = .ok (.imul, 1) := by decide +kernel
theorem dX0_holds_39 : decode cX0_holds 39 = .ok (.aload_n 0, 1) := by decide +kernel
theorem dX0_holds_40 : decode cX0_holds 40 = .ok (.getfield 9, 3) := by decide +kernel
theorem dX0_holds_43 : decode cX0_holds 43 = .ok (.irem, 1) := by decide +kernel
theorem dX0_holds_44 : decode cX0_holds 44 = .ok (.aload_n 0, 1) := by decide +kernel
theorem dX0_holds_45 : decode cX0_holds 45 = .ok (.iload_n 2, 1) := by decide +kernel
theorem dX0_holds_46 : decode cX0_holds 46 = .ok (.invokevirtual 40, 3) := by decide +kernel
theorem dX0_holds_49 : decode cX0_holds 49 = .ok (.if_icmp .ne 7, 3) := by decide +kernel
theorem dX0_holds_52 : decode cX0_holds 52 = .ok (.iconst 1, 1) := by decide +kernel
theorem dX0_holds_53 : decode cX0_holds 53 = .ok (.goto 4, 3) := by decide +kernel
theorem dX0_holds_56 : decode cX0_holds 56 = .ok (.iconst 0, 1) := by decide +kernel
theorem dX0_holds_57 : decode cX0_holds 57 = .ok (.ireturn, 1) := by decide +kernel
set_option maxRecDepth 20000 in
theorem ggX0_invariant_X4_cubicMark : GoodIn wsX0_invariant wsX4_cubicMark := goodIn_r _ [7] (by decide +kernel) (by decide +kernel)
set_option maxRecDepth 20000 in
theorem gX0_invariant_X4_cubicMark : GoodIn wsX0_invariant (va_wsS RX0 43 yX4_cubicMark wsX4_cubicMark) := goodIn_app (goodIn_of _ (by decide +kernel)) ggX0_invariant_X4_cubicMark
set_option maxRecDepth 20000 in
theorem ggX0_invariant_X4_inverted : GoodIn wsX0_invariant wsX4_inverted := goodIn_r _ [10] (by decide +kernel) (by decide +kernel)
set_option maxRecDepth 20000 in
theorem gX0_invariant_X4_inverted : GoodIn wsX0_invariant (va_wsS RX0 47 yX4_inverted wsX4_inverted) := goodIn_app (goodIn_of _ (by decide +kernel)) ggX0_invariant_X4_inverted
theorem dX0_invariant_0 : decode cX0_invariant 0 = .ok (.iconst 4, 1) := by decide +kernel
theorem dX0_invariant_1 : decode cX0_invariant 1 = .ok (.aload_n 0, 1) := by decide +kernel
theorem dX0_invariant_2 : decode cX0_invariant 2 = .ok (.getfield 15, 3) := by decide +kernel
theorem dX0_invariant_5 : decode cX0_invariant 5 = .ok (.aload_n 0, 1) := by decide +kernel
theorem dX0_invariant_6 : decode cX0_invariant 6 = .ok (.getfield 15, 3) := by decide +kernel
theorem dX0_invariant_9 : decode cX0_invariant 9 = .ok (.imul, 1) := by decide +kernel
theorem dX0_invariant_10 : decode cX0_invariant 10 = .ok (.aload_n 0, 1) := by decide +kernel
theorem dX0_invariant_11 : decode cX0_invariant 11 = .ok (.getfield 9, 3) := by decide +kernel
theorem dX0_invariant_14 : decode cX0_invariant 14 = .ok (.irem, 1) := by decide +kernel
theorem dX0_invariant_15 : decode cX0_invariant 15 = .ok (.imul, 1) := by decide +kernel
theorem dX0_invariant_16 : decode cX0_invariant 16 = .ok (.aload_n 0, 1) := by decide +kernel
theorem dX0_invariant_17 : decode cX0_invariant 17 = .ok (.getfield 15, 3) := by decide +kernel
theorem dX0_invariant_20 : decode cX0_invariant 20 = .ok (.imul, 1) := by decide +kernel
theorem dX0_invariant_21 : decode cX0_invariant 21 = .ok (.aload_n 0, 1) := by decide +kernel
theorem dX0_invariant_22 : decode cX0_invariant 22 = .ok (.getfield 9, 3) := by decide +kernel
theorem dX0_invariant_25 : decode cX0_invariant 25 = .ok (.irem, 1) := by decide +kernel
theorem dX0_invariant_26 : decode cX0_invariant 26 = .ok (.istore_n 1, 1) := by decide +kernel
theorem dX0_invariant_27 : decode cX0_invariant 27 = .ok (.sipush 1728, 3) := by decide +kernel
theorem dX0_invariant_30 : decode cX0_invariant 30 = .ok (.aload_n 0, 1) := by decide +kernel
theorem dX0_invariant_31 : decode cX0_invariant 31 = .ok (.getfield 9, 3) := by decide +kernel
theorem dX0_invariant_34 : decode cX0_invariant 34 = .ok (.irem, 1) := by decide +kernel
theorem dX0_invariant_35 : decode cX0_invariant 35 = .ok (.iload_n 1, 1) := by decide +kernel
theorem dX0_invariant_36 : decode cX0_invariant 36 = .ok (.imul, 1) := by decide +kernel
theorem dX0_invariant_37 : decode cX0_invariant 37 = .ok (.aload_n 0, 1) := by decide +kernel
theorem dX0_invariant_38 : decode cX0_invariant 38 = .ok (.getfield 9, 3) := by decide +kernel
theorem dX0_invariant_41 : decode cX0_invariant 41 = .ok (.irem, 1) := by decide +kernel
theorem dX0_invariant_42 : decode cX0_invariant 42 = .ok (.aload_n 0, 1) := by decide +kernel
theorem dX0_invariant_43 : decode cX0_invariant 43 = .ok (.getfield 15, 3) := by decide +kernel
theorem dX0_invariant_46 : decode cX0_invariant 46 = .ok (.aload_n 0, 1) := by decide +kernel
theorem dX0_invariant_47 : decode cX0_invariant 47 = .ok (.getfield 18, 3) := by decide +kernel
theorem dX0_invariant_50 : decode cX0_invariant 50 = .ok (.aload_n 0, 1) := by decide +kernel
theorem dX0_invariant_51 : decode cX0_invariant 51 = .ok (.getfield 9, 3) := by decide +kernel
theorem dX0_invariant_54 : decode cX0_invariant 54 = .ok (.invokestatic 43, 3) := by decide +kernel
theorem dX0_invariant_57 : decode cX0_invariant 57 = .ok (.aload_n 0, 1) := by decide +kernel
theorem dX0_invariant_58 : decode cX0_invariant 58 = .ok (.getfield 9, 3) := by decide +kernel
theorem dX0_invariant_61 : decode cX0_invariant 61 = .ok (.invokestatic 47, 3) := by decide +kernel
theorem dX0_invariant_64 : decode cX0_invariant 64 = .ok (.imul, 1) := by decide +kernel
theorem dX0_invariant_65 : decode cX0_invariant 65 = .ok (.aload_n 0, 1) := by decide +kernel
theorem dX0_invariant_66 : decode cX0_invariant 66 = .ok (.getfield 9, 3) := by decide +kernel
theorem dX0_invariant_69 : decode cX0_invariant 69 = .ok (.irem, 1) := by decide +kernel
theorem dX0_invariant_70 : decode cX0_invariant 70 = .ok (.ireturn, 1) := by decide +kernel
set_option maxRecDepth 20000 in
theorem ggX0_selfMaps_X4_commonPart : GoodIn wsX0_selfMaps wsX4_commonPart := goodIn_r _ [7] (by decide +kernel) (by decide +kernel)
set_option maxRecDepth 20000 in
theorem gX0_selfMaps_X4_commonPart : GoodIn wsX0_selfMaps (va_wsS RX0 51 yX4_commonPart wsX4_commonPart) := goodIn_app (goodIn_of _ (by decide +kernel)) ggX0_selfMaps_X4_commonPart
theorem dX0_selfMaps_0 : decode cX0_selfMaps 0 = .ok (.aload_n 0, 1) := by decide +kernel
theorem dX0_selfMaps_1 : decode cX0_selfMaps 1 = .ok (.getfield 15, 3) := by decide +kernel
theorem dX0_selfMaps_4 : decode cX0_selfMaps 4 = .ok (.ifCond .ne 15, 3) := by decide +kernel
theorem dX0_selfMaps_7 : decode cX0_selfMaps 7 = .ok (.bipush 6, 2) := by decide +kernel
theorem dX0_selfMaps_9 : decode cX0_selfMaps 9 = .ok (.aload_n 0, 1) := by decide +kernel
theorem dX0_selfMaps_10 : decode cX0_selfMaps 10 = .ok (.getfield 9, 3) := by decide +kernel
theorem dX0_selfMaps_13 : decode cX0_selfMaps 13 = .ok (.iconst 1, 1) := by decide +kernel
theorem dX0_selfMaps_14 : decode cX0_selfMaps 14 = .ok (.isub, 1) := by decide +kernel
theorem dX0_selfMaps_15 : decode cX0_selfMaps 15 = .ok (.invokestatic 51, 3) := by decide +kernel
theorem dX0_selfMaps_18 : decode cX0_selfMaps 18 = .ok (.ireturn, 1) := by decide +kernel
theorem dX0_selfMaps_19 : decode cX0_selfMaps 19 = .ok (.aload_n 0, 1) := by decide +kernel
theorem dX0_selfMaps_20 : decode cX0_selfMaps 20 = .ok (.getfield 18, 3) := by decide +kernel
theorem dX0_selfMaps_23 : decode cX0_selfMaps 23 = .ok (.ifCond .ne 16, 3) := by decide +kernel
theorem dX0_selfMaps_26 : decode cX0_selfMaps 26 = .ok (.iconst 4, 1) := by decide +kernel
theorem dX0_selfMaps_27 : decode cX0_selfMaps 27 = .ok (.aload_n 0, 1) := by decide +kernel
theorem dX0_selfMaps_28 : decode cX0_selfMaps 28 = .ok (.getfield 9, 3) := by decide +kernel
theorem dX0_selfMaps_31 : decode cX0_selfMaps 31 = .ok (.iconst 1, 1) := by decide +kernel
theorem dX0_selfMaps_32 : decode cX0_selfMaps 32 = .ok (.isub, 1) := by decide +kernel
theorem dX0_selfMaps_33 : decode cX0_selfMaps 33 = .ok (.invokestatic 51, 3) := by decide +kernel
theorem dX0_selfMaps_36 : decode cX0_selfMaps 36 = .ok (.goto 4, 3) := by decide +kernel
theorem dX0_selfMaps_39 : decode cX0_selfMaps 39 = .ok (.iconst 2, 1) := by decide +kernel
theorem dX0_selfMaps_40 : decode cX0_selfMaps 40 = .ok (.ireturn, 1) := by decide +kernel
set_option maxRecDepth 20000 in
theorem ggX0_twisted_X4_leastNoSquare : GoodIn wsX0_twisted wsX4_leastNoSquare := goodIn_r _ [10, 11, 12, 9, 13] (by decide +kernel) (by decide +kernel)
set_option maxRecDepth 20000 in
theorem gX0_twisted_X4_leastNoSquare : GoodIn wsX0_twisted (va_wsS RX0 54 yX4_leastNoSquare wsX4_leastNoSquare) := goodIn_app (goodIn_of _ (by decide +kernel)) ggX0_twisted_X4_leastNoSquare
set_option maxRecDepth 20000 in
theorem ggX0_twisted_X0_init : GoodIn wsX0_twisted wsX0_init := goodIn_r _ [16, 17, 18, 19, 1, 5, 6, 20, 21, 22, 23, 24, 25, 26, 27, 28, 29, 30, 31, 32, 33] (by decide +kernel) (by decide +kernel)
set_option maxRecDepth 20000 in
theorem gX0_twisted_X0_init : GoodIn wsX0_twisted (wsX0_init) := ggX0_twisted_X0_init
theorem dX0_twisted_0 : decode cX0_twisted 0 = .ok (.aload_n 0, 1) := by decide +kernel
theorem dX0_twisted_1 : decode cX0_twisted 1 = .ok (.getfield 9, 3) := by decide +kernel
theorem dX0_twisted_4 : decode cX0_twisted 4 = .ok (.invokestatic 54, 3) := by decide +kernel
theorem dX0_twisted_7 : decode cX0_twisted 7 = .ok (.istore_n 1, 1) := by decide +kernel
theorem dX0_twisted_8 : decode cX0_twisted 8 = .ok (.iload_n 1, 1) := by decide +kernel
theorem dX0_twisted_9 : decode cX0_twisted 9 = .ok (.iload_n 1, 1) := by decide +kernel
theorem dX0_twisted_10 : decode cX0_twisted 10 = .ok (.imul, 1) := by decide +kernel
theorem dX0_twisted_11 : decode cX0_twisted 11 = .ok (.aload_n 0, 1) := by decide +kernel
theorem dX0_twisted_12 : decode cX0_twisted 12 = .ok (.getfield 9, 3) := by decide +kernel
theorem dX0_twisted_15 : decode cX0_twisted 15 = .ok (.irem, 1) := by decide +kernel
theorem dX0_twisted_16 : decode cX0_twisted 16 = .ok (.istore_n 2, 1) := by decide +kernel
theorem dX0_twisted_17 : decode cX0_twisted 17 = .ok (.new 10, 3) := by decide +kernel
theorem dX0_twisted_20 : decode cX0_twisted 20 = .ok (.dup, 1) := by decide +kernel
theorem dX0_twisted_21 : decode cX0_twisted 21 = .ok (.aload_n 0, 1) := by decide +kernel
theorem dX0_twisted_22 : decode cX0_twisted 22 = .ok (.getfield 9, 3) := by decide +kernel
theorem dX0_twisted_25 : decode cX0_twisted 25 = .ok (.aload_n 0, 1) := by decide +kernel
theorem dX0_twisted_26 : decode cX0_twisted 26 = .ok (.getfield 15, 3) := by decide +kernel
theorem dX0_twisted_29 : decode cX0_twisted 29 = .ok (.iload_n 2, 1) := by decide +kernel
theorem dX0_twisted_30 : decode cX0_twisted 30 = .ok (.imul, 1) := by decide +kernel
theorem dX0_twisted_31 : decode cX0_twisted 31 = .ok (.aload_n 0, 1) := by decide +kernel
theorem dX0_twisted_32 : decode cX0_twisted 32 = .ok (.getfield 9, 3) := by decide +kernel
theorem dX0_twisted_35 : decode cX0_twisted 35 = .ok (.irem, 1) := by decide +kernel
theorem dX0_twisted_36 : decode cX0_twisted 36 = .ok (.aload_n 0, 1) := by decide +kernel
theorem dX0_twisted_37 : decode cX0_twisted 37 = .ok (.getfield 18, 3) := by decide +kernel
theorem dX0_twisted_40 : decode cX0_twisted 40 = .ok (.iload_n 2, 1) := by decide +kernel
theorem dX0_twisted_41 : decode cX0_twisted 41 = .ok (.iload_n 1, 1) := by decide +kernel
theorem dX0_twisted_42 : decode cX0_twisted 42 = .ok (.imul, 1) := by decide +kernel
theorem dX0_twisted_43 : decode cX0_twisted 43 = .ok (.aload_n 0, 1) := by decide +kernel
theorem dX0_twisted_44 : decode cX0_twisted 44 = .ok (.getfield 9, 3) := by decide +kernel
theorem dX0_twisted_47 : decode cX0_twisted 47 = .ok (.irem, 1) := by decide +kernel
theorem dX0_twisted_48 : decode cX0_twisted 48 = .ok (.imul, 1) := by decide +kernel
theorem dX0_twisted_49 : decode cX0_twisted 49 = .ok (.aload_n 0, 1) := by decide +kernel
theorem dX0_twisted_50 : decode cX0_twisted 50 = .ok (.getfield 9, 3) := by decide +kernel
theorem dX0_twisted_53 : decode cX0_twisted 53 = .ok (.irem, 1) := by decide +kernel
theorem dX0_twisted_54 : decode cX0_twisted 54 = .ok (.invokespecial 57, 3) := by decide +kernel
theorem dX0_twisted_57 : decode cX0_twisted 57 = .ok (.areturn, 1) := by decide +kernel
theorem dX0_leastMapTo_0 : decode cX0_leastMapTo 0 = .ok (.aload_n 1, 1) := by decide +kernel
theorem dX0_leastMapTo_1 : decode cX0_leastMapTo 1 = .ok (.getfield 9, 3) := by decide +kernel
theorem dX0_leastMapTo_4 : decode cX0_leastMapTo 4 = .ok (.aload_n 0, 1) := by decide +kernel
theorem dX0_leastMapTo_5 : decode cX0_leastMapTo 5 = .ok (.getfield 9, 3) := by decide +kernel
theorem dX0_leastMapTo_8 : decode cX0_leastMapTo 8 = .ok (.if_icmp .eq 5, 3) := by decide +kernel
theorem dX0_leastMapTo_11 : decode cX0_leastMapTo 11 = .ok (.iconst (-1), 1) := by decide +kernel
theorem dX0_leastMapTo_12 : decode cX0_leastMapTo 12 = .ok (.ireturn, 1) := by decide +kernel
theorem dX0_leastMapTo_13 : decode cX0_leastMapTo 13 = .ok (.iconst 1, 1) := by decide +kernel
theorem dX0_leastMapTo_14 : decode cX0_leastMapTo 14 = .ok (.istore_n 2, 1) := by decide +kernel
theorem dX0_leastMapTo_15 : decode cX0_leastMapTo 15 = .ok (.iload_n 2, 1) := by decide +kernel
theorem dX0_leastMapTo_16 : decode cX0_leastMapTo 16 = .ok (.aload_n 0, 1) := by decide +kernel
theorem dX0_leastMapTo_17 : decode cX0_leastMapTo 17 = .ok (.getfield 9, 3) := by decide +kernel
theorem dX0_leastMapTo_20 : decode cX0_leastMapTo 20 = .ok (.if_icmp .ge 75, 3) := by decide +kernel
theorem dX0_leastMapTo_23 : decode cX0_leastMapTo 23 = .ok (.iload_n 2, 1) := by decide +kernel
theorem dX0_leastMapTo_24 : decode cX0_leastMapTo 24 = .ok (.iload_n 2, 1) := by decide +kernel
theorem dX0_leastMapTo_25 : decode cX0_leastMapTo 25 = .ok (.imul, 1) := by decide +kernel
theorem dX0_leastMapTo_26 : decode cX0_leastMapTo 26 = .ok (.aload_n 0, 1) := by decide +kernel
theorem dX0_leastMapTo_27 : decode cX0_leastMapTo 27 = .ok (.getfield 9, 3) := by decide +kernel
theorem dX0_leastMapTo_30 : decode cX0_leastMapTo 30 = .ok (.irem, 1) := by decide +kernel
theorem dX0_leastMapTo_31 : decode cX0_leastMapTo 31 = .ok (.istore_n 3, 1) := by decide +kernel
theorem dX0_leastMapTo_32 : decode cX0_leastMapTo 32 = .ok (.iload_n 3, 1) := by decide +kernel
theorem dX0_leastMapTo_33 : decode cX0_leastMapTo 33 = .ok (.iload_n 3, 1) := by decide +kernel
theorem dX0_leastMapTo_34 : decode cX0_leastMapTo 34 = .ok (.imul, 1) := by decide +kernel
theorem dX0_leastMapTo_35 : decode cX0_leastMapTo 35 = .ok (.aload_n 0, 1) := by decide +kernel
theorem dX0_leastMapTo_36 : decode cX0_leastMapTo 36 = .ok (.getfield 9, 3) := by decide +kernel
theorem dX0_leastMapTo_39 : decode cX0_leastMapTo 39 = .ok (.irem, 1) := by decide +kernel
theorem dX0_leastMapTo_40 : decode cX0_leastMapTo 40 = .ok (.istore 4, 2) := by decide +kernel
theorem dX0_leastMapTo_42 : decode cX0_leastMapTo 42 = .ok (.aload_n 0, 1) := by decide +kernel
theorem dX0_leastMapTo_43 : decode cX0_leastMapTo 43 = .ok (.getfield 15, 3) := by decide +kernel
theorem dX0_leastMapTo_46 : decode cX0_leastMapTo 46 = .ok (.iload 4, 2) := by decide +kernel
theorem dX0_leastMapTo_48 : decode cX0_leastMapTo 48 = .ok (.imul, 1) := by decide +kernel
theorem dX0_leastMapTo_49 : decode cX0_leastMapTo 49 = .ok (.aload_n 0, 1) := by decide +kernel
theorem dX0_leastMapTo_50 : decode cX0_leastMapTo 50 = .ok (.getfield 9, 3) := by decide +kernel
theorem dX0_leastMapTo_53 : decode cX0_leastMapTo 53 = .ok (.irem, 1) := by decide +kernel
theorem dX0_leastMapTo_54 : decode cX0_leastMapTo 54 = .ok (.aload_n 1, 1) := by decide +kernel
theorem dX0_leastMapTo_55 : decode cX0_leastMapTo 55 = .ok (.getfield 15, 3) := by decide +kernel
theorem dX0_leastMapTo_58 : decode cX0_leastMapTo 58 = .ok (.if_icmp .ne 31, 3) := by decide +kernel
theorem dX0_leastMapTo_61 : decode cX0_leastMapTo 61 = .ok (.aload_n 0, 1) := by decide +kernel
theorem dX0_leastMapTo_62 : decode cX0_leastMapTo 62 = .ok (.getfield 18, 3) := by decide +kernel
theorem dX0_leastMapTo_65 : decode cX0_leastMapTo 65 = .ok (.iload 4, 2) := by decide +kernel
theorem dX0_leastMapTo_67 : decode cX0_leastMapTo 67 = .ok (.iload_n 3, 1) := by decide +kernel
theorem dX0_leastMapTo_68 : decode cX0_leastMapTo 68 = .ok (.imul, 1) := by decide +kernel
theorem dX0_leastMapTo_69 : decode cX0_leastMapTo 69 = .ok (.aload_n 0, 1) := by decide +kernel
theorem dX0_leastMapTo_70 : decode cX0_leastMapTo 70 = .ok (.getfield 9, 3) := by decide +kernel
theorem dX0_leastMapTo_73 : decode cX0_leastMapTo 73 = .ok (.irem, 1) := by decide +kernel
theorem dX0_leastMapTo_74 : decode cX0_leastMapTo 74 = .ok (.imul, 1) := by decide +kernel
theorem dX0_leastMapTo_75 : decode cX0_leastMapTo 75 = .ok (.aload_n 0, 1) := by decide +kernel
theorem dX0_leastMapTo_76 : decode cX0_leastMapTo 76 = .ok (.getfield 9, 3) := by decide +kernel
theorem dX0_leastMapTo_79 : decode cX0_leastMapTo 79 = .ok (.irem, 1) := by decide +kernel
theorem dX0_leastMapTo_80 : decode cX0_leastMapTo 80 = .ok (.aload_n 1, 1) := by decide +kernel
theorem dX0_leastMapTo_81 : decode cX0_leastMapTo 81 = .ok (.getfield 18, 3) := by decide +kernel
theorem dX0_leastMapTo_84 : decode cX0_leastMapTo 84 = .ok (.if_icmp .ne 5, 3) := by decide +kernel
theorem dX0_leastMapTo_87 : decode cX0_leastMapTo 87 = .ok (.iload_n 2, 1) := by decide +kernel
theorem dX0_leastMapTo_88 : decode cX0_leastMapTo 88 = .ok (.ireturn, 1) := by decide +kernel
theorem dX0_leastMapTo_89 : decode cX0_leastMapTo 89 = .ok (.iinc 2 1, 3) := by decide +kernel
theorem dX0_leastMapTo_92 : decode cX0_leastMapTo 92 = .ok (.goto (-77), 3) := by decide +kernel
theorem dX0_leastMapTo_95 : decode cX0_leastMapTo 95 = .ok (.iconst (-1), 1) := by decide +kernel
theorem dX0_leastMapTo_96 : decode cX0_leastMapTo 96 = .ok (.ireturn, 1) := by decide +kernel
set_option maxRecDepth 20000 in
theorem ggX0_opposite_X5_yOf : GoodIn wsX0_opposite wsX5_yOf := goodIn_r _ [4] (by decide +kernel) (by decide +kernel)
set_option maxRecDepth 20000 in
theorem gX0_opposite_X5_yOf_n31 : GoodIn wsX0_opposite (wsX5_yOf) := ggX0_opposite_X5_yOf
set_option maxRecDepth 20000 in
theorem ggX0_opposite_X5_xOf : GoodIn wsX0_opposite wsX5_xOf := goodIn_r _ [6] (by decide +kernel) (by decide +kernel)
set_option maxRecDepth 20000 in
theorem gX0_opposite_X5_xOf_n27 : GoodIn wsX0_opposite (wsX5_xOf) := ggX0_opposite_X5_xOf
set_option maxRecDepth 20000 in
theorem ggX0_opposite_X5_pair : GoodIn wsX0_opposite wsX5_pair := goodIn_r _ [8] (by decide +kernel) (by decide +kernel)
set_option maxRecDepth 20000 in
theorem gX0_opposite_X5_pair_n60 : GoodIn wsX0_opposite (wsX5_pair) := ggX0_opposite_X5_pair
theorem dX0_opposite_0 : decode cX0_opposite 0 = .ok (.iload_n 1, 1) := by decide +kernel
theorem dX0_opposite_1 : decode cX0_opposite 1 = .ok (.iconst (-1), 1) := by decide +kernel
theorem dX0_opposite_2 : decode cX0_opposite 2 = .ok (.if_icmp .eq 10, 3) := by decide +kernel
theorem dX0_opposite_5 : decode cX0_opposite 5 = .ok (.iload_n 1, 1) := by decide +kernel
theorem dX0_opposite_6 : decode cX0_opposite 6 = .ok (.invokestatic 31, 3) := by decide +kernel
theorem dX0_opposite_9 : decode cX0_opposite 9 = .ok (.ifCond .ne 5, 3) := by decide +kernel
theorem dX0_opposite_12 : decode cX0_opposite 12 = .ok (.iload_n 1, 1) := by decide +kernel
theorem dX0_opposite_13 : decode cX0_opposite 13 = .ok (.ireturn, 1) := by decide +kernel
theorem dX0_opposite_14 : decode cX0_opposite 14 = .ok (.iload_n 1, 1) := by decide +kernel
theorem dX0_opposite_15 : decode cX0_opposite 15 = .ok (.invokestatic 27, 3) := by decide +kernel
theorem dX0_opposite_18 : decode cX0_opposite 18 = .ok (.aload_n 0, 1) := by decide +kernel
theorem dX0_opposite_19 : decode cX0_opposite 19 = .ok (.getfield 9, 3) := by decide +kernel
theorem dX0_opposite_22 : decode cX0_opposite 22 = .ok (.iload_n 1, 1) := by decide +kernel
theorem dX0_opposite_23 : decode cX0_opposite 23 = .ok (.invokestatic 31, 3) := by decide +kernel
theorem dX0_opposite_26 : decode cX0_opposite 26 = .ok (.isub, 1) := by decide +kernel
theorem dX0_opposite_27 : decode cX0_opposite 27 = .ok (.invokestatic 60, 3) := by decide +kernel
theorem dX0_opposite_30 : decode cX0_opposite 30 = .ok (.ireturn, 1) := by decide +kernel
set_option maxRecDepth 20000 in
theorem ggX0_sum_X5_xOf : GoodIn wsX0_sum wsX5_xOf := goodIn_r _ [5] (by decide +kernel) (by decide +kernel)
set_option maxRecDepth 20000 in
theorem gX0_sum_X5_xOf_n27 : GoodIn wsX0_sum (wsX5_xOf) := ggX0_sum_X5_xOf
set_option maxRecDepth 20000 in
theorem ggX0_sum_X5_yOf : GoodIn wsX0_sum wsX5_yOf := goodIn_r _ [7] (by decide +kernel) (by decide +kernel)
set_option maxRecDepth 20000 in
theorem gX0_sum_X5_yOf_n31 : GoodIn wsX0_sum (wsX5_yOf) := ggX0_sum_X5_yOf
set_option maxRecDepth 20000 in
theorem ggX0_sum_X4_inverted : GoodIn wsX0_sum wsX4_inverted := goodIn_r _ [11] (by decide +kernel) (by decide +kernel)
set_option maxRecDepth 20000 in
theorem gX0_sum_X4_inverted : GoodIn wsX0_sum (va_wsS RX0 47 yX4_inverted wsX4_inverted) := goodIn_app (goodIn_of _ (by decide +kernel)) ggX0_sum_X4_inverted
set_option maxRecDepth 20000 in
theorem ggX0_sum_X5_pair : GoodIn wsX0_sum wsX5_pair := goodIn_r _ [13] (by decide +kernel) (by decide +kernel)
set_option maxRecDepth 20000 in
theorem gX0_sum_X5_pair_n60 : GoodIn wsX0_sum (wsX5_pair) := ggX0_sum_X5_pair
theorem dX0_sum_0 : decode cX0_sum 0 = .ok (.iload_n 1, 1) := by decide +kernel
theorem dX0_sum_1 : decode cX0_sum 1 = .ok (.iconst (-1), 1) := by decide +kernel
theorem dX0_sum_2 : decode cX0_sum 2 = .ok (.if_icmp .ne 5, 3) := by decide +kernel
theorem dX0_sum_5 : decode cX0_sum 5 = .ok (.iload_n 2, 1) := by decide +kernel
theorem dX0_sum_6 : decode cX0_sum 6 = .ok (.ireturn, 1) := by decide +kernel
theorem dX0_sum_7 : decode cX0_sum 7 = .ok (.iload_n 2, 1) := by decide +kernel
theorem dX0_sum_8 : decode cX0_sum 8 = .ok (.iconst (-1), 1) := by decide +kernel
theorem dX0_sum_9 : decode cX0_sum 9 = .ok (.if_icmp .ne 5, 3) := by decide +kernel
theorem dX0_sum_12 : decode cX0_sum 12 = .ok (.iload_n 1, 1) := by decide +kernel
theorem dX0_sum_13 : decode cX0_sum 13 = .ok (.ireturn, 1) := by decide +kernel
theorem dX0_sum_14 : decode cX0_sum 14 = .ok (.iload_n 1, 1) := by decide +kernel
theorem dX0_sum_15 : decode cX0_sum 15 = .ok (.invokestatic 27, 3) := by decide +kernel
theorem dX0_sum_18 : decode cX0_sum 18 = .ok (.istore_n 3, 1) := by decide +kernel
theorem dX0_sum_19 : decode cX0_sum 19 = .ok (.iload_n 1, 1) := by decide +kernel
theorem dX0_sum_20 : decode cX0_sum 20 = .ok (.invokestatic 31, 3) := by decide +kernel
theorem dX0_sum_23 : decode cX0_sum 23 = .ok (.istore 4, 2) := by decide +kernel
theorem dX0_sum_25 : decode cX0_sum 25 = .ok (.iload_n 2, 1) := by decide +kernel
theorem dX0_sum_26 : decode cX0_sum 26 = .ok (.invokestatic 27, 3) := by decide +kernel
theorem dX0_sum_29 : decode cX0_sum 29 = .ok (.istore 5, 2) := by decide +kernel
theorem dX0_sum_31 : decode cX0_sum 31 = .ok (.iload_n 2, 1) := by decide +kernel
theorem dX0_sum_32 : decode cX0_sum 32 = .ok (.invokestatic 31, 3) := by decide +kernel
theorem dX0_sum_35 : decode cX0_sum 35 = .ok (.istore 6, 2) := by decide +kernel
theorem dX0_sum_37 : decode cX0_sum 37 = .ok (.iload 6, 2) := by decide +kernel
theorem dX0_sum_39 : decode cX0_sum 39 = .ok (.iload 4, 2) := by decide +kernel
theorem dX0_sum_41 : decode cX0_sum 41 = .ok (.isub, 1) := by decide +kernel
theorem dX0_sum_42 : decode cX0_sum 42 = .ok (.aload_n 0, 1) := by decide +kernel
theorem dX0_sum_43 : decode cX0_sum 43 = .ok (.getfield 9, 3) := by decide +kernel
theorem dX0_sum_46 : decode cX0_sum 46 = .ok (.iadd, 1) := by decide +kernel
theorem dX0_sum_47 : decode cX0_sum 47 = .ok (.istore 7, 2) := by decide +kernel
theorem dX0_sum_49 : decode cX0_sum 49 = .ok (.iload 5, 2) := by decide +kernel
theorem dX0_sum_51 : decode cX0_sum 51 = .ok (.iload_n 3, 1) := by decide +kernel
theorem dX0_sum_52 : decode cX0_sum 52 = .ok (.isub, 1) := by decide +kernel
theorem dX0_sum_53 : decode cX0_sum 53 = .ok (.istore 8, 2) := by decide +kernel
theorem dX0_sum_55 : decode cX0_sum 55 = .ok (.iload 8, 2) := by decide +kernel
theorem dX0_sum_57 : decode cX0_sum 57 = .ok (.ifCond .ne 41, 3) := by decide +kernel
theorem dX0_sum_60 : decode cX0_sum 60 = .ok (.iload 4, 2) := by decide +kernel
theorem dX0_sum_62 : decode cX0_sum 62 = .ok (.iload 6, 2) := by decide +kernel
theorem dX0_sum_64 : decode cX0_sum 64 = .ok (.iadd, 1) := by decide +kernel
theorem dX0_sum_65 : decode cX0_sum 65 = .ok (.aload_n 0, 1) := by decide +kernel
theorem dX0_sum_66 : decode cX0_sum 66 = .ok (.getfield 9, 3) := by decide +kernel
theorem dX0_sum_69 : decode cX0_sum 69 = .ok (.irem, 1) := by decide +kernel
theorem dX0_sum_70 : decode cX0_sum 70 = .ok (.ifCond .ne 5, 3) := by decide +kernel
theorem dX0_sum_73 : decode cX0_sum 73 = .ok (.iconst (-1), 1) := by decide +kernel
theorem dX0_sum_74 : decode cX0_sum 74 = .ok (.ireturn, 1) := by decide +kernel
theorem dX0_sum_75 : decode cX0_sum 75 = .ok (.iconst 3, 1) := by decide +kernel
theorem dX0_sum_76 : decode cX0_sum 76 = .ok (.iload_n 3, 1) := by decide +kernel
theorem dX0_sum_77 : decode cX0_sum 77 = .ok (.imul, 1) := by decide +kernel
theorem dX0_sum_78 : decode cX0_sum 78 = .ok (.iload_n 3, 1) := by decide +kernel
theorem dX0_sum_79 : decode cX0_sum 79 = .ok (.imul, 1) := by decide +kernel
theorem dX0_sum_80 : decode cX0_sum 80 = .ok (.aload_n 0, 1) := by decide +kernel
theorem dX0_sum_81 : decode cX0_sum 81 = .ok (.getfield 15, 3) := by decide +kernel
theorem dX0_sum_84 : decode cX0_sum 84 = .ok (.iadd, 1) := by decide +kernel
theorem dX0_sum_85 : decode cX0_sum 85 = .ok (.istore 7, 2) := by decide +kernel
theorem dX0_sum_87 : decode cX0_sum 87 = .ok (.iconst 2, 1) := by decide +kernel
theorem dX0_sum_88 : decode cX0_sum 88 = .ok (.iload 4, 2) := by decide +kernel
theorem dX0_sum_90 : decode cX0_sum 90 = .ok (.imul, 1) := by decide +kernel
theorem dX0_sum_91 : decode cX0_sum 91 = .ok (.aload_n 0, 1) := by decide +kernel
theorem dX0_sum_92 : decode cX0_sum 92 = .ok (.getfield 9, 3) := by decide +kernel
theorem dX0_sum_95 : decode cX0_sum 95 = .ok (.irem, 1) := by decide +kernel
theorem dX0_sum_96 : decode cX0_sum 96 = .ok (.istore 8, 2) := by decide +kernel
theorem dX0_sum_98 : decode cX0_sum 98 = .ok (.iload 7, 2) := by decide +kernel
theorem dX0_sum_100 : decode cX0_sum 100 = .ok (.aload_n 0, 1) := by decide +kernel
theorem dX0_sum_101 : decode cX0_sum 101 = .ok (.getfield 9, 3) := by decide +kernel
theorem dX0_sum_104 : decode cX0_sum 104 = .ok (.irem, 1) := by decide +kernel
theorem dX0_sum_105 : decode cX0_sum 105 = .ok (.iload 8, 2) := by decide +kernel
theorem dX0_sum_107 : decode cX0_sum 107 = .ok (.ifCond .ge 13, 3) := by decide +kernel
theorem dX0_sum_110 : decode cX0_sum 110 = .ok (.iload 8, 2) := by decide +kernel
theorem dX0_sum_112 : decode cX0_sum 112 = .ok (.aload_n 0, 1) := by decide +kernel
theorem dX0_sum_113 : decode cX0_sum 113 = .ok (.getfield 9, 3) := by decide +kernel
theorem dX0_sum_116 : decode cX0_sum 116 = .ok (.iadd, 1) := by decide +kernel
theorem dX0_sum_117 : decode cX0_sum 117 = .ok (.goto 5, 3) := by decide +kernel
theorem dX0_sum_120 : decode cX0_sum 120 = .ok (.iload 8, 2) := by decide +kernel
theorem dX0_sum_122 : decode cX0_sum 122 = .ok (.aload_n 0, 1) := by decide +kernel
theorem dX0_sum_123 : decode cX0_sum 123 = .ok (.getfield 9, 3) := by decide +kernel
theorem dX0_sum_126 : decode cX0_sum 126 = .ok (.invokestatic 47, 3) := by decide +kernel
theorem dX0_sum_129 : decode cX0_sum 129 = .ok (.imul, 1) := by decide +kernel
theorem dX0_sum_130 : decode cX0_sum 130 = .ok (.aload_n 0, 1) := by decide +kernel
theorem dX0_sum_131 : decode cX0_sum 131 = .ok (.getfield 9, 3) := by decide +kernel
theorem dX0_sum_134 : decode cX0_sum 134 = .ok (.irem, 1) := by decide +kernel
theorem dX0_sum_135 : decode cX0_sum 135 = .ok (.istore 9, 2) := by decide +kernel
theorem dX0_sum_137 : decode cX0_sum 137 = .ok (.iload 9, 2) := by decide +kernel
theorem dX0_sum_139 : decode cX0_sum 139 = .ok (.iload 9, 2) := by decide +kernel
theorem dX0_sum_141 : decode cX0_sum 141 = .ok (.imul, 1) := by decide +kernel
theorem dX0_sum_142 : decode cX0_sum 142 = .ok (.iconst 2, 1) := by decide +kernel
theorem dX0_sum_143 : decode cX0_sum 143 = .ok (.aload_n 0, 1) := by decide +kernel
theorem dX0_sum_144 : decode cX0_sum 144 = .ok (.getfield 9, 3) := by decide +kernel
theorem dX0_sum_147 : decode cX0_sum 147 = .ok (.imul, 1) := by decide +kernel
theorem dX0_sum_148 : decode cX0_sum 148 = .ok (.iadd, 1) := by decide +kernel
theorem dX0_sum_149 : decode cX0_sum 149 = .ok (.iload_n 3, 1) := by decide +kernel
theorem dX0_sum_150 : decode cX0_sum 150 = .ok (.isub, 1) := by decide +kernel
theorem dX0_sum_151 : decode cX0_sum 151 = .ok (.iload 5, 2) := by decide +kernel
theorem dX0_sum_153 : decode cX0_sum 153 = .ok (.isub, 1) := by decide +kernel
theorem dX0_sum_154 : decode cX0_sum 154 = .ok (.aload_n 0, 1) := by decide +kernel
theorem dX0_sum_155 : decode cX0_sum 155 = .ok (.getfield 9, 3) := by decide +kernel
theorem dX0_sum_158 : decode cX0_sum 158 = .ok (.irem, 1) := by decide +kernel
theorem dX0_sum_159 : decode cX0_sum 159 = .ok (.istore 10, 2) := by decide +kernel
theorem dX0_sum_161 : decode cX0_sum 161 = .ok (.iload 9, 2) := by decide +kernel
theorem dX0_sum_163 : decode cX0_sum 163 = .ok (.iload_n 3, 1) := by decide +kernel
theorem dX0_sum_164 : decode cX0_sum 164 = .ok (.iload 10, 2) := by decide +kernel
theorem dX0_sum_166 : decode cX0_sum 166 = .ok (.isub, 1) := by decide +kernel
theorem dX0_sum_167 : decode cX0_sum 167 = .ok (.aload_n 0, 1) := by decide +kernel
theorem dX0_sum_168 : decode cX0_sum 168 = .ok (.getfield 9, 3) := by decide +kernel
theorem dX0_sum_171 : decode cX0_sum 171 = .ok (.iadd, 1) := by decide +kernel
theorem dX0_sum_172 : decode cX0_sum 172 = .ok (.imul, 1) := by decide +kernel
theorem dX0_sum_173 : decode cX0_sum 173 = .ok (.aload_n 0, 1) := by decide +kernel
theorem dX0_sum_174 : decode cX0_sum 174 = .ok (.getfield 9, 3) := by decide +kernel
theorem dX0_sum_177 : decode cX0_sum 177 = .ok (.iadd, 1) := by decide +kernel
theorem dX0_sum_178 : decode cX0_sum 178 = .ok (.iload 4, 2) := by decide +kernel
theorem dX0_sum_180 : decode cX0_sum 180 = .ok (.isub, 1) := by decide +kernel
theorem dX0_sum_181 : decode cX0_sum 181 = .ok (.aload_n 0, 1) := by decide +kernel
theorem dX0_sum_182 : decode cX0_sum 182 = .ok (.getfield 9, 3) := by decide +kernel
theorem dX0_sum_185 : decode cX0_sum 185 = .ok (.irem, 1) := by decide +kernel
theorem dX0_sum_186 : decode cX0_sum 186 = .ok (.istore 11, 2) := by decide +kernel
theorem dX0_sum_188 : decode cX0_sum 188 = .ok (.iload 10, 2) := by decide +kernel
theorem dX0_sum_190 : decode cX0_sum 190 = .ok (.iload 11, 2) := by decide +kernel
theorem dX0_sum_192 : decode cX0_sum 192 = .ok (.invokestatic 60, 3) := by decide +kernel
theorem dX0_sum_195 : decode cX0_sum 195 = .ok (.ireturn, 1) := by decide +kernel
set_option maxRecDepth 20000 in
theorem ggX0_multiple_X0_opposite : GoodIn wsX0_multiple wsX0_opposite := goodIn_r _ [5, 6, 7, 8, 9, 10, 11, 12, 13, 23, 24, 25, 26, 27, 28, 29, 30, 31, 32, 33, 34] (by decide +kernel) (by decide +kernel)
set_option maxRecDepth 20000 in
theorem gX0_multiple_X0_opposite : GoodIn wsX0_multiple (wsV RX0 63 RX0 yX0_opposite wsX0_opposite) := goodIn_app (goodIn_of _ (by decide +kernel)) ggX0_multiple_X0_opposite
set_option maxRecDepth 20000 in
theorem ggX0_multiple_X0_sum : GoodIn wsX0_multiple wsX0_sum := goodIn_r _ [17, 6, 18, 10, 8, 11, 7, 9, 19, 20, 21, 22, 12, 13, 23, 24, 25, 26, 27, 28, 29, 30, 31, 32, 33, 34] (by decide +kernel) (by decide +kernel)
set_option maxRecDepth 20000 in
theorem gX0_multiple_X0_sum : GoodIn wsX0_multiple (wsV RX0 66 RX0 yX0_sum wsX0_sum) := goodIn_app (goodIn_of _ (by decide +kernel)) ggX0_multiple_X0_sum
theorem dX0_multiple_0 : decode cX0_multiple 0 = .ok (.iconst (-1), 1) := by decide +kernel
theorem dX0_multiple_1 : decode cX0_multiple 1 = .ok (.istore 4, 2) := by decide +kernel
theorem dX0_multiple_3 : decode cX0_multiple 3 = .ok (.lload_n 2, 1) := by decide +kernel
theorem dX0_multiple_4 : decode cX0_multiple 4 = .ok (.lconst 0, 1) := by decide +kernel
theorem dX0_multiple_5 : decode cX0_multiple 5 = .ok (.lcmp, 1) := by decide +kernel
theorem dX0_multiple_6 : decode cX0_multiple 6 = .ok (.ifCond .ge 11, 3) := by decide +kernel
theorem dX0_multiple_9 : decode cX0_multiple 9 = .ok (.aload_n 0, 1) := by decide +kernel
theorem dX0_multiple_10 : decode cX0_multiple 10 = .ok (.iload_n 1, 1) := by decide +kernel
theorem dX0_multiple_11 : decode cX0_multiple 11 = .ok (.invokevirtual 63, 3) := by decide +kernel
theorem dX0_multiple_14 : decode cX0_multiple 14 = .ok (.goto 4, 3) := by decide +kernel
theorem dX0_multiple_17 : decode cX0_multiple 17 = .ok (.iload_n 1, 1) := by decide +kernel
theorem dX0_multiple_18 : decode cX0_multiple 18 = .ok (.istore 5, 2) := by decide +kernel
theorem dX0_multiple_20 : decode cX0_multiple 20 = .ok (.lload_n 2, 1) := by decide +kernel
theorem dX0_multiple_21 : decode cX0_multiple 21 = .ok (.lconst 0, 1) := by decide +kernel
theorem dX0_multiple_22 : decode cX0_multiple 22 = .ok (.lcmp, 1) := by decide +kernel
theorem dX0_multiple_23 : decode cX0_multiple 23 = .ok (.ifCond .ge 8, 3) := by decide +kernel
theorem dX0_multiple_26 : decode cX0_multiple 26 = .ok (.lload_n 2, 1) := by decide +kernel
theorem dX0_multiple_27 : decode cX0_multiple 27 = .ok (.lneg, 1) := by decide +kernel
theorem dX0_multiple_28 : decode cX0_multiple 28 = .ok (.goto 4, 3) := by decide +kernel
theorem dX0_multiple_31 : decode cX0_multiple 31 = .ok (.lload_n 2, 1) := by decide +kernel
theorem dX0_multiple_32 : decode cX0_multiple 32 = .ok (.lstore 6, 2) := by decide +kernel
theorem dX0_multiple_34 : decode cX0_multiple 34 = .ok (.iconst 0, 1) := by decide +kernel
theorem dX0_multiple_35 : decode cX0_multiple 35 = .ok (.istore 8, 2) := by decide +kernel
theorem dX0_multiple_37 : decode cX0_multiple 37 = .ok (.iload 8, 2) := by decide +kernel
theorem dX0_multiple_39 : decode cX0_multiple 39 = .ok (.bipush 64, 2) := by decide +kernel
theorem dX0_multiple_41 : decode cX0_multiple 41 = .ok (.if_icmp .ge 64, 3) := by decide +kernel
theorem dX0_multiple_44 : decode cX0_multiple 44 = .ok (.lload 6, 2) := by decide +kernel
theorem dX0_multiple_46 : decode cX0_multiple 46 = .ok (.lconst 0, 1) := by decide +kernel
theorem dX0_multiple_47 : decode cX0_multiple 47 = .ok (.lcmp, 1) := by decide +kernel
theorem dX0_multiple_48 : decode cX0_multiple 48 = .ok (.ifCond .eq 57, 3) := by decide +kernel
theorem dX0_multiple_51 : decode cX0_multiple 51 = .ok (.iload 5, 2) := by decide +kernel
theorem dX0_multiple_53 : decode cX0_multiple 53 = .ok (.iconst (-1), 1) := by decide +kernel
theorem dX0_multiple_54 : decode cX0_multiple 54 = .ok (.if_icmp .eq 51, 3) := by decide +kernel
theorem dX0_multiple_57 : decode cX0_multiple 57 = .ok (.lload 6, 2) := by decide +kernel
theorem dX0_multiple_59 : decode cX0_multiple 59 = .ok (.lconst 1, 1) := by decide +kernel
theorem dX0_multiple_60 : decode cX0_multiple 60 = .ok (.land, 1) := by decide +kernel
theorem dX0_multiple_61 : decode cX0_multiple 61 = .ok (.lconst 1, 1) := by decide +kernel
theorem dX0_multiple_62 : decode cX0_multiple 62 = .ok (.lcmp, 1) := by decide +kernel
theorem dX0_multiple_63 : decode cX0_multiple 63 = .ok (.ifCond .ne 13, 3) := by decide +kernel
theorem dX0_multiple_66 : decode cX0_multiple 66 = .ok (.aload_n 0, 1) := by decide +kernel
theorem dX0_multiple_67 : decode cX0_multiple 67 = .ok (.iload 4, 2) := by decide +kernel
theorem dX0_multiple_69 : decode cX0_multiple 69 = .ok (.iload 5, 2) := by decide +kernel
theorem dX0_multiple_71 : decode cX0_multiple 71 = .ok (.invokevirtual 66, 3) := by decide +kernel
theorem dX0_multiple_74 : decode cX0_multiple 74 = .ok (.istore 4, 2) := by decide +kernel
theorem dX0_multiple_76 : decode cX0_multiple 76 = .ok (.lload 6, 2) := by decide +kernel
theorem dX0_multiple_78 : decode cX0_multiple 78 = .ok (.iconst 1, 1) := by decide +kernel
theorem dX0_multiple_79 : decode cX0_multiple 79 = .ok (.lushr, 1) := by decide +kernel
theorem dX0_multiple_80 : decode cX0_multiple 80 = .ok (.lstore 6, 2) := by decide +kernel
theorem dX0_multiple_82 : decode cX0_multiple 82 = .ok (.lload 6, 2) := by decide +kernel
theorem dX0_multiple_84 : decode cX0_multiple 84 = .ok (.lconst 0, 1) := by decide +kernel
theorem dX0_multiple_85 : decode cX0_multiple 85 = .ok (.lcmp, 1) := by decide +kernel
theorem dX0_multiple_86 : decode cX0_multiple 86 = .ok (.ifCond .eq 13, 3) := by decide +kernel
theorem dX0_multiple_89 : decode cX0_multiple 89 = .ok (.aload_n 0, 1) := by decide +kernel
theorem dX0_multiple_90 : decode cX0_multiple 90 = .ok (.iload 5, 2) := by decide +kernel
theorem dX0_multiple_92 : decode cX0_multiple 92 = .ok (.iload 5, 2) := by decide +kernel
theorem dX0_multiple_94 : decode cX0_multiple 94 = .ok (.invokevirtual 66, 3) := by decide +kernel
theorem dX0_multiple_97 : decode cX0_multiple 97 = .ok (.istore 5, 2) := by decide +kernel
theorem dX0_multiple_99 : decode cX0_multiple 99 = .ok (.iinc 8 1, 3) := by decide +kernel
theorem dX0_multiple_102 : decode cX0_multiple 102 = .ok (.goto (-65), 3) := by decide +kernel
theorem dX0_multiple_105 : decode cX0_multiple 105 = .ok (.iload 4, 2) := by decide +kernel
theorem dX0_multiple_107 : decode cX0_multiple 107 = .ok (.ireturn, 1) := by decide +kernel
set_option maxRecDepth 20000 in
theorem ggX0_orderWithin_X4_leastFactor : GoodIn wsX0_orderWithin wsX4_leastFactor := goodIn_r _ [4] (by decide +kernel) (by decide +kernel)
set_option maxRecDepth 20000 in
theorem gX0_orderWithin_X4_leastFactor : GoodIn wsX0_orderWithin (va_wsS RX0 69 yX4_leastFactor wsX4_leastFactor) := goodIn_app (goodIn_of _ (by decide +kernel)) ggX0_orderWithin_X4_leastFactor
set_option maxRecDepth 20000 in
theorem ggX0_orderWithin_X0_multiple : GoodIn wsX0_orderWithin wsX0_multiple := goodIn_r _ [9, 10, 11, 12, 8, 13, 14, 15, 16, 17, 18, 19, 20, 21, 22, 23, 24, 25, 26, 27, 28, 3, 29, 30, 31, 32, 33, 34, 35, 36, 37, 38, 39, 40, 41] (by decide +kernel) (by decide +kernel)
set_option maxRecDepth 20000 in
theorem gX0_orderWithin_X0_multiple : GoodIn wsX0_orderWithin (wsV RX0 72 RX0 yX0_multiple wsX0_multiple) := goodIn_app (goodIn_of _ (by decide +kernel)) ggX0_orderWithin_X0_multiple
theorem dX0_orderWithin_0 : decode cX0_orderWithin 0 = .ok (.iload_n 2, 1) := by decide +kernel
theorem dX0_orderWithin_1 : decode cX0_orderWithin 1 = .ok (.istore_n 3, 1) := by decide +kernel
theorem dX0_orderWithin_2 : decode cX0_orderWithin 2 = .ok (.iload_n 2, 1) := by decide +kernel
theorem dX0_orderWithin_3 : decode cX0_orderWithin 3 = .ok (.istore 4, 2) := by decide +kernel
theorem dX0_orderWithin_5 : decode cX0_orderWithin 5 = .ok (.iconst 0, 1) := by decide +kernel
theorem dX0_orderWithin_6 : decode cX0_orderWithin 6 = .ok (.istore 5, 2) := by decide +kernel
theorem dX0_orderWithin_8 : decode cX0_orderWithin 8 = .ok (.iload 5, 2) := by decide +kernel
theorem dX0_orderWithin_10 : decode cX0_orderWithin 10 = .ok (.bipush 32, 2) := by decide +kernel
theorem dX0_orderWithin_12 : decode cX0_orderWithin 12 = .ok (.if_icmp .ge 48, 3) := by decide +kernel
theorem dX0_orderWithin_15 : decode cX0_orderWithin 15 = .ok (.iload 4, 2) := by decide +kernel
theorem dX0_orderWithin_17 : decode cX0_orderWithin 17 = .ok (.iconst 1, 1) := by decide +kernel
theorem dX0_orderWithin_18 : decode cX0_orderWithin 18 = .ok (.if_icmp .le 42, 3) := by decide +kernel
theorem dX0_orderWithin_21 : decode cX0_orderWithin 21 = .ok (.iload 4, 2) := by decide +kernel
theorem dX0_orderWithin_23 : decode cX0_orderWithin 23 = .ok (.invokestatic 69, 3) := by decide +kernel
theorem dX0_orderWithin_26 : decode cX0_orderWithin 26 = .ok (.istore 6, 2) := by decide +kernel
theorem dX0_orderWithin_28 : decode cX0_orderWithin 28 = .ok (.iload 4, 2) := by decide +kernel
theorem dX0_orderWithin_30 : decode cX0_orderWithin 30 = .ok (.iload 6, 2) := by decide +kernel
theorem dX0_orderWithin_32 : decode cX0_orderWithin 32 = .ok (.idiv, 1) := by decide +kernel
theorem dX0_orderWithin_33 : decode cX0_orderWithin 33 = .ok (.istore 4, 2) := by decide +kernel
theorem dX0_orderWithin_35 : decode cX0_orderWithin 35 = .ok (.aload_n 0, 1) := by decide +kernel
theorem dX0_orderWithin_36 : decode cX0_orderWithin 36 = .ok (.iload_n 1, 1) := by decide +kernel
theorem dX0_orderWithin_37 : decode cX0_orderWithin 37 = .ok (.iload_n 3, 1) := by decide +kernel
theorem dX0_orderWithin_38 : decode cX0_orderWithin 38 = .ok (.iload 6, 2) := by decide +kernel
theorem dX0_orderWithin_40 : decode cX0_orderWithin 40 = .ok (.idiv, 1) := by decide +kernel
theorem dX0_orderWithin_41 : decode cX0_orderWithin 41 = .ok (.i2l, 1) := by decide +kernel
theorem dX0_orderWithin_42 : decode cX0_orderWithin 42 = .ok (.invokevirtual 72, 3) := by decide +kernel
theorem dX0_orderWithin_45 : decode cX0_orderWithin 45 = .ok (.iconst (-1), 1) := by decide +kernel
theorem dX0_orderWithin_46 : decode cX0_orderWithin 46 = .ok (.if_icmp .ne 8, 3) := by decide +kernel
theorem dX0_orderWithin_49 : decode cX0_orderWithin 49 = .ok (.iload_n 3, 1) := by decide +kernel
theorem dX0_orderWithin_50 : decode cX0_orderWithin 50 = .ok (.iload 6, 2) := by decide +kernel
theorem dX0_orderWithin_52 : decode cX0_orderWithin 52 = .ok (.idiv, 1) := by decide +kernel
theorem dX0_orderWithin_53 : decode cX0_orderWithin 53 = .ok (.istore_n 3, 1) := by decide +kernel
theorem dX0_orderWithin_54 : decode cX0_orderWithin 54 = .ok (.iinc 5 1, 3) := by decide +kernel
theorem dX0_orderWithin_57 : decode cX0_orderWithin 57 = .ok (.goto (-49), 3) := by decide +kernel
theorem dX0_orderWithin_60 : decode cX0_orderWithin 60 = .ok (.iload_n 3, 1) := by decide +kernel
theorem dX0_orderWithin_61 : decode cX0_orderWithin 61 = .ok (.ireturn, 1) := by decide +kernel
set_option maxRecDepth 20000 in
theorem ggX0_manyKilledBy_X4_commonPart : GoodIn wsX0_manyKilledBy wsX4_commonPart := goodIn_r _ [6] (by decide +kernel) (by decide +kernel)
set_option maxRecDepth 20000 in
theorem gX0_manyKilledBy_X4_commonPart : GoodIn wsX0_manyKilledBy (va_wsS RX0 51 yX4_commonPart wsX4_commonPart) := goodIn_app (goodIn_of _ (by decide +kernel)) ggX0_manyKilledBy_X4_commonPart
theorem dX0_manyKilledBy_0 : decode cX0_manyKilledBy 0 = .ok (.iload_n 1, 1) := by decide +kernel
theorem dX0_manyKilledBy_1 : decode cX0_manyKilledBy 1 = .ok (.aload_n 0, 1) := by decide +kernel
theorem dX0_manyKilledBy_2 : decode cX0_manyKilledBy 2 = .ok (.getfield 76, 3) := by decide +kernel
theorem dX0_manyKilledBy_5 : decode cX0_manyKilledBy 5 = .ok (.invokestatic 51, 3) := by decide +kernel
theorem dX0_manyKilledBy_8 : decode cX0_manyKilledBy 8 = .ok (.iload_n 1, 1) := by decide +kernel
theorem dX0_manyKilledBy_9 : decode cX0_manyKilledBy 9 = .ok (.aload_n 0, 1) := by decide +kernel
theorem dX0_manyKilledBy_10 : decode cX0_manyKilledBy 10 = .ok (.getfield 79, 3) := by decide +kernel
theorem dX0_manyKilledBy_13 : decode cX0_manyKilledBy 13 = .ok (.invokestatic 51, 3) := by decide +kernel
theorem dX0_manyKilledBy_16 : decode cX0_manyKilledBy 16 = .ok (.imul, 1) := by decide +kernel
theorem dX0_manyKilledBy_17 : decode cX0_manyKilledBy 17 = .ok (.ireturn, 1) := by decide +kernel
set_option maxRecDepth 20000 in
theorem ggX0_manyOfOrder_X4_leastFactor : GoodIn wsX0_manyOfOrder wsX4_leastFactor := goodIn_r _ [5] (by decide +kernel) (by decide +kernel)
set_option maxRecDepth 20000 in
theorem gX0_manyOfOrder_X4_leastFactor : GoodIn wsX0_manyOfOrder (va_wsS RX0 69 yX4_leastFactor wsX4_leastFactor) := goodIn_app (goodIn_of _ (by decide +kernel)) ggX0_manyOfOrder_X4_leastFactor
set_option maxRecDepth 20000 in
theorem ggX0_manyOfOrder_X4_partOf : GoodIn wsX0_manyOfOrder wsX4_partOf := goodIn_r _ [8] (by decide +kernel) (by decide +kernel)
set_option maxRecDepth 20000 in
theorem gX0_manyOfOrder_X4_partOf : GoodIn wsX0_manyOfOrder (va_wsS RX0 82 yX4_partOf wsX4_partOf) := goodIn_app (goodIn_of _ (by decide +kernel)) ggX0_manyOfOrder_X4_partOf
set_option maxRecDepth 20000 in
theorem ggX0_manyOfOrder_X0_manyKilledBy : GoodIn wsX0_manyOfOrder wsX0_manyKilledBy := goodIn_r _ [13, 14, 1, 15, 16, 4, 17, 18, 19, 20, 21, 22, 23, 24, 25, 26, 27, 28, 29] (by decide +kernel) (by decide +kernel)
set_option maxRecDepth 20000 in
theorem gX0_manyOfOrder_X0_manyKilledBy : GoodIn wsX0_manyOfOrder (wsV RX0 85 RX0 yX0_manyKilledBy wsX0_manyKilledBy) := goodIn_app (goodIn_of _ (by decide +kernel)) ggX0_manyOfOrder_X0_manyKilledBy
theorem dX0_manyOfOrder_0 : decode cX0_manyOfOrder 0 = .ok (.iload_n 1, 1) := by decide +kernel
theorem dX0_manyOfOrder_1 : decode cX0_manyOfOrder 1 = .ok (.aload_n 0, 1) := by decide +kernel
theorem dX0_manyOfOrder_2 : decode cX0_manyOfOrder 2 = .ok (.getfield 79, 3) := by decide +kernel
theorem dX0_manyOfOrder_5 : decode cX0_manyOfOrder 5 = .ok (.if_icmp .le 5, 3) := by decide +kernel
theorem dX0_manyOfOrder_8 : decode cX0_manyOfOrder 8 = .ok (.iconst 0, 1) := by decide +kernel
theorem dX0_manyOfOrder_9 : decode cX0_manyOfOrder 9 = .ok (.ireturn, 1) := by decide +kernel
theorem dX0_manyOfOrder_10 : decode cX0_manyOfOrder 10 = .ok (.iconst 1, 1) := by decide +kernel
theorem dX0_manyOfOrder_11 : decode cX0_manyOfOrder 11 = .ok (.istore_n 2, 1) := by decide +kernel
theorem dX0_manyOfOrder_12 : decode cX0_manyOfOrder 12 = .ok (.iload_n 1, 1) := by decide +kernel
theorem dX0_manyOfOrder_13 : decode cX0_manyOfOrder 13 = .ok (.istore_n 3, 1) := by decide +kernel
theorem dX0_manyOfOrder_14 : decode cX0_manyOfOrder 14 = .ok (.iconst 0, 1) := by decide +kernel
theorem dX0_manyOfOrder_15 : decode cX0_manyOfOrder 15 = .ok (.istore 4, 2) := by decide +kernel
theorem dX0_manyOfOrder_17 : decode cX0_manyOfOrder 17 = .ok (.iload 4, 2) := by decide +kernel
theorem dX0_manyOfOrder_19 : decode cX0_manyOfOrder 19 = .ok (.bipush 32, 2) := by decide +kernel
theorem dX0_manyOfOrder_21 : decode cX0_manyOfOrder 21 = .ok (.if_icmp .ge 52, 3) := by decide +kernel
theorem dX0_manyOfOrder_24 : decode cX0_manyOfOrder 24 = .ok (.iload_n 3, 1) := by decide +kernel
theorem dX0_manyOfOrder_25 : decode cX0_manyOfOrder 25 = .ok (.iconst 1, 1) := by decide +kernel
theorem dX0_manyOfOrder_26 : decode cX0_manyOfOrder 26 = .ok (.if_icmp .le 47, 3) := by decide +kernel
theorem dX0_manyOfOrder_29 : decode cX0_manyOfOrder 29 = .ok (.iload_n 3, 1) := by decide +kernel
theorem dX0_manyOfOrder_30 : decode cX0_manyOfOrder 30 = .ok (.invokestatic 69, 3) := by decide +kernel
theorem dX0_manyOfOrder_33 : decode cX0_manyOfOrder 33 = .ok (.istore 5, 2) := by decide +kernel
theorem dX0_manyOfOrder_35 : decode cX0_manyOfOrder 35 = .ok (.iload_n 3, 1) := by decide +kernel
theorem dX0_manyOfOrder_36 : decode cX0_manyOfOrder 36 = .ok (.iload 5, 2) := by decide +kernel
theorem dX0_manyOfOrder_38 : decode cX0_manyOfOrder 38 = .ok (.invokestatic 82, 3) := by decide +kernel
theorem dX0_manyOfOrder_41 : decode cX0_manyOfOrder 41 = .ok (.istore 6, 2) := by decide +kernel
theorem dX0_manyOfOrder_43 : decode cX0_manyOfOrder 43 = .ok (.iload_n 3, 1) := by decide +kernel
theorem dX0_manyOfOrder_44 : decode cX0_manyOfOrder 44 = .ok (.iload 6, 2) := by decide +kernel
theorem dX0_manyOfOrder_46 : decode cX0_manyOfOrder 46 = .ok (.idiv, 1) := by decide +kernel
theorem dX0_manyOfOrder_47 : decode cX0_manyOfOrder 47 = .ok (.istore_n 3, 1) := by decide +kernel
theorem dX0_manyOfOrder_48 : decode cX0_manyOfOrder 48 = .ok (.iload_n 2, 1) := by decide +kernel
theorem dX0_manyOfOrder_49 : decode cX0_manyOfOrder 49 = .ok (.aload_n 0, 1) := by decide +kernel
theorem dX0_manyOfOrder_50 : decode cX0_manyOfOrder 50 = .ok (.iload 6, 2) := by decide +kernel
theorem dX0_manyOfOrder_52 : decode cX0_manyOfOrder 52 = .ok (.invokevirtual 85, 3) := by decide +kernel
theorem dX0_manyOfOrder_55 : decode cX0_manyOfOrder 55 = .ok (.aload_n 0, 1) := by decide +kernel
theorem dX0_manyOfOrder_56 : decode cX0_manyOfOrder 56 = .ok (.iload 6, 2) := by decide +kernel
theorem dX0_manyOfOrder_58 : decode cX0_manyOfOrder 58 = .ok (.iload 5, 2) := by decide +kernel
theorem dX0_manyOfOrder_60 : decode cX0_manyOfOrder 60 = .ok (.idiv, 1) := by decide +kernel
theorem dX0_manyOfOrder_61 : decode cX0_manyOfOrder 61 = .ok (.invokevirtual 85, 3) := by decide +kernel
theorem dX0_manyOfOrder_64 : decode cX0_manyOfOrder 64 = .ok (.isub, 1) := by decide +kernel
theorem dX0_manyOfOrder_65 : decode cX0_manyOfOrder 65 = .ok (.imul, 1) := by decide +kernel
theorem dX0_manyOfOrder_66 : decode cX0_manyOfOrder 66 = .ok (.istore_n 2, 1) := by decide +kernel
theorem dX0_manyOfOrder_67 : decode cX0_manyOfOrder 67 = .ok (.iinc 4 1, 3) := by decide +kernel
theorem dX0_manyOfOrder_70 : decode cX0_manyOfOrder 70 = .ok (.goto (-53), 3) := by decide +kernel
theorem dX0_manyOfOrder_73 : decode cX0_manyOfOrder 73 = .ok (.iload_n 2, 1) := by decide +kernel
theorem dX0_manyOfOrder_74 : decode cX0_manyOfOrder 74 = .ok (.ireturn, 1) := by decide +kernel
set_option maxRecDepth 20000 in
theorem ggX0_isProvedBy_X4_reachOf : GoodIn wsX0_isProvedBy wsX4_reachOf := goodIn_r _ [5] (by decide +kernel) (by decide +kernel)
set_option maxRecDepth 20000 in
theorem gX0_isProvedBy_X4_reachOf : GoodIn wsX0_isProvedBy (va_wsS RX0 88 yX4_reachOf wsX4_reachOf) := goodIn_app (goodIn_of _ (by decide +kernel)) ggX0_isProvedBy_X4_reachOf
theorem dX0_isProvedBy_0 : decode cX0_isProvedBy 0 = .ok (.iload_n 1, 1) := by decide +kernel
theorem dX0_isProvedBy_1 : decode cX0_isProvedBy 1 = .ok (.iconst 1, 1) := by decide +kernel
theorem dX0_isProvedBy_2 : decode cX0_isProvedBy 2 = .ok (.if_icmp .ge 5, 3) := by decide +kernel
theorem dX0_isProvedBy_5 : decode cX0_isProvedBy 5 = .ok (.iconst 0, 1) := by decide +kernel
theorem dX0_isProvedBy_6 : decode cX0_isProvedBy 6 = .ok (.ireturn, 1) := by decide +kernel
theorem dX0_isProvedBy_7 : decode cX0_isProvedBy 7 = .ok (.aload_n 0, 1) := by decide +kernel
theorem dX0_isProvedBy_8 : decode cX0_isProvedBy 8 = .ok (.getfield 9, 3) := by decide +kernel
theorem dX0_isProvedBy_11 : decode cX0_isProvedBy 11 = .ok (.invokestatic 88, 3) := by decide +kernel
theorem dX0_isProvedBy_14 : decode cX0_isProvedBy 14 = .ok (.istore_n 2, 1) := by decide +kernel
theorem dX0_isProvedBy_15 : decode cX0_isProvedBy 15 = .ok (.aload_n 0, 1) := by decide +kernel
theorem dX0_isProvedBy_16 : decode cX0_isProvedBy 16 = .ok (.getfield 9, 3) := by decide +kernel
theorem dX0_isProvedBy_19 : decode cX0_isProvedBy 19 = .ok (.iconst 1, 1) := by decide +kernel
theorem dX0_isProvedBy_20 : decode cX0_isProvedBy 20 = .ok (.iadd, 1) := by decide +kernel
theorem dX0_isProvedBy_21 : decode cX0_isProvedBy 21 = .ok (.iload_n 2, 1) := by decide +kernel
theorem dX0_isProvedBy_22 : decode cX0_isProvedBy 22 = .ok (.iadd, 1) := by decide +kernel
theorem dX0_isProvedBy_23 : decode cX0_isProvedBy 23 = .ok (.iload_n 1, 1) := by decide +kernel
theorem dX0_isProvedBy_24 : decode cX0_isProvedBy 24 = .ok (.idiv, 1) := by decide +kernel
theorem dX0_isProvedBy_25 : decode cX0_isProvedBy 25 = .ok (.aload_n 0, 1) := by decide +kernel
theorem dX0_isProvedBy_26 : decode cX0_isProvedBy 26 = .ok (.getfield 9, 3) := by decide +kernel
theorem dX0_isProvedBy_29 : decode cX0_isProvedBy 29 = .ok (.iload_n 2, 1) := by decide +kernel
theorem dX0_isProvedBy_30 : decode cX0_isProvedBy 30 = .ok (.isub, 1) := by decide +kernel
theorem dX0_isProvedBy_31 : decode cX0_isProvedBy 31 = .ok (.iload_n 1, 1) := by decide +kernel
theorem dX0_isProvedBy_32 : decode cX0_isProvedBy 32 = .ok (.idiv, 1) := by decide +kernel
theorem dX0_isProvedBy_33 : decode cX0_isProvedBy 33 = .ok (.isub, 1) := by decide +kernel
theorem dX0_isProvedBy_34 : decode cX0_isProvedBy 34 = .ok (.iconst 1, 1) := by decide +kernel
theorem dX0_isProvedBy_35 : decode cX0_isProvedBy 35 = .ok (.if_icmp .ne 7, 3) := by decide +kernel
theorem dX0_isProvedBy_38 : decode cX0_isProvedBy 38 = .ok (.iconst 1, 1) := by decide +kernel
theorem dX0_isProvedBy_39 : decode cX0_isProvedBy 39 = .ok (.goto 4, 3) := by decide +kernel
theorem dX0_isProvedBy_42 : decode cX0_isProvedBy 42 = .ok (.iconst 0, 1) := by decide +kernel
theorem dX0_isProvedBy_43 : decode cX0_isProvedBy 43 = .ok (.ireturn, 1) := by decide +kernel
set_option maxRecDepth 20000 in
theorem ggX0_dividedBy_X5_xOf : GoodIn wsX0_dividedBy wsX5_xOf := goodIn_r _ [12] (by decide +kernel) (by decide +kernel)
set_option maxRecDepth 20000 in
theorem gX0_dividedBy_X5_xOf_n27 : GoodIn wsX0_dividedBy (wsX5_xOf) := ggX0_dividedBy_X5_xOf
set_option maxRecDepth 20000 in
theorem ggX0_dividedBy_X0_sum : GoodIn wsX0_dividedBy wsX0_sum := goodIn_r _ [16, 1, 2, 10, 11, 12, 17, 18, 19, 20, 21, 22, 23, 24, 37, 38, 39, 40, 41, 42, 43, 44, 45, 46, 47, 48] (by decide +kernel) (by decide +kernel)
set_option maxRecDepth 20000 in
theorem gX0_dividedBy_X0_sum : GoodIn wsX0_dividedBy (wsV RX0 66 RX0 yX0_sum wsX0_sum) := goodIn_app (goodIn_of _ (by decide +kernel)) ggX0_dividedBy_X0_sum
set_option maxRecDepth 20000 in
theorem ggX0_dividedBy_J9_floorMod_7cf53 : GoodIn wsX0_dividedBy wsJ9_floorMod_7cf53 := goodIn_r _ [28] (by decide +kernel) (by decide +kernel)
set_option maxRecDepth 20000 in
theorem gX0_dividedBy_J9_floorMod_7cf53 : GoodIn wsX0_dividedBy (va_wsS RX0 91 yJ9_floorMod_7cf53 wsJ9_floorMod_7cf53) := goodIn_app (goodIn_of _ (by decide +kernel)) ggX0_dividedBy_J9_floorMod_7cf53
set_option maxRecDepth 20000 in
theorem ggX0_dividedBy_X0_init : GoodIn wsX0_dividedBy wsX0_init := goodIn_r _ [31, 32, 33, 34, 1, 2, 3, 35, 36, 37, 38, 39, 40, 41, 42, 43, 44, 45, 46, 47, 48] (by decide +kernel) (by decide +kernel)
set_option maxRecDepth 20000 in
theorem gX0_dividedBy_X0_init : GoodIn wsX0_dividedBy (wsX0_init) := ggX0_dividedBy_X0_init
theorem dX0_dividedBy_0 : decode cX0_dividedBy 0 = .ok (.iconst 0, 1) := by decide +kernel
theorem dX0_dividedBy_1 : decode cX0_dividedBy 1 = .ok (.istore_n 3, 1) := by decide +kernel
theorem dX0_dividedBy_2 : decode cX0_dividedBy 2 = .ok (.iconst 0, 1) := by decide +kernel
theorem dX0_dividedBy_3 : decode cX0_dividedBy 3 = .ok (.istore 4, 2) := by decide +kernel
theorem dX0_dividedBy_5 : decode cX0_dividedBy 5 = .ok (.iconst 1, 1) := by decide +kernel
theorem dX0_dividedBy_6 : decode cX0_dividedBy 6 = .ok (.istore 5, 2) := by decide +kernel
theorem dX0_dividedBy_8 : decode cX0_dividedBy 8 = .ok (.iload_n 1, 1) := by decide +kernel
theorem dX0_dividedBy_9 : decode cX0_dividedBy 9 = .ok (.istore 6, 2) := by decide +kernel
theorem dX0_dividedBy_11 : decode cX0_dividedBy 11 = .ok (.iload 5, 2) := by decide +kernel
theorem dX0_dividedBy_13 : decode cX0_dividedBy 13 = .ok (.sipush 400, 3) := by decide +kernel
theorem dX0_dividedBy_16 : decode cX0_dividedBy 16 = .ok (.if_icmp .ge 94, 3) := by decide +kernel
theorem dX0_dividedBy_19 : decode cX0_dividedBy 19 = .ok (.iload 6, 2) := by decide +kernel
theorem dX0_dividedBy_21 : decode cX0_dividedBy 21 = .ok (.iconst (-1), 1) := by decide +kernel
theorem dX0_dividedBy_22 : decode cX0_dividedBy 22 = .ok (.if_icmp .eq 88, 3) := by decide +kernel
theorem dX0_dividedBy_25 : decode cX0_dividedBy 25 = .ok (.iload 6, 2) := by decide +kernel
theorem dX0_dividedBy_27 : decode cX0_dividedBy 27 = .ok (.invokestatic 27, 3) := by decide +kernel
theorem dX0_dividedBy_30 : decode cX0_dividedBy 30 = .ok (.istore 7, 2) := by decide +kernel
theorem dX0_dividedBy_32 : decode cX0_dividedBy 32 = .ok (.iload 7, 2) := by decide +kernel
theorem dX0_dividedBy_34 : decode cX0_dividedBy 34 = .ok (.iload 7, 2) := by decide +kernel
theorem dX0_dividedBy_36 : decode cX0_dividedBy 36 = .ok (.imul, 1) := by decide +kernel
theorem dX0_dividedBy_37 : decode cX0_dividedBy 37 = .ok (.aload_n 0, 1) := by decide +kernel
theorem dX0_dividedBy_38 : decode cX0_dividedBy 38 = .ok (.getfield 9, 3) := by decide +kernel
theorem dX0_dividedBy_41 : decode cX0_dividedBy 41 = .ok (.irem, 1) := by decide +kernel
theorem dX0_dividedBy_42 : decode cX0_dividedBy 42 = .ok (.istore 8, 2) := by decide +kernel
theorem dX0_dividedBy_44 : decode cX0_dividedBy 44 = .ok (.iload_n 3, 1) := by decide +kernel
theorem dX0_dividedBy_45 : decode cX0_dividedBy 45 = .ok (.iconst 3, 1) := by decide +kernel
theorem dX0_dividedBy_46 : decode cX0_dividedBy 46 = .ok (.iload 8, 2) := by decide +kernel
theorem dX0_dividedBy_48 : decode cX0_dividedBy 48 = .ok (.imul, 1) := by decide +kernel
theorem dX0_dividedBy_49 : decode cX0_dividedBy 49 = .ok (.iadd, 1) := by decide +kernel
theorem dX0_dividedBy_50 : decode cX0_dividedBy 50 = .ok (.aload_n 0, 1) := by decide +kernel
theorem dX0_dividedBy_51 : decode cX0_dividedBy 51 = .ok (.getfield 15, 3) := by decide +kernel
theorem dX0_dividedBy_54 : decode cX0_dividedBy 54 = .ok (.iadd, 1) := by decide +kernel
theorem dX0_dividedBy_55 : decode cX0_dividedBy 55 = .ok (.aload_n 0, 1) := by decide +kernel
theorem dX0_dividedBy_56 : decode cX0_dividedBy 56 = .ok (.getfield 9, 3) := by decide +kernel
theorem dX0_dividedBy_59 : decode cX0_dividedBy 59 = .ok (.irem, 1) := by decide +kernel
theorem dX0_dividedBy_60 : decode cX0_dividedBy 60 = .ok (.istore_n 3, 1) := by decide +kernel
theorem dX0_dividedBy_61 : decode cX0_dividedBy 61 = .ok (.iload 4, 2) := by decide +kernel
theorem dX0_dividedBy_63 : decode cX0_dividedBy 63 = .ok (.iconst 5, 1) := by decide +kernel
theorem dX0_dividedBy_64 : decode cX0_dividedBy 64 = .ok (.iload 8, 2) := by decide +kernel
theorem dX0_dividedBy_66 : decode cX0_dividedBy 66 = .ok (.imul, 1) := by decide +kernel
theorem dX0_dividedBy_67 : decode cX0_dividedBy 67 = .ok (.iload 7, 2) := by decide +kernel
theorem dX0_dividedBy_69 : decode cX0_dividedBy 69 = .ok (.imul, 1) := by decide +kernel
theorem dX0_dividedBy_70 : decode cX0_dividedBy 70 = .ok (.iadd, 1) := by decide +kernel
theorem dX0_dividedBy_71 : decode cX0_dividedBy 71 = .ok (.iconst 3, 1) := by decide +kernel
theorem dX0_dividedBy_72 : decode cX0_dividedBy 72 = .ok (.aload_n 0, 1) := by decide +kernel
theorem dX0_dividedBy_73 : decode cX0_dividedBy 73 = .ok (.getfield 15, 3) := by decide +kernel
theorem dX0_dividedBy_76 : decode cX0_dividedBy 76 = .ok (.imul, 1) := by decide +kernel
theorem dX0_dividedBy_77 : decode cX0_dividedBy 77 = .ok (.iload 7, 2) := by decide +kernel
theorem dX0_dividedBy_79 : decode cX0_dividedBy 79 = .ok (.imul, 1) := by decide +kernel
theorem dX0_dividedBy_80 : decode cX0_dividedBy 80 = .ok (.iadd, 1) := by decide +kernel
theorem dX0_dividedBy_81 : decode cX0_dividedBy 81 = .ok (.iconst 2, 1) := by decide +kernel
theorem dX0_dividedBy_82 : decode cX0_dividedBy 82 = .ok (.aload_n 0, 1) := by decide +kernel
theorem dX0_dividedBy_83 : decode cX0_dividedBy 83 = .ok (.getfield 18, 3) := by decide +kernel
theorem dX0_dividedBy_86 : decode cX0_dividedBy 86 = .ok (.imul, 1) := by decide +kernel
theorem dX0_dividedBy_87 : decode cX0_dividedBy 87 = .ok (.iadd, 1) := by decide +kernel
theorem dX0_dividedBy_88 : decode cX0_dividedBy 88 = .ok (.aload_n 0, 1) := by decide +kernel
theorem dX0_dividedBy_89 : decode cX0_dividedBy 89 = .ok (.getfield 9, 3) := by decide +kernel
theorem dX0_dividedBy_92 : decode cX0_dividedBy 92 = .ok (.irem, 1) := by decide +kernel
theorem dX0_dividedBy_93 : decode cX0_dividedBy 93 = .ok (.istore 4, 2) := by decide +kernel
theorem dX0_dividedBy_95 : decode cX0_dividedBy 95 = .ok (.aload_n 0, 1) := by decide +kernel
theorem dX0_dividedBy_96 : decode cX0_dividedBy 96 = .ok (.iload 6, 2) := by decide +kernel
theorem dX0_dividedBy_98 : decode cX0_dividedBy 98 = .ok (.iload_n 1, 1) := by decide +kernel
theorem dX0_dividedBy_99 : decode cX0_dividedBy 99 = .ok (.invokevirtual 66, 3) := by decide +kernel
theorem dX0_dividedBy_102 : decode cX0_dividedBy 102 = .ok (.istore 6, 2) := by decide +kernel
theorem dX0_dividedBy_104 : decode cX0_dividedBy 104 = .ok (.iinc 5 1, 3) := by decide +kernel
theorem dX0_dividedBy_107 : decode cX0_dividedBy 107 = .ok (.goto (-96), 3) := by decide +kernel
theorem dX0_dividedBy_110 : decode cX0_dividedBy 110 = .ok (.iload 6, 2) := by decide +kernel
theorem dX0_dividedBy_112 : decode cX0_dividedBy 112 = .ok (.iconst (-1), 1) := by decide +kernel
theorem dX0_dividedBy_113 : decode cX0_dividedBy 113 = .ok (.if_icmp .eq 5, 3) := by decide +kernel
theorem dX0_dividedBy_116 : decode cX0_dividedBy 116 = .ok (.aconst_null, 1) := by decide +kernel
theorem dX0_dividedBy_117 : decode cX0_dividedBy 117 = .ok (.areturn, 1) := by decide +kernel
theorem dX0_dividedBy_118 : decode cX0_dividedBy 118 = .ok (.new 10, 3) := by decide +kernel
theorem dX0_dividedBy_121 : decode cX0_dividedBy 121 = .ok (.dup, 1) := by decide +kernel
theorem dX0_dividedBy_122 : decode cX0_dividedBy 122 = .ok (.aload_n 0, 1) := by decide +kernel
theorem dX0_dividedBy_123 : decode cX0_dividedBy 123 = .ok (.getfield 9, 3) := by decide +kernel
theorem dX0_dividedBy_126 : decode cX0_dividedBy 126 = .ok (.aload_n 0, 1) := by decide +kernel
theorem dX0_dividedBy_127 : decode cX0_dividedBy 127 = .ok (.getfield 15, 3) := by decide +kernel
theorem dX0_dividedBy_130 : decode cX0_dividedBy 130 = .ok (.iconst 5, 1) := by decide +kernel
theorem dX0_dividedBy_131 : decode cX0_dividedBy 131 = .ok (.iload_n 3, 1) := by decide +kernel
theorem dX0_dividedBy_132 : decode cX0_dividedBy 132 = .ok (.imul, 1) := by decide +kernel
theorem dX0_dividedBy_133 : decode cX0_dividedBy 133 = .ok (.isub, 1) := by decide +kernel
theorem dX0_dividedBy_134 : decode cX0_dividedBy 134 = .ok (.aload_n 0, 1) := by decide +kernel
theorem dX0_dividedBy_135 : decode cX0_dividedBy 135 = .ok (.getfield 9, 3) := by decide +kernel
theorem dX0_dividedBy_138 : decode cX0_dividedBy 138 = .ok (.invokestatic 91, 3) := by decide +kernel
theorem dX0_dividedBy_141 : decode cX0_dividedBy 141 = .ok (.aload_n 0, 1) := by decide +kernel
theorem dX0_dividedBy_142 : decode cX0_dividedBy 142 = .ok (.getfield 18, 3) := by decide +kernel
theorem dX0_dividedBy_145 : decode cX0_dividedBy 145 = .ok (.bipush 7, 2) := by decide +kernel
theorem dX0_dividedBy_147 : decode cX0_dividedBy 147 = .ok (.iload 4, 2) := by decide +kernel
theorem dX0_dividedBy_149 : decode cX0_dividedBy 149 = .ok (.imul, 1) := by decide +kernel
theorem dX0_dividedBy_150 : decode cX0_dividedBy 150 = .ok (.isub, 1) := by decide +kernel
theorem dX0_dividedBy_151 : decode cX0_dividedBy 151 = .ok (.aload_n 0, 1) := by decide +kernel
theorem dX0_dividedBy_152 : decode cX0_dividedBy 152 = .ok (.getfield 9, 3) := by decide +kernel
theorem dX0_dividedBy_155 : decode cX0_dividedBy 155 = .ok (.invokestatic 91, 3) := by decide +kernel
theorem dX0_dividedBy_158 : decode cX0_dividedBy 158 = .ok (.invokespecial 57, 3) := by decide +kernel
theorem dX0_dividedBy_161 : decode cX0_dividedBy 161 = .ok (.astore 7, 2) := by decide +kernel
theorem dX0_dividedBy_163 : decode cX0_dividedBy 163 = .ok (.aload 7, 2) := by decide +kernel
theorem dX0_dividedBy_165 : decode cX0_dividedBy 165 = .ok (.iload_n 2, 1) := by decide +kernel
theorem dX0_dividedBy_166 : decode cX0_dividedBy 166 = .ok (.putfield 96, 3) := by decide +kernel
theorem dX0_dividedBy_169 : decode cX0_dividedBy 169 = .ok (.aload 7, 2) := by decide +kernel
theorem dX0_dividedBy_171 : decode cX0_dividedBy 171 = .ok (.iload_n 1, 1) := by decide +kernel
theorem dX0_dividedBy_172 : decode cX0_dividedBy 172 = .ok (.putfield 99, 3) := by decide +kernel
theorem dX0_dividedBy_175 : decode cX0_dividedBy 175 = .ok (.aload 7, 2) := by decide +kernel
theorem dX0_dividedBy_177 : decode cX0_dividedBy 177 = .ok (.iload 5, 2) := by decide +kernel
theorem dX0_dividedBy_179 : decode cX0_dividedBy 179 = .ok (.putfield 102, 3) := by decide +kernel
theorem dX0_dividedBy_182 : decode cX0_dividedBy 182 = .ok (.aload 7, 2) := by decide +kernel
theorem dX0_dividedBy_184 : decode cX0_dividedBy 184 = .ok (.areturn, 1) := by decide +kernel
set_option maxRecDepth 20000 in
theorem ggX0_imageOf_X5_xOf : GoodIn wsX0_imageOf wsX5_xOf := goodIn_r _ [4] (by decide +kernel) (by decide +kernel)
set_option maxRecDepth 20000 in
theorem gX0_imageOf_X5_xOf_n27 : GoodIn wsX0_imageOf (wsX5_xOf) := ggX0_imageOf_X5_xOf
set_option maxRecDepth 20000 in
theorem ggX0_imageOf_X5_yOf : GoodIn wsX0_imageOf wsX5_yOf := goodIn_r _ [6] (by decide +kernel) (by decide +kernel)
set_option maxRecDepth 20000 in
theorem gX0_imageOf_X5_yOf_n31 : GoodIn wsX0_imageOf (wsX5_yOf) := ggX0_imageOf_X5_yOf
set_option maxRecDepth 20000 in
theorem ggX0_imageOf_X0_sum : GoodIn wsX0_imageOf wsX0_sum := goodIn_r _ [11, 1, 12, 2, 3, 4, 5, 6, 13, 14, 15, 16, 17, 18, 23, 24, 25, 26, 27, 28, 29, 30, 31, 32, 33, 34] (by decide +kernel) (by decide +kernel)
set_option maxRecDepth 20000 in
theorem gX0_imageOf_X0_sum : GoodIn wsX0_imageOf (wsV RX0 66 RX0 yX0_sum wsX0_sum) := goodIn_app (goodIn_of _ (by decide +kernel)) ggX0_imageOf_X0_sum
set_option maxRecDepth 20000 in
theorem ggX0_imageOf_J9_floorMod_7cf53 : GoodIn wsX0_imageOf wsJ9_floorMod_7cf53 := goodIn_r _ [22] (by decide +kernel) (by decide +kernel)
set_option maxRecDepth 20000 in
theorem gX0_imageOf_J9_floorMod_7cf53 : GoodIn wsX0_imageOf (va_wsS RX0 91 yJ9_floorMod_7cf53 wsJ9_floorMod_7cf53) := goodIn_app (goodIn_of _ (by decide +kernel)) ggX0_imageOf_J9_floorMod_7cf53
set_option maxRecDepth 20000 in
theorem ggX0_imageOf_X5_pair : GoodIn wsX0_imageOf wsX5_pair := goodIn_r _ [18] (by decide +kernel) (by decide +kernel)
set_option maxRecDepth 20000 in
theorem gX0_imageOf_X5_pair_n60 : GoodIn wsX0_imageOf (wsX5_pair) := ggX0_imageOf_X5_pair
theorem dX0_imageOf_0 : decode cX0_imageOf 0 = .ok (.iload_n 1, 1) := by decide +kernel
theorem dX0_imageOf_1 : decode cX0_imageOf 1 = .ok (.iconst (-1), 1) := by decide +kernel
theorem dX0_imageOf_2 : decode cX0_imageOf 2 = .ok (.if_icmp .ne 5, 3) := by decide +kernel
theorem dX0_imageOf_5 : decode cX0_imageOf 5 = .ok (.iconst (-1), 1) := by decide +kernel
theorem dX0_imageOf_6 : decode cX0_imageOf 6 = .ok (.ireturn, 1) := by decide +kernel
theorem dX0_imageOf_7 : decode cX0_imageOf 7 = .ok (.iload_n 1, 1) := by decide +kernel
theorem dX0_imageOf_8 : decode cX0_imageOf 8 = .ok (.invokestatic 27, 3) := by decide +kernel
theorem dX0_imageOf_11 : decode cX0_imageOf 11 = .ok (.istore 4, 2) := by decide +kernel
theorem dX0_imageOf_13 : decode cX0_imageOf 13 = .ok (.iload_n 1, 1) := by decide +kernel
theorem dX0_imageOf_14 : decode cX0_imageOf 14 = .ok (.invokestatic 31, 3) := by decide +kernel
theorem dX0_imageOf_17 : decode cX0_imageOf 17 = .ok (.istore 5, 2) := by decide +kernel
theorem dX0_imageOf_19 : decode cX0_imageOf 19 = .ok (.iload_n 2, 1) := by decide +kernel
theorem dX0_imageOf_20 : decode cX0_imageOf 20 = .ok (.istore 6, 2) := by decide +kernel
theorem dX0_imageOf_22 : decode cX0_imageOf 22 = .ok (.iconst 1, 1) := by decide +kernel
theorem dX0_imageOf_23 : decode cX0_imageOf 23 = .ok (.istore 7, 2) := by decide +kernel
theorem dX0_imageOf_25 : decode cX0_imageOf 25 = .ok (.iload 7, 2) := by decide +kernel
theorem dX0_imageOf_27 : decode cX0_imageOf 27 = .ok (.iload_n 3, 1) := by decide +kernel
theorem dX0_imageOf_28 : decode cX0_imageOf 28 = .ok (.if_icmp .ge 67, 3) := by decide +kernel
theorem dX0_imageOf_31 : decode cX0_imageOf 31 = .ok (.aload_n 0, 1) := by decide +kernel
theorem dX0_imageOf_32 : decode cX0_imageOf 32 = .ok (.iload_n 1, 1) := by decide +kernel
theorem dX0_imageOf_33 : decode cX0_imageOf 33 = .ok (.iload 6, 2) := by decide +kernel
theorem dX0_imageOf_35 : decode cX0_imageOf 35 = .ok (.invokevirtual 66, 3) := by decide +kernel
theorem dX0_imageOf_38 : decode cX0_imageOf 38 = .ok (.istore 8, 2) := by decide +kernel
theorem dX0_imageOf_40 : decode cX0_imageOf 40 = .ok (.iload 8, 2) := by decide +kernel
theorem dX0_imageOf_42 : decode cX0_imageOf 42 = .ok (.iconst (-1), 1) := by decide +kernel
theorem dX0_imageOf_43 : decode cX0_imageOf 43 = .ok (.if_icmp .ne 5, 3) := by decide +kernel
theorem dX0_imageOf_46 : decode cX0_imageOf 46 = .ok (.iconst (-1), 1) := by decide +kernel
theorem dX0_imageOf_47 : decode cX0_imageOf 47 = .ok (.ireturn, 1) := by decide +kernel
theorem dX0_imageOf_48 : decode cX0_imageOf 48 = .ok (.iload 4, 2) := by decide +kernel
theorem dX0_imageOf_50 : decode cX0_imageOf 50 = .ok (.iload 8, 2) := by decide +kernel
theorem dX0_imageOf_52 : decode cX0_imageOf 52 = .ok (.invokestatic 27, 3) := by decide +kernel
theorem dX0_imageOf_55 : decode cX0_imageOf 55 = .ok (.iload 6, 2) := by decide +kernel
theorem dX0_imageOf_57 : decode cX0_imageOf 57 = .ok (.invokestatic 27, 3) := by decide +kernel
theorem dX0_imageOf_60 : decode cX0_imageOf 60 = .ok (.isub, 1) := by decide +kernel
theorem dX0_imageOf_61 : decode cX0_imageOf 61 = .ok (.iadd, 1) := by decide +kernel
theorem dX0_imageOf_62 : decode cX0_imageOf 62 = .ok (.istore 4, 2) := by decide +kernel
theorem dX0_imageOf_64 : decode cX0_imageOf 64 = .ok (.iload 5, 2) := by decide +kernel
theorem dX0_imageOf_66 : decode cX0_imageOf 66 = .ok (.iload 8, 2) := by decide +kernel
theorem dX0_imageOf_68 : decode cX0_imageOf 68 = .ok (.invokestatic 31, 3) := by decide +kernel
theorem dX0_imageOf_71 : decode cX0_imageOf 71 = .ok (.iload 6, 2) := by decide +kernel
theorem dX0_imageOf_73 : decode cX0_imageOf 73 = .ok (.invokestatic 31, 3) := by decide +kernel
theorem dX0_imageOf_76 : decode cX0_imageOf 76 = .ok (.isub, 1) := by decide +kernel
theorem dX0_imageOf_77 : decode cX0_imageOf 77 = .ok (.iadd, 1) := by decide +kernel
theorem dX0_imageOf_78 : decode cX0_imageOf 78 = .ok (.istore 5, 2) := by decide +kernel
theorem dX0_imageOf_80 : decode cX0_imageOf 80 = .ok (.aload_n 0, 1) := by decide +kernel
theorem dX0_imageOf_81 : decode cX0_imageOf 81 = .ok (.iload 6, 2) := by decide +kernel
theorem dX0_imageOf_83 : decode cX0_imageOf 83 = .ok (.iload_n 2, 1) := by decide +kernel
theorem dX0_imageOf_84 : decode cX0_imageOf 84 = .ok (.invokevirtual 66, 3) := by decide +kernel
theorem dX0_imageOf_87 : decode cX0_imageOf 87 = .ok (.istore 6, 2) := by decide +kernel
theorem dX0_imageOf_89 : decode cX0_imageOf 89 = .ok (.iinc 7 1, 3) := by decide +kernel
theorem dX0_imageOf_92 : decode cX0_imageOf 92 = .ok (.goto (-67), 3) := by decide +kernel
theorem dX0_imageOf_95 : decode cX0_imageOf 95 = .ok (.iload 4, 2) := by decide +kernel
theorem dX0_imageOf_97 : decode cX0_imageOf 97 = .ok (.aload_n 0, 1) := by decide +kernel
theorem dX0_imageOf_98 : decode cX0_imageOf 98 = .ok (.getfield 9, 3) := by decide +kernel
theorem dX0_imageOf_101 : decode cX0_imageOf 101 = .ok (.invokestatic 91, 3) := by decide +kernel
theorem dX0_imageOf_104 : decode cX0_imageOf 104 = .ok (.iload 5, 2) := by decide +kernel
theorem dX0_imageOf_106 : decode cX0_imageOf 106 = .ok (.aload_n 0, 1) := by decide +kernel
theorem dX0_imageOf_107 : decode cX0_imageOf 107 = .ok (.getfield 9, 3) := by decide +kernel
theorem dX0_imageOf_110 : decode cX0_imageOf 110 = .ok (.invokestatic 91, 3) := by decide +kernel
theorem dX0_imageOf_113 : decode cX0_imageOf 113 = .ok (.invokestatic 60, 3) := by decide +kernel
theorem dX0_imageOf_116 : decode cX0_imageOf 116 = .ok (.ireturn, 1) := by decide +kernel
theorem dX1_init_0 : decode cX1_init 0 = .ok (.aload_n 0, 1) := by decide +kernel
theorem dX1_init_1 : decode cX1_init 1 = .ok (.invokespecial 3, 3) := by decide +kernel
theorem dX1_init_4 : decode cX1_init 4 = .ok (.aload_n 0, 1) := by decide +kernel
theorem dX1_init_5 : decode cX1_init 5 = .ok (.sipush 10007, 3) := by decide +kernel
theorem dX1_init_8 : decode cX1_init 8 = .ok (.newarray .int, 2) := by decide +kernel
theorem dX1_init_10 : decode cX1_init 10 = .ok (.putfield 9, 3) := by decide +kernel
theorem dX1_init_13 : decode cX1_init 13 = .ok (.aload_n 0, 1) := by decide +kernel
theorem dX1_init_14 : decode cX1_init 14 = .ok (.iconst 0, 1) := by decide +kernel
theorem dX1_init_15 : decode cX1_init 15 = .ok (.putfield 15, 3) := by decide +kernel
theorem dX1_init_18 : decode cX1_init 18 = .ok (.return_, 1) := by decide +kernel
set_option maxRecDepth 20000 in
theorem ggX1_leastRoot_X1_lay : GoodIn wsX1_leastRoot wsX1_lay := goodIn_r _ [7, 2, 1, 8, 9] (by decide +kernel) (by decide +kernel)
set_option maxRecDepth 20000 in
theorem gX1_leastRoot_X1_lay : GoodIn wsX1_leastRoot (wsV RX1 19 RX1 yX1_lay wsX1_lay) := goodIn_app (goodIn_of _ (by decide +kernel)) ggX1_leastRoot_X1_lay
theorem dX1_leastRoot_0 : decode cX1_leastRoot 0 = .ok (.iload_n 2, 1) := by decide +kernel
theorem dX1_leastRoot_1 : decode cX1_leastRoot 1 = .ok (.aload_n 0, 1) := by decide +kernel
theorem dX1_leastRoot_2 : decode cX1_leastRoot 2 = .ok (.getfield 15, 3) := by decide +kernel
theorem dX1_leastRoot_5 : decode cX1_leastRoot 5 = .ok (.if_icmp .eq 8, 3) := by decide +kernel
theorem dX1_leastRoot_8 : decode cX1_leastRoot 8 = .ok (.aload_n 0, 1) := by decide +kernel
theorem dX1_leastRoot_9 : decode cX1_leastRoot 9 = .ok (.iload_n 2, 1) := by decide +kernel
theorem dX1_leastRoot_10 : decode cX1_leastRoot 10 = .ok (.invokevirtual 19, 3) := by decide +kernel
theorem dX1_leastRoot_13 : decode cX1_leastRoot 13 = .ok (.iload_n 1, 1) := by decide +kernel
theorem dX1_leastRoot_14 : decode cX1_leastRoot 14 = .ok (.ifCond .lt 20, 3) := by decide +kernel
theorem dX1_leastRoot_17 : decode cX1_leastRoot 17 = .ok (.iload_n 1, 1) := by decide +kernel
theorem dX1_leastRoot_18 : decode cX1_leastRoot 18 = .ok (.aload_n 0, 1) := by decide +kernel
theorem dX1_leastRoot_19 : decode cX1_leastRoot 19 = .ok (.getfield 15, 3) := by decide +kernel
theorem dX1_leastRoot_22 : decode cX1_leastRoot 22 = .ok (.if_icmp .ge 12, 3) := by decide +kernel
theorem dX1_leastRoot_25 : decode cX1_leastRoot 25 = .ok (.aload_n 0, 1) := by decide +kernel
theorem dX1_leastRoot_26 : decode cX1_leastRoot 26 = .ok (.getfield 9, 3) := by decide +kernel
theorem dX1_leastRoot_29 : decode cX1_leastRoot 29 = .ok (.iload_n 1, 1) := by decide +kernel
theorem dX1_leastRoot_30 : decode cX1_leastRoot 30 = .ok (.iaload, 1) := by decide +kernel
theorem dX1_leastRoot_31 : decode cX1_leastRoot 31 = .ok (.goto 4, 3) := by decide +kernel
theorem dX1_leastRoot_34 : decode cX1_leastRoot 34 = .ok (.iconst (-1), 1) := by decide +kernel
theorem dX1_leastRoot_35 : decode cX1_leastRoot 35 = .ok (.ireturn, 1) := by decide +kernel
theorem dX1_lay_0 : decode cX1_lay 0 = .ok (.iload_n 1, 1) := by decide +kernel
theorem dX1_lay_1 : decode cX1_lay 1 = .ok (.iconst 5, 1) := by decide +kernel
theorem dX1_lay_2 : decode cX1_lay 2 = .ok (.if_icmp .lt 12, 3) := by decide +kernel
theorem dX1_lay_5 : decode cX1_lay 5 = .ok (.iload_n 1, 1) := by decide +kernel
theorem dX1_lay_6 : decode cX1_lay 6 = .ok (.aload_n 0, 1) := by decide +kernel
theorem dX1_lay_7 : decode cX1_lay 7 = .ok (.getfield 9, 3) := by decide +kernel
theorem dX1_lay_10 : decode cX1_lay 10 = .ok (.arraylength, 1) := by decide +kernel
theorem dX1_lay_11 : decode cX1_lay 11 = .ok (.if_icmp .le 4, 3) := by decide +kernel
theorem dX1_lay_14 : decode cX1_lay 14 = .ok (.return_, 1) := by decide +kernel
theorem dX1_lay_15 : decode cX1_lay 15 = .ok (.aload_n 0, 1) := by decide +kernel
theorem dX1_lay_16 : decode cX1_lay 16 = .ok (.iload_n 1, 1) := by decide +kernel
theorem dX1_lay_17 : decode cX1_lay 17 = .ok (.putfield 15, 3) := by decide +kernel
theorem dX1_lay_20 : decode cX1_lay 20 = .ok (.iconst 0, 1) := by decide +kernel
theorem dX1_lay_21 : decode cX1_lay 21 = .ok (.istore_n 2, 1) := by decide +kernel
theorem dX1_lay_22 : decode cX1_lay 22 = .ok (.iload_n 2, 1) := by decide +kernel
theorem dX1_lay_23 : decode cX1_lay 23 = .ok (.iload_n 1, 1) := by decide +kernel
theorem dX1_lay_24 : decode cX1_lay 24 = .ok (.if_icmp .ge 16, 3) := by decide +kernel
theorem dX1_lay_27 : decode cX1_lay 27 = .ok (.aload_n 0, 1) := by decide +kernel
theorem dX1_lay_28 : decode cX1_lay 28 = .ok (.getfield 9, 3) := by decide +kernel
theorem dX1_lay_31 : decode cX1_lay 31 = .ok (.iload_n 2, 1) := by decide +kernel
theorem dX1_lay_32 : decode cX1_lay 32 = .ok (.iconst (-1), 1) := by decide +kernel
theorem dX1_lay_33 : decode cX1_lay 33 = .ok (.iastore, 1) := by decide +kernel
theorem dX1_lay_34 : decode cX1_lay 34 = .ok (.iinc 2 1, 3) := by decide +kernel
theorem dX1_lay_37 : decode cX1_lay 37 = .ok (.goto (-15), 3) := by decide +kernel
theorem dX1_lay_40 : decode cX1_lay 40 = .ok (.iload_n 1, 1) := by decide +kernel
theorem dX1_lay_41 : decode cX1_lay 41 = .ok (.iconst 2, 1) := by decide +kernel
theorem dX1_lay_42 : decode cX1_lay 42 = .ok (.idiv, 1) := by decide +kernel
theorem dX1_lay_43 : decode cX1_lay 43 = .ok (.istore_n 2, 1) := by decide +kernel
theorem dX1_lay_44 : decode cX1_lay 44 = .ok (.iload_n 2, 1) := by decide +kernel
theorem dX1_lay_45 : decode cX1_lay 45 = .ok (.ifCond .lt 20, 3) := by decide +kernel
theorem dX1_lay_48 : decode cX1_lay 48 = .ok (.aload_n 0, 1) := by decide +kernel
theorem dX1_lay_49 : decode cX1_lay 49 = .ok (.getfield 9, 3) := by decide +kernel
theorem dX1_lay_52 : decode cX1_lay 52 = .ok (.iload_n 2, 1) := by decide +kernel
theorem dX1_lay_53 : decode cX1_lay 53 = .ok (.iload_n 2, 1) := by decide +kernel
theorem dX1_lay_54 : decode cX1_lay 54 = .ok (.imul, 1) := by decide +kernel
theorem dX1_lay_55 : decode cX1_lay 55 = .ok (.iload_n 1, 1) := by decide +kernel
theorem dX1_lay_56 : decode cX1_lay 56 = .ok (.irem, 1) := by decide +kernel
theorem dX1_lay_57 : decode cX1_lay 57 = .ok (.iload_n 2, 1) := by decide +kernel
theorem dX1_lay_58 : decode cX1_lay 58 = .ok (.iastore, 1) := by decide +kernel
theorem dX1_lay_59 : decode cX1_lay 59 = .ok (.iinc 2 (-1), 3) := by decide +kernel
theorem dX1_lay_62 : decode cX1_lay 62 = .ok (.goto (-18), 3) := by decide +kernel
theorem dX1_lay_65 : decode cX1_lay 65 = .ok (.return_, 1) := by decide +kernel
theorem dX2_init_0 : decode cX2_init 0 = .ok (.aload_n 0, 1) := by decide +kernel
theorem dX2_init_1 : decode cX2_init 1 = .ok (.invokespecial 3, 3) := by decide +kernel
theorem dX2_init_4 : decode cX2_init 4 = .ok (.aload_n 0, 1) := by decide +kernel
theorem dX2_init_5 : decode cX2_init 5 = .ok (.sipush 10007, 3) := by decide +kernel
theorem dX2_init_8 : decode cX2_init 8 = .ok (.newarray .int, 2) := by decide +kernel
theorem dX2_init_10 : decode cX2_init 10 = .ok (.putfield 9, 3) := by decide +kernel
theorem dX2_init_13 : decode cX2_init 13 = .ok (.aload_n 0, 1) := by decide +kernel
theorem dX2_init_14 : decode cX2_init 14 = .ok (.sipush 128, 3) := by decide +kernel
theorem dX2_init_17 : decode cX2_init 17 = .ok (.newarray .int, 2) := by decide +kernel
theorem dX2_init_19 : decode cX2_init 19 = .ok (.putfield 15, 3) := by decide +kernel
theorem dX2_init_22 : decode cX2_init 22 = .ok (.aload_n 0, 1) := by decide +kernel
theorem dX2_init_23 : decode cX2_init 23 = .ok (.iconst 1, 1) := by decide +kernel
theorem dX2_init_24 : decode cX2_init 24 = .ok (.putfield 18, 3) := by decide +kernel
theorem dX2_init_27 : decode cX2_init 27 = .ok (.aload_n 0, 1) := by decide +kernel
theorem dX2_init_28 : decode cX2_init 28 = .ok (.iconst (-1), 1) := by decide +kernel
theorem dX2_init_29 : decode cX2_init 29 = .ok (.putfield 22, 3) := by decide +kernel
theorem dX2_init_32 : decode cX2_init 32 = .ok (.return_, 1) := by decide +kernel
set_option maxRecDepth 20000 in
theorem ggX2_lay_X2_endOf : GoodIn wsX2_lay wsX2_endOf := goodIn_r _ [10, 4, 38, 39, 40, 41, 42, 43] (by decide +kernel) (by decide +kernel)
set_option maxRecDepth 20000 in
theorem gX2_lay_X2_endOf : GoodIn wsX2_lay (wsV RX2 28 RX2 yX2_endOf wsX2_endOf) := goodIn_app (goodIn_of _ (by decide +kernel)) ggX2_lay_X2_endOf
set_option maxRecDepth 20000 in
theorem ggX2_lay_X2_note : GoodIn wsX2_lay wsX2_note := goodIn_r _ [14, 15, 16, 17, 18, 38, 39, 40, 41, 42, 43] (by decide +kernel) (by decide +kernel)
set_option maxRecDepth 20000 in
theorem gX2_lay_X2_note : GoodIn wsX2_lay (wsV RX2 32 RX2 yX2_note wsX2_note) := goodIn_app (goodIn_of _ (by decide +kernel)) ggX2_lay_X2_note
set_option maxRecDepth 20000 in
theorem ggX2_lay_X0_sum : GoodIn wsX2_lay wsX0_sum := goodIn_r _ [23, 24, 25, 16, 17, 18, 26, 27, 28, 29, 30, 31, 32, 33, 44, 45, 46, 47, 48, 49, 50, 51, 52, 53, 54, 55] (by decide +kernel) (by decide +kernel)
set_option maxRecDepth 20000 in
theorem gX2_lay_X0_sum : GoodIn wsX2_lay (wsV RX2 40 RX0 yX0_sum wsX0_sum) := goodIn_app (goodIn_of _ (by decide +kernel)) ggX2_lay_X0_sum
set_option maxRecDepth 20000 in
theorem ggX2_lay_X0_opposite : GoodIn wsX2_lay wsX0_opposite := goodIn_r _ [37, 24, 26, 17, 27, 16, 18, 32, 33, 44, 45, 46, 47, 48, 49, 50, 51, 52, 53, 54, 55] (by decide +kernel) (by decide +kernel)
set_option maxRecDepth 20000 in
theorem gX2_lay_X0_opposite : GoodIn wsX2_lay (wsV RX2 46 RX0 yX0_opposite wsX0_opposite) := goodIn_app (goodIn_of _ (by decide +kernel)) ggX2_lay_X0_opposite
theorem dX2_lay_0 : decode cX2_lay 0 = .ok (.iconst 1, 1) := by decide +kernel
theorem dX2_lay_1 : decode cX2_lay 1 = .ok (.istore 4, 2) := by decide +kernel
theorem dX2_lay_3 : decode cX2_lay 3 = .ok (.iload 4, 2) := by decide +kernel
theorem dX2_lay_5 : decode cX2_lay 5 = .ok (.aload_n 0, 1) := by decide +kernel
theorem dX2_lay_6 : decode cX2_lay 6 = .ok (.getfield 25, 3) := by decide +kernel
theorem dX2_lay_9 : decode cX2_lay 9 = .ok (.if_icmp .gt 20, 3) := by decide +kernel
theorem dX2_lay_12 : decode cX2_lay 12 = .ok (.aload_n 0, 1) := by decide +kernel
theorem dX2_lay_13 : decode cX2_lay 13 = .ok (.aload_n 0, 1) := by decide +kernel
theorem dX2_lay_14 : decode cX2_lay 14 = .ok (.iload 4, 2) := by decide +kernel
theorem dX2_lay_16 : decode cX2_lay 16 = .ok (.invokevirtual 28, 3) := by decide +kernel
theorem dX2_lay_19 : decode cX2_lay 19 = .ok (.iconst 0, 1) := by decide +kernel
theorem dX2_lay_20 : decode cX2_lay 20 = .ok (.invokevirtual 32, 3) := by decide +kernel
theorem dX2_lay_23 : decode cX2_lay 23 = .ok (.iinc 4 1, 3) := by decide +kernel
theorem dX2_lay_26 : decode cX2_lay 26 = .ok (.goto (-23), 3) := by decide +kernel
theorem dX2_lay_29 : decode cX2_lay 29 = .ok (.aload_n 0, 1) := by decide +kernel
theorem dX2_lay_30 : decode cX2_lay 30 = .ok (.aload_n 1, 1) := by decide +kernel
theorem dX2_lay_31 : decode cX2_lay 31 = .ok (.putfield 36, 3) := by decide +kernel
theorem dX2_lay_34 : decode cX2_lay 34 = .ok (.aload_n 0, 1) := by decide +kernel
theorem dX2_lay_35 : decode cX2_lay 35 = .ok (.iload_n 3, 1) := by decide +kernel
theorem dX2_lay_36 : decode cX2_lay 36 = .ok (.putfield 18, 3) := by decide +kernel
theorem dX2_lay_39 : decode cX2_lay 39 = .ok (.aload_n 0, 1) := by decide +kernel
theorem dX2_lay_40 : decode cX2_lay 40 = .ok (.iconst 0, 1) := by decide +kernel
theorem dX2_lay_41 : decode cX2_lay 41 = .ok (.putfield 25, 3) := by decide +kernel
theorem dX2_lay_44 : decode cX2_lay 44 = .ok (.iload_n 2, 1) := by decide +kernel
theorem dX2_lay_45 : decode cX2_lay 45 = .ok (.istore 4, 2) := by decide +kernel
theorem dX2_lay_47 : decode cX2_lay 47 = .ok (.iconst 1, 1) := by decide +kernel
theorem dX2_lay_48 : decode cX2_lay 48 = .ok (.istore 5, 2) := by decide +kernel
theorem dX2_lay_50 : decode cX2_lay 50 = .ok (.iload 5, 2) := by decide +kernel
theorem dX2_lay_52 : decode cX2_lay 52 = .ok (.aload_n 0, 1) := by decide +kernel
theorem dX2_lay_53 : decode cX2_lay 53 = .ok (.getfield 15, 3) := by decide +kernel
theorem dX2_lay_56 : decode cX2_lay 56 = .ok (.arraylength, 1) := by decide +kernel
theorem dX2_lay_57 : decode cX2_lay 57 = .ok (.if_icmp .ge 62, 3) := by decide +kernel
theorem dX2_lay_60 : decode cX2_lay 60 = .ok (.iload 4, 2) := by decide +kernel
theorem dX2_lay_62 : decode cX2_lay 62 = .ok (.iconst (-1), 1) := by decide +kernel
theorem dX2_lay_63 : decode cX2_lay 63 = .ok (.if_icmp .eq 56, 3) := by decide +kernel
theorem dX2_lay_66 : decode cX2_lay 66 = .ok (.iconst 2, 1) := by decide +kernel
theorem dX2_lay_67 : decode cX2_lay 67 = .ok (.aload_n 0, 1) := by decide +kernel
theorem dX2_lay_68 : decode cX2_lay 68 = .ok (.getfield 25, 3) := by decide +kernel
theorem dX2_lay_71 : decode cX2_lay 71 = .ok (.imul, 1) := by decide +kernel
theorem dX2_lay_72 : decode cX2_lay 72 = .ok (.aload_n 0, 1) := by decide +kernel
theorem dX2_lay_73 : decode cX2_lay 73 = .ok (.getfield 25, 3) := by decide +kernel
theorem dX2_lay_76 : decode cX2_lay 76 = .ok (.imul, 1) := by decide +kernel
theorem dX2_lay_77 : decode cX2_lay 77 = .ok (.iload_n 3, 1) := by decide +kernel
theorem dX2_lay_78 : decode cX2_lay 78 = .ok (.if_icmp .ge 41, 3) := by decide +kernel
theorem dX2_lay_81 : decode cX2_lay 81 = .ok (.aload_n 0, 1) := by decide +kernel
theorem dX2_lay_82 : decode cX2_lay 82 = .ok (.getfield 15, 3) := by decide +kernel
theorem dX2_lay_85 : decode cX2_lay 85 = .ok (.iload 5, 2) := by decide +kernel
theorem dX2_lay_87 : decode cX2_lay 87 = .ok (.iload 4, 2) := by decide +kernel
theorem dX2_lay_89 : decode cX2_lay 89 = .ok (.iastore, 1) := by decide +kernel
theorem dX2_lay_90 : decode cX2_lay 90 = .ok (.aload_n 0, 1) := by decide +kernel
theorem dX2_lay_91 : decode cX2_lay 91 = .ok (.iload 4, 2) := by decide +kernel
theorem dX2_lay_93 : decode cX2_lay 93 = .ok (.iload 5, 2) := by decide +kernel
theorem dX2_lay_95 : decode cX2_lay 95 = .ok (.invokevirtual 32, 3) := by decide +kernel
theorem dX2_lay_98 : decode cX2_lay 98 = .ok (.aload_n 0, 1) := by decide +kernel
theorem dX2_lay_99 : decode cX2_lay 99 = .ok (.iload 5, 2) := by decide +kernel
theorem dX2_lay_101 : decode cX2_lay 101 = .ok (.putfield 25, 3) := by decide +kernel
theorem dX2_lay_104 : decode cX2_lay 104 = .ok (.aload_n 1, 1) := by decide +kernel
theorem dX2_lay_105 : decode cX2_lay 105 = .ok (.iload 4, 2) := by decide +kernel
theorem dX2_lay_107 : decode cX2_lay 107 = .ok (.iload_n 2, 1) := by decide +kernel
theorem dX2_lay_108 : decode cX2_lay 108 = .ok (.invokevirtual 40, 3) := by decide +kernel
theorem dX2_lay_111 : decode cX2_lay 111 = .ok (.istore 4, 2) := by decide +kernel
theorem dX2_lay_113 : decode cX2_lay 113 = .ok (.iinc 5 1, 3) := by decide +kernel
theorem dX2_lay_116 : decode cX2_lay 116 = .ok (.goto (-66), 3) := by decide +kernel
theorem dX2_lay_119 : decode cX2_lay 119 = .ok (.aload_n 0, 1) := by decide +kernel
theorem dX2_lay_120 : decode cX2_lay 120 = .ok (.aload_n 1, 1) := by decide +kernel
theorem dX2_lay_121 : decode cX2_lay 121 = .ok (.aload_n 1, 1) := by decide +kernel
theorem dX2_lay_122 : decode cX2_lay 122 = .ok (.iload 4, 2) := by decide +kernel
theorem dX2_lay_124 : decode cX2_lay 124 = .ok (.aload_n 0, 1) := by decide +kernel
theorem dX2_lay_125 : decode cX2_lay 125 = .ok (.aload_n 0, 1) := by decide +kernel
theorem dX2_lay_126 : decode cX2_lay 126 = .ok (.getfield 25, 3) := by decide +kernel
theorem dX2_lay_129 : decode cX2_lay 129 = .ok (.invokevirtual 28, 3) := by decide +kernel
theorem dX2_lay_132 : decode cX2_lay 132 = .ok (.invokevirtual 40, 3) := by decide +kernel
theorem dX2_lay_135 : decode cX2_lay 135 = .ok (.invokevirtual 46, 3) := by decide +kernel
theorem dX2_lay_138 : decode cX2_lay 138 = .ok (.putfield 22, 3) := by decide +kernel
theorem dX2_lay_141 : decode cX2_lay 141 = .ok (.return_, 1) := by decide +kernel
set_option maxRecDepth 20000 in
theorem ggX2_stepsTo_J9_floorMod_7cf53 : GoodIn wsX2_stepsTo wsJ9_floorMod_7cf53 := goodIn_r _ [8] (by decide +kernel) (by decide +kernel)
set_option maxRecDepth 20000 in
theorem gX2_stepsTo_J9_floorMod_7cf53 : GoodIn wsX2_stepsTo (va_wsS RX2 49 yJ9_floorMod_7cf53 wsJ9_floorMod_7cf53) := goodIn_app (goodIn_of _ (by decide +kernel)) ggX2_stepsTo_J9_floorMod_7cf53
set_option maxRecDepth 20000 in
theorem ggX2_stepsTo_X2_noted : GoodIn wsX2_stepsTo wsX2_noted := goodIn_r _ [13, 14, 15, 16, 17, 38, 39, 40, 41, 42, 43] (by decide +kernel) (by decide +kernel)
set_option maxRecDepth 20000 in
theorem gX2_stepsTo_X2_noted : GoodIn wsX2_stepsTo (wsV RX2 54 RX2 yX2_noted wsX2_noted) := goodIn_app (goodIn_of _ (by decide +kernel)) ggX2_stepsTo_X2_noted
set_option maxRecDepth 20000 in
theorem ggX2_stepsTo_X2_endOf : GoodIn wsX2_stepsTo wsX2_endOf := goodIn_r _ [21, 22, 38, 39, 40, 41, 42, 43] (by decide +kernel) (by decide +kernel)
set_option maxRecDepth 20000 in
theorem gX2_stepsTo_X2_endOf : GoodIn wsX2_stepsTo (wsV RX2 28 RX2 yX2_endOf wsX2_endOf) := goodIn_app (goodIn_of _ (by decide +kernel)) ggX2_stepsTo_X2_endOf
set_option maxRecDepth 20000 in
theorem ggX2_stepsTo_X0_sum : GoodIn wsX2_stepsTo wsX0_sum := goodIn_r _ [27, 28, 29, 15, 16, 17, 30, 31, 32, 33, 34, 35, 36, 37, 44, 45, 46, 47, 48, 49, 50, 51, 52, 53, 54, 55] (by decide +kernel) (by decide +kernel)
set_option maxRecDepth 20000 in
theorem gX2_stepsTo_X0_sum : GoodIn wsX2_stepsTo (wsV RX2 40 RX0 yX0_sum wsX0_sum) := goodIn_app (goodIn_of _ (by decide +kernel)) ggX2_stepsTo_X0_sum
theorem dX2_stepsTo_0 : decode cX2_stepsTo 0 = .ok (.aload_n 0, 1) := by decide +kernel
theorem dX2_stepsTo_1 : decode cX2_stepsTo 1 = .ok (.getfield 36, 3) := by decide +kernel
theorem dX2_stepsTo_4 : decode cX2_stepsTo 4 = .ok (.ifnull 11, 3) := by decide +kernel
theorem dX2_stepsTo_7 : decode cX2_stepsTo 7 = .ok (.aload_n 0, 1) := by decide +kernel
theorem dX2_stepsTo_8 : decode cX2_stepsTo 8 = .ok (.getfield 18, 3) := by decide +kernel
theorem dX2_stepsTo_11 : decode cX2_stepsTo 11 = .ok (.iconst 1, 1) := by decide +kernel
theorem dX2_stepsTo_12 : decode cX2_stepsTo 12 = .ok (.if_icmp .ge 5, 3) := by decide +kernel
theorem dX2_stepsTo_15 : decode cX2_stepsTo 15 = .ok (.iconst (-1), 1) := by decide +kernel
theorem dX2_stepsTo_16 : decode cX2_stepsTo 16 = .ok (.ireturn, 1) := by decide +kernel
theorem dX2_stepsTo_17 : decode cX2_stepsTo 17 = .ok (.iconst 2, 1) := by decide +kernel
theorem dX2_stepsTo_18 : decode cX2_stepsTo 18 = .ok (.aload_n 0, 1) := by decide +kernel
theorem dX2_stepsTo_19 : decode cX2_stepsTo 19 = .ok (.getfield 25, 3) := by decide +kernel
theorem dX2_stepsTo_22 : decode cX2_stepsTo 22 = .ok (.imul, 1) := by decide +kernel
theorem dX2_stepsTo_23 : decode cX2_stepsTo 23 = .ok (.iconst 1, 1) := by decide +kernel
theorem dX2_stepsTo_24 : decode cX2_stepsTo 24 = .ok (.iadd, 1) := by decide +kernel
theorem dX2_stepsTo_25 : decode cX2_stepsTo 25 = .ok (.istore_n 2, 1) := by decide +kernel
theorem dX2_stepsTo_26 : decode cX2_stepsTo 26 = .ok (.iload_n 1, 1) := by decide +kernel
theorem dX2_stepsTo_27 : decode cX2_stepsTo 27 = .ok (.istore_n 3, 1) := by decide +kernel
theorem dX2_stepsTo_28 : decode cX2_stepsTo 28 = .ok (.iconst 0, 1) := by decide +kernel
theorem dX2_stepsTo_29 : decode cX2_stepsTo 29 = .ok (.istore 4, 2) := by decide +kernel
theorem dX2_stepsTo_31 : decode cX2_stepsTo 31 = .ok (.iload 4, 2) := by decide +kernel
theorem dX2_stepsTo_33 : decode cX2_stepsTo 33 = .ok (.aload_n 0, 1) := by decide +kernel
theorem dX2_stepsTo_34 : decode cX2_stepsTo 34 = .ok (.getfield 18, 3) := by decide +kernel
theorem dX2_stepsTo_37 : decode cX2_stepsTo 37 = .ok (.iload_n 2, 1) := by decide +kernel
theorem dX2_stepsTo_38 : decode cX2_stepsTo 38 = .ok (.iadd, 1) := by decide +kernel
theorem dX2_stepsTo_39 : decode cX2_stepsTo 39 = .ok (.if_icmp .ge 83, 3) := by decide +kernel
theorem dX2_stepsTo_42 : decode cX2_stepsTo 42 = .ok (.iload_n 3, 1) := by decide +kernel
theorem dX2_stepsTo_43 : decode cX2_stepsTo 43 = .ok (.iconst (-1), 1) := by decide +kernel
theorem dX2_stepsTo_44 : decode cX2_stepsTo 44 = .ok (.if_icmp .ne 13, 3) := by decide +kernel
theorem dX2_stepsTo_47 : decode cX2_stepsTo 47 = .ok (.iload 4, 2) := by decide +kernel
theorem dX2_stepsTo_49 : decode cX2_stepsTo 49 = .ok (.aload_n 0, 1) := by decide +kernel
theorem dX2_stepsTo_50 : decode cX2_stepsTo 50 = .ok (.getfield 18, 3) := by decide +kernel
theorem dX2_stepsTo_53 : decode cX2_stepsTo 53 = .ok (.invokestatic 49, 3) := by decide +kernel
theorem dX2_stepsTo_56 : decode cX2_stepsTo 56 = .ok (.ireturn, 1) := by decide +kernel
theorem dX2_stepsTo_57 : decode cX2_stepsTo 57 = .ok (.aload_n 0, 1) := by decide +kernel
theorem dX2_stepsTo_58 : decode cX2_stepsTo 58 = .ok (.iload_n 3, 1) := by decide +kernel
theorem dX2_stepsTo_59 : decode cX2_stepsTo 59 = .ok (.invokevirtual 54, 3) := by decide +kernel
theorem dX2_stepsTo_62 : decode cX2_stepsTo 62 = .ok (.istore 5, 2) := by decide +kernel
theorem dX2_stepsTo_64 : decode cX2_stepsTo 64 = .ok (.iload 5, 2) := by decide +kernel
theorem dX2_stepsTo_66 : decode cX2_stepsTo 66 = .ok (.ifCond .le 34, 3) := by decide +kernel
theorem dX2_stepsTo_69 : decode cX2_stepsTo 69 = .ok (.aload_n 0, 1) := by decide +kernel
theorem dX2_stepsTo_70 : decode cX2_stepsTo 70 = .ok (.iload 5, 2) := by decide +kernel
theorem dX2_stepsTo_72 : decode cX2_stepsTo 72 = .ok (.invokevirtual 28, 3) := by decide +kernel
theorem dX2_stepsTo_75 : decode cX2_stepsTo 75 = .ok (.iload_n 3, 1) := by decide +kernel
theorem dX2_stepsTo_76 : decode cX2_stepsTo 76 = .ok (.if_icmp .ne 11, 3) := by decide +kernel
theorem dX2_stepsTo_79 : decode cX2_stepsTo 79 = .ok (.iload 4, 2) := by decide +kernel
theorem dX2_stepsTo_81 : decode cX2_stepsTo 81 = .ok (.iload 5, 2) := by decide +kernel
theorem dX2_stepsTo_83 : decode cX2_stepsTo 83 = .ok (.iadd, 1) := by decide +kernel
theorem dX2_stepsTo_84 : decode cX2_stepsTo 84 = .ok (.goto 8, 3) := by decide +kernel
theorem dX2_stepsTo_87 : decode cX2_stepsTo 87 = .ok (.iload 4, 2) := by decide +kernel
theorem dX2_stepsTo_89 : decode cX2_stepsTo 89 = .ok (.iload 5, 2) := by decide +kernel
theorem dX2_stepsTo_91 : decode cX2_stepsTo 91 = .ok (.isub, 1) := by decide +kernel
theorem dX2_stepsTo_92 : decode cX2_stepsTo 92 = .ok (.aload_n 0, 1) := by decide +kernel
theorem dX2_stepsTo_93 : decode cX2_stepsTo 93 = .ok (.getfield 18, 3) := by decide +kernel
theorem dX2_stepsTo_96 : decode cX2_stepsTo 96 = .ok (.invokestatic 49, 3) := by decide +kernel
theorem dX2_stepsTo_99 : decode cX2_stepsTo 99 = .ok (.ireturn, 1) := by decide +kernel
theorem dX2_stepsTo_100 : decode cX2_stepsTo 100 = .ok (.aload_n 0, 1) := by decide +kernel
theorem dX2_stepsTo_101 : decode cX2_stepsTo 101 = .ok (.getfield 36, 3) := by decide +kernel
theorem dX2_stepsTo_104 : decode cX2_stepsTo 104 = .ok (.iload_n 3, 1) := by decide +kernel
theorem dX2_stepsTo_105 : decode cX2_stepsTo 105 = .ok (.aload_n 0, 1) := by decide +kernel
theorem dX2_stepsTo_106 : decode cX2_stepsTo 106 = .ok (.getfield 22, 3) := by decide +kernel
theorem dX2_stepsTo_109 : decode cX2_stepsTo 109 = .ok (.invokevirtual 40, 3) := by decide +kernel
theorem dX2_stepsTo_112 : decode cX2_stepsTo 112 = .ok (.istore_n 3, 1) := by decide +kernel
theorem dX2_stepsTo_113 : decode cX2_stepsTo 113 = .ok (.iload 4, 2) := by decide +kernel
theorem dX2_stepsTo_115 : decode cX2_stepsTo 115 = .ok (.iload_n 2, 1) := by decide +kernel
theorem dX2_stepsTo_116 : decode cX2_stepsTo 116 = .ok (.iadd, 1) := by decide +kernel
theorem dX2_stepsTo_117 : decode cX2_stepsTo 117 = .ok (.istore 4, 2) := by decide +kernel
theorem dX2_stepsTo_119 : decode cX2_stepsTo 119 = .ok (.goto (-88), 3) := by decide +kernel
theorem dX2_stepsTo_122 : decode cX2_stepsTo 122 = .ok (.iconst (-1), 1) := by decide +kernel
theorem dX2_stepsTo_123 : decode cX2_stepsTo 123 = .ok (.ireturn, 1) := by decide +kernel
theorem dX2_endOf_0 : decode cX2_endOf 0 = .ok (.iload_n 1, 1) := by decide +kernel
theorem dX2_endOf_1 : decode cX2_endOf 1 = .ok (.ifCond .le 21, 3) := by decide +kernel
theorem dX2_endOf_4 : decode cX2_endOf 4 = .ok (.iload_n 1, 1) := by decide +kernel
theorem dX2_endOf_5 : decode cX2_endOf 5 = .ok (.aload_n 0, 1) := by decide +kernel
theorem dX2_endOf_6 : decode cX2_endOf 6 = .ok (.getfield 15, 3) := by decide +kernel
theorem dX2_endOf_9 : decode cX2_endOf 9 = .ok (.arraylength, 1) := by decide +kernel
theorem dX2_endOf_10 : decode cX2_endOf 10 = .ok (.if_icmp .ge 12, 3) := by decide +kernel
theorem dX2_endOf_13 : decode cX2_endOf 13 = .ok (.aload_n 0, 1) := by decide +kernel
theorem dX2_endOf_14 : decode cX2_endOf 14 = .ok (.getfield 15, 3) := by decide +kernel
theorem dX2_endOf_17 : decode cX2_endOf 17 = .ok (.iload_n 1, 1) := by decide +kernel
theorem dX2_endOf_18 : decode cX2_endOf 18 = .ok (.iaload, 1) := by decide +kernel
theorem dX2_endOf_19 : decode cX2_endOf 19 = .ok (.goto 4, 3) := by decide +kernel
theorem dX2_endOf_22 : decode cX2_endOf 22 = .ok (.iconst (-1), 1) := by decide +kernel
theorem dX2_endOf_23 : decode cX2_endOf 23 = .ok (.ireturn, 1) := by decide +kernel
set_option maxRecDepth 20000 in
theorem ggX2_noted_X5_xOf : GoodIn wsX2_noted wsX5_xOf := goodIn_r _ [4] (by decide +kernel) (by decide +kernel)
set_option maxRecDepth 20000 in
theorem gX2_noted_X5_xOf_n57 : GoodIn wsX2_noted (wsX5_xOf) := ggX2_noted_X5_xOf
theorem dX2_noted_0 : decode cX2_noted 0 = .ok (.iload_n 1, 1) := by decide +kernel
theorem dX2_noted_1 : decode cX2_noted 1 = .ok (.invokestatic 57, 3) := by decide +kernel
theorem dX2_noted_4 : decode cX2_noted 4 = .ok (.istore_n 2, 1) := by decide +kernel
theorem dX2_noted_5 : decode cX2_noted 5 = .ok (.iload_n 2, 1) := by decide +kernel
theorem dX2_noted_6 : decode cX2_noted 6 = .ok (.ifCond .lt 21, 3) := by decide +kernel
theorem dX2_noted_9 : decode cX2_noted 9 = .ok (.iload_n 2, 1) := by decide +kernel
theorem dX2_noted_10 : decode cX2_noted 10 = .ok (.aload_n 0, 1) := by decide +kernel
theorem dX2_noted_11 : decode cX2_noted 11 = .ok (.getfield 9, 3) := by decide +kernel
theorem dX2_noted_14 : decode cX2_noted 14 = .ok (.arraylength, 1) := by decide +kernel
theorem dX2_noted_15 : decode cX2_noted 15 = .ok (.if_icmp .ge 12, 3) := by decide +kernel
theorem dX2_noted_18 : decode cX2_noted 18 = .ok (.aload_n 0, 1) := by decide +kernel
theorem dX2_noted_19 : decode cX2_noted 19 = .ok (.getfield 9, 3) := by decide +kernel
theorem dX2_noted_22 : decode cX2_noted 22 = .ok (.iload_n 2, 1) := by decide +kernel
theorem dX2_noted_23 : decode cX2_noted 23 = .ok (.iaload, 1) := by decide +kernel
theorem dX2_noted_24 : decode cX2_noted 24 = .ok (.goto 4, 3) := by decide +kernel
theorem dX2_noted_27 : decode cX2_noted 27 = .ok (.iconst 0, 1) := by decide +kernel
theorem dX2_noted_28 : decode cX2_noted 28 = .ok (.ireturn, 1) := by decide +kernel
set_option maxRecDepth 20000 in
theorem ggX2_note_X5_xOf : GoodIn wsX2_note wsX5_xOf := goodIn_r _ [4] (by decide +kernel) (by decide +kernel)
set_option maxRecDepth 20000 in
theorem gX2_note_X5_xOf_n57 : GoodIn wsX2_note (wsX5_xOf) := ggX2_note_X5_xOf
theorem dX2_note_0 : decode cX2_note 0 = .ok (.iload_n 1, 1) := by decide +kernel
theorem dX2_note_1 : decode cX2_note 1 = .ok (.invokestatic 57, 3) := by decide +kernel
theorem dX2_note_4 : decode cX2_note 4 = .ok (.istore_n 3, 1) := by decide +kernel
theorem dX2_note_5 : decode cX2_note 5 = .ok (.iload_n 3, 1) := by decide +kernel
theorem dX2_note_6 : decode cX2_note 6 = .ok (.ifCond .lt 19, 3) := by decide +kernel
theorem dX2_note_9 : decode cX2_note 9 = .ok (.iload_n 3, 1) := by decide +kernel
theorem dX2_note_10 : decode cX2_note 10 = .ok (.aload_n 0, 1) := by decide +kernel
theorem dX2_note_11 : decode cX2_note 11 = .ok (.getfield 9, 3) := by decide +kernel
theorem dX2_note_14 : decode cX2_note 14 = .ok (.arraylength, 1) := by decide +kernel
theorem dX2_note_15 : decode cX2_note 15 = .ok (.if_icmp .ge 10, 3) := by decide +kernel
theorem dX2_note_18 : decode cX2_note 18 = .ok (.aload_n 0, 1) := by decide +kernel
theorem dX2_note_19 : decode cX2_note 19 = .ok (.getfield 9, 3) := by decide +kernel
theorem dX2_note_22 : decode cX2_note 22 = .ok (.iload_n 3, 1) := by decide +kernel
theorem dX2_note_23 : decode cX2_note 23 = .ok (.iload_n 2, 1) := by decide +kernel
theorem dX2_note_24 : decode cX2_note 24 = .ok (.iastore, 1) := by decide +kernel
theorem dX2_note_25 : decode cX2_note 25 = .ok (.return_, 1) := by decide +kernel
set_option maxRecDepth 20000 in
theorem ggX3_init_X2_init : GoodIn wsX3_init wsX2_init := goodIn_r _ [13, 14, 2, 3, 9, 15, 16, 17, 18, 22, 23, 24, 25, 26, 27] (by decide +kernel) (by decide +kernel)
set_option maxRecDepth 20000 in
theorem gX3_init_X2_init : GoodIn wsX3_init (wsX2_init) := ggX3_init_X2_init
theorem dX3_init_0 : decode cX3_init 0 = .ok (.aload_n 0, 1) := by decide +kernel
theorem dX3_init_1 : decode cX3_init 1 = .ok (.invokespecial 3, 3) := by decide +kernel
theorem dX3_init_4 : decode cX3_init 4 = .ok (.aload_n 0, 1) := by decide +kernel
theorem dX3_init_5 : decode cX3_init 5 = .ok (.aload_n 1, 1) := by decide +kernel
theorem dX3_init_6 : decode cX3_init 6 = .ok (.putfield 9, 3) := by decide +kernel
theorem dX3_init_9 : decode cX3_init 9 = .ok (.aload_n 0, 1) := by decide +kernel
theorem dX3_init_10 : decode cX3_init 10 = .ok (.new 15, 3) := by decide +kernel
theorem dX3_init_13 : decode cX3_init 13 = .ok (.dup, 1) := by decide +kernel
theorem dX3_init_14 : decode cX3_init 14 = .ok (.invokespecial 17, 3) := by decide +kernel
theorem dX3_init_17 : decode cX3_init 17 = .ok (.putfield 18, 3) := by decide +kernel
theorem dX3_init_20 : decode cX3_init 20 = .ok (.aload_n 0, 1) := by decide +kernel
theorem dX3_init_21 : decode cX3_init 21 = .ok (.iconst 4, 1) := by decide +kernel
theorem dX3_init_22 : decode cX3_init 22 = .ok (.newarray .int, 2) := by decide +kernel
theorem dX3_init_24 : decode cX3_init 24 = .ok (.putfield 22, 3) := by decide +kernel
theorem dX3_init_27 : decode cX3_init 27 = .ok (.return_, 1) := by decide +kernel
set_option maxRecDepth 20000 in
theorem ggX3_sizeOf_X3_manyPoints : GoodIn wsX3_sizeOf wsX3_manyPoints := goodIn_r _ [9, 10, 11, 12, 8, 13, 14, 15, 16, 17, 18, 19, 20, 21, 22, 23, 24, 25, 38, 39, 40, 41, 42] (by decide +kernel) (by decide +kernel)
set_option maxRecDepth 20000 in
theorem gX3_sizeOf_X3_manyPoints : GoodIn wsX3_sizeOf (wsV RX3 41 RX3 yX3_manyPoints wsX3_manyPoints) := goodIn_app (goodIn_of _ (by decide +kernel)) ggX3_sizeOf_X3_manyPoints
theorem dX3_sizeOf_0 : decode cX3_sizeOf 0 = .ok (.aload_n 1, 1) := by decide +kernel
theorem dX3_sizeOf_1 : decode cX3_sizeOf 1 = .ok (.getfield 26, 3) := by decide +kernel
theorem dX3_sizeOf_4 : decode cX3_sizeOf 4 = .ok (.ifCond .ne 23, 3) := by decide +kernel
theorem dX3_sizeOf_7 : decode cX3_sizeOf 7 = .ok (.aload_n 1, 1) := by decide +kernel
theorem dX3_sizeOf_8 : decode cX3_sizeOf 8 = .ok (.aload_n 0, 1) := by decide +kernel
theorem dX3_sizeOf_9 : decode cX3_sizeOf 9 = .ok (.aload_n 1, 1) := by decide +kernel
theorem dX3_sizeOf_10 : decode cX3_sizeOf 10 = .ok (.getfield 32, 3) := by decide +kernel
theorem dX3_sizeOf_13 : decode cX3_sizeOf 13 = .ok (.aload_n 1, 1) := by decide +kernel
theorem dX3_sizeOf_14 : decode cX3_sizeOf 14 = .ok (.getfield 35, 3) := by decide +kernel
theorem dX3_sizeOf_17 : decode cX3_sizeOf 17 = .ok (.aload_n 1, 1) := by decide +kernel
theorem dX3_sizeOf_18 : decode cX3_sizeOf 18 = .ok (.getfield 38, 3) := by decide +kernel
theorem dX3_sizeOf_21 : decode cX3_sizeOf 21 = .ok (.invokevirtual 41, 3) := by decide +kernel
theorem dX3_sizeOf_24 : decode cX3_sizeOf 24 = .ok (.putfield 26, 3) := by decide +kernel
theorem dX3_sizeOf_27 : decode cX3_sizeOf 27 = .ok (.aload_n 1, 1) := by decide +kernel
theorem dX3_sizeOf_28 : decode cX3_sizeOf 28 = .ok (.getfield 26, 3) := by decide +kernel
theorem dX3_sizeOf_31 : decode cX3_sizeOf 31 = .ok (.ireturn, 1) := by decide +kernel
set_option maxRecDepth 20000 in
theorem ggX3_logarithm_X3_sizeOf : GoodIn wsX3_logarithm wsX3_sizeOf := goodIn_r _ [6, 7, 8, 9, 10, 11, 12, 13, 5, 14, 15, 16, 17, 18, 19, 20, 21, 22, 23, 24, 25, 26, 27, 28, 29, 30, 100, 101, 102, 103, 104, 105, 106, 107, 108, 109, 110, 111, 97, 98, 99, 112, 113] (by decide +kernel) (by decide +kernel)
set_option maxRecDepth 20000 in
theorem gX3_logarithm_X3_sizeOf : GoodIn wsX3_logarithm (wsV RX3 45 RX3 yX3_sizeOf wsX3_sizeOf) := goodIn_app (goodIn_of _ (by decide +kernel)) ggX3_logarithm_X3_sizeOf
set_option maxRecDepth 20000 in
theorem ggX3_logarithm_X0_orderWithin : GoodIn wsX3_logarithm wsX0_orderWithin := goodIn_r _ [35, 36, 37, 38, 39, 40, 41, 42, 34, 43, 44, 45, 46, 47, 48, 49, 50, 51, 52, 53, 54, 55, 56, 57, 58, 59, 60, 61, 62, 63, 100, 101, 102, 103, 104, 105, 106, 107, 108, 109, 110, 111] (by decide +kernel) (by decide +kernel)
set_option maxRecDepth 20000 in
theorem gX3_logarithm_X0_orderWithin : GoodIn wsX3_logarithm (wsV RX3 49 RX0 yX0_orderWithin wsX0_orderWithin) := goodIn_app (goodIn_of _ (by decide +kernel)) ggX3_logarithm_X0_orderWithin
set_option maxRecDepth 20000 in
theorem ggX3_logarithm_X2_lay : GoodIn wsX3_logarithm wsX2_lay := goodIn_r _ [68, 69, 70, 71, 72, 73, 74, 75, 76, 67, 77, 78, 79, 80, 81, 82, 52, 50, 53, 83, 57, 58, 34, 59, 48, 60, 49, 51, 61, 62, 38, 63, 54, 55, 84, 45, 46, 47, 114, 115, 116, 117, 118, 119, 100, 101, 102, 103, 104, 105, 106, 107, 108, 109, 110, 111] (by decide +kernel) (by decide +kernel)
set_option maxRecDepth 20000 in
theorem gX3_logarithm_X2_lay : GoodIn wsX3_logarithm (wsV RX3 53 RX2 yX2_lay wsX2_lay) := goodIn_app (goodIn_of _ (by decide +kernel)) ggX3_logarithm_X2_lay
set_option maxRecDepth 20000 in
theorem ggX3_logarithm_X2_stepsTo : GoodIn wsX3_logarithm wsX2_stepsTo := goodIn_r _ [88, 70, 71, 69, 73, 89, 90, 91, 92, 93, 94, 95, 67, 96, 82, 52, 50, 53, 74, 75, 76, 77, 72, 83, 57, 58, 34, 59, 48, 60, 49, 51, 61, 62, 38, 63, 54, 55, 114, 115, 116, 117, 118, 119, 100, 101, 102, 103, 104, 105, 106, 107, 108, 109, 110, 111] (by decide +kernel) (by decide +kernel)
set_option maxRecDepth 20000 in
theorem gX3_logarithm_X2_stepsTo : GoodIn wsX3_logarithm (wsV RX3 57 RX2 yX2_stepsTo wsX2_stepsTo) := goodIn_app (goodIn_of _ (by decide +kernel)) ggX3_logarithm_X2_stepsTo
theorem dX3_logarithm_0 : decode cX3_logarithm 0 = .ok (.aload_n 0, 1) := by decide +kernel
theorem dX3_logarithm_1 : decode cX3_logarithm 1 = .ok (.getfield 18, 3) := by decide +kernel
theorem dX3_logarithm_4 : decode cX3_logarithm 4 = .ok (.aload_n 1, 1) := by decide +kernel
theorem dX3_logarithm_5 : decode cX3_logarithm 5 = .ok (.iload_n 2, 1) := by decide +kernel
theorem dX3_logarithm_6 : decode cX3_logarithm 6 = .ok (.aload_n 1, 1) := by decide +kernel
theorem dX3_logarithm_7 : decode cX3_logarithm 7 = .ok (.iload_n 2, 1) := by decide +kernel
theorem dX3_logarithm_8 : decode cX3_logarithm 8 = .ok (.aload_n 0, 1) := by decide +kernel
theorem dX3_logarithm_9 : decode cX3_logarithm 9 = .ok (.aload_n 1, 1) := by decide +kernel
theorem dX3_logarithm_10 : decode cX3_logarithm 10 = .ok (.invokevirtual 45, 3) := by decide +kernel
theorem dX3_logarithm_13 : decode cX3_logarithm 13 = .ok (.invokevirtual 49, 3) := by decide +kernel
theorem dX3_logarithm_16 : decode cX3_logarithm 16 = .ok (.invokevirtual 53, 3) := by decide +kernel
theorem dX3_logarithm_19 : decode cX3_logarithm 19 = .ok (.aload_n 0, 1) := by decide +kernel
theorem dX3_logarithm_20 : decode cX3_logarithm 20 = .ok (.getfield 18, 3) := by decide +kernel
theorem dX3_logarithm_23 : decode cX3_logarithm 23 = .ok (.iload_n 3, 1) := by decide +kernel
theorem dX3_logarithm_24 : decode cX3_logarithm 24 = .ok (.invokevirtual 57, 3) := by decide +kernel
theorem dX3_logarithm_27 : decode cX3_logarithm 27 = .ok (.ireturn, 1) := by decide +kernel
set_option maxRecDepth 20000 in
theorem ggX3_manyPoints_X3_manyAt : GoodIn wsX3_manyPoints wsX3_manyAt := goodIn_r _ [5, 6, 7, 8, 9, 10, 11, 12, 13, 14, 15, 16, 17, 18, 19, 20, 21, 22] (by decide +kernel) (by decide +kernel)
set_option maxRecDepth 20000 in
theorem gX3_manyPoints_X3_manyAt : GoodIn wsX3_manyPoints (wsV RX3 61 RX3 yX3_manyAt wsX3_manyAt) := goodIn_app (goodIn_of _ (by decide +kernel)) ggX3_manyPoints_X3_manyAt
theorem dX3_manyPoints_0 : decode cX3_manyPoints 0 = .ok (.iconst 1, 1) := by decide +kernel
theorem dX3_manyPoints_1 : decode cX3_manyPoints 1 = .ok (.istore 4, 2) := by decide +kernel
theorem dX3_manyPoints_3 : decode cX3_manyPoints 3 = .ok (.iconst 0, 1) := by decide +kernel
theorem dX3_manyPoints_4 : decode cX3_manyPoints 4 = .ok (.istore 5, 2) := by decide +kernel
theorem dX3_manyPoints_6 : decode cX3_manyPoints 6 = .ok (.iload 5, 2) := by decide +kernel
theorem dX3_manyPoints_8 : decode cX3_manyPoints 8 = .ok (.iload_n 1, 1) := by decide +kernel
theorem dX3_manyPoints_9 : decode cX3_manyPoints 9 = .ok (.if_icmp .ge 35, 3) := by decide +kernel
theorem dX3_manyPoints_12 : decode cX3_manyPoints 12 = .ok (.iload 4, 2) := by decide +kernel
theorem dX3_manyPoints_14 : decode cX3_manyPoints 14 = .ok (.aload_n 0, 1) := by decide +kernel
theorem dX3_manyPoints_15 : decode cX3_manyPoints 15 = .ok (.iload 5, 2) := by decide +kernel
theorem dX3_manyPoints_17 : decode cX3_manyPoints 17 = .ok (.iload 5, 2) := by decide +kernel
theorem dX3_manyPoints_19 : decode cX3_manyPoints 19 = .ok (.imul, 1) := by decide +kernel
theorem dX3_manyPoints_20 : decode cX3_manyPoints 20 = .ok (.iload_n 2, 1) := by decide +kernel
theorem dX3_manyPoints_21 : decode cX3_manyPoints 21 = .ok (.iadd, 1) := by decide +kernel
theorem dX3_manyPoints_22 : decode cX3_manyPoints 22 = .ok (.iload_n 1, 1) := by decide +kernel
theorem dX3_manyPoints_23 : decode cX3_manyPoints 23 = .ok (.irem, 1) := by decide +kernel
theorem dX3_manyPoints_24 : decode cX3_manyPoints 24 = .ok (.iload 5, 2) := by decide +kernel
theorem dX3_manyPoints_26 : decode cX3_manyPoints 26 = .ok (.imul, 1) := by decide +kernel
theorem dX3_manyPoints_27 : decode cX3_manyPoints 27 = .ok (.iload_n 3, 1) := by decide +kernel
theorem dX3_manyPoints_28 : decode cX3_manyPoints 28 = .ok (.iadd, 1) := by decide +kernel
theorem dX3_manyPoints_29 : decode cX3_manyPoints 29 = .ok (.iload_n 1, 1) := by decide +kernel
theorem dX3_manyPoints_30 : decode cX3_manyPoints 30 = .ok (.irem, 1) := by decide +kernel
theorem dX3_manyPoints_31 : decode cX3_manyPoints 31 = .ok (.iload_n 1, 1) := by decide +kernel
theorem dX3_manyPoints_32 : decode cX3_manyPoints 32 = .ok (.invokevirtual 61, 3) := by decide +kernel
theorem dX3_manyPoints_35 : decode cX3_manyPoints 35 = .ok (.iadd, 1) := by decide +kernel
theorem dX3_manyPoints_36 : decode cX3_manyPoints 36 = .ok (.istore 4, 2) := by decide +kernel
theorem dX3_manyPoints_38 : decode cX3_manyPoints 38 = .ok (.iinc 5 1, 3) := by decide +kernel
theorem dX3_manyPoints_41 : decode cX3_manyPoints 41 = .ok (.goto (-35), 3) := by decide +kernel
theorem dX3_manyPoints_44 : decode cX3_manyPoints 44 = .ok (.iload 4, 2) := by decide +kernel
theorem dX3_manyPoints_46 : decode cX3_manyPoints 46 = .ok (.ireturn, 1) := by decide +kernel
set_option maxRecDepth 20000 in
theorem ggX3_manyAt_X1_leastRoot : GoodIn wsX3_manyAt wsX1_leastRoot := goodIn_r _ [6, 7, 8, 9, 10, 11, 5, 12, 16, 17] (by decide +kernel) (by decide +kernel)
set_option maxRecDepth 20000 in
theorem gX3_manyAt_X1_leastRoot : GoodIn wsX3_manyAt (wsV RX3 64 RX1 yX1_leastRoot wsX1_leastRoot) := goodIn_app (goodIn_of _ (by decide +kernel)) ggX3_manyAt_X1_leastRoot
theorem dX3_manyAt_0 : decode cX3_manyAt 0 = .ok (.iload_n 1, 1) := by decide +kernel
theorem dX3_manyAt_1 : decode cX3_manyAt 1 = .ok (.ifCond .ne 5, 3) := by decide +kernel
theorem dX3_manyAt_4 : decode cX3_manyAt 4 = .ok (.iconst 1, 1) := by decide +kernel
theorem dX3_manyAt_5 : decode cX3_manyAt 5 = .ok (.ireturn, 1) := by decide +kernel
theorem dX3_manyAt_6 : decode cX3_manyAt 6 = .ok (.aload_n 0, 1) := by decide +kernel
theorem dX3_manyAt_7 : decode cX3_manyAt 7 = .ok (.getfield 9, 3) := by decide +kernel
theorem dX3_manyAt_10 : decode cX3_manyAt 10 = .ok (.iload_n 1, 1) := by decide +kernel
theorem dX3_manyAt_11 : decode cX3_manyAt 11 = .ok (.iload_n 2, 1) := by decide +kernel
theorem dX3_manyAt_12 : decode cX3_manyAt 12 = .ok (.invokevirtual 64, 3) := by decide +kernel
theorem dX3_manyAt_15 : decode cX3_manyAt 15 = .ok (.ifCond .le 7, 3) := by decide +kernel
theorem dX3_manyAt_18 : decode cX3_manyAt 18 = .ok (.iconst 2, 1) := by decide +kernel
theorem dX3_manyAt_19 : decode cX3_manyAt 19 = .ok (.goto 4, 3) := by decide +kernel
theorem dX3_manyAt_22 : decode cX3_manyAt 22 = .ok (.iconst 0, 1) := by decide +kernel
theorem dX3_manyAt_23 : decode cX3_manyAt 23 = .ok (.ireturn, 1) := by decide +kernel
set_option maxRecDepth 20000 in
theorem ggX3_lesserAt_X0_cubic : GoodIn wsX3_lesserAt wsX0_cubic := goodIn_r _ [7, 8, 9, 10, 28, 29, 30, 31, 32, 33, 34, 35, 36, 37, 38, 39] (by decide +kernel) (by decide +kernel)
set_option maxRecDepth 20000 in
theorem gX3_lesserAt_X0_cubic : GoodIn wsX3_lesserAt (wsV RX3 69 RX0 yX0_cubic wsX0_cubic) := goodIn_app (goodIn_of _ (by decide +kernel)) ggX3_lesserAt_X0_cubic
set_option maxRecDepth 20000 in
theorem ggX3_lesserAt_X1_leastRoot : GoodIn wsX3_lesserAt wsX1_leastRoot := goodIn_r _ [15, 16, 17, 18, 19, 20, 14, 21, 40, 41] (by decide +kernel) (by decide +kernel)
set_option maxRecDepth 20000 in
theorem gX3_lesserAt_X1_leastRoot : GoodIn wsX3_lesserAt (wsV RX3 64 RX1 yX1_leastRoot wsX1_leastRoot) := goodIn_app (goodIn_of _ (by decide +kernel)) ggX3_lesserAt_X1_leastRoot
set_option maxRecDepth 20000 in
theorem ggX3_lesserAt_X5_pair : GoodIn wsX3_lesserAt wsX5_pair := goodIn_r _ [24] (by decide +kernel) (by decide +kernel)
set_option maxRecDepth 20000 in
theorem gX3_lesserAt_X5_pair_n72 : GoodIn wsX3_lesserAt (wsX5_pair) := ggX3_lesserAt_X5_pair
theorem dX3_lesserAt_0 : decode cX3_lesserAt 0 = .ok (.aload_n 0, 1) := by decide +kernel
theorem dX3_lesserAt_1 : decode cX3_lesserAt 1 = .ok (.getfield 9, 3) := by decide +kernel
theorem dX3_lesserAt_4 : decode cX3_lesserAt 4 = .ok (.aload_n 1, 1) := by decide +kernel
theorem dX3_lesserAt_5 : decode cX3_lesserAt 5 = .ok (.iload_n 2, 1) := by decide +kernel
theorem dX3_lesserAt_6 : decode cX3_lesserAt 6 = .ok (.invokevirtual 69, 3) := by decide +kernel
theorem dX3_lesserAt_9 : decode cX3_lesserAt 9 = .ok (.aload_n 1, 1) := by decide +kernel
theorem dX3_lesserAt_10 : decode cX3_lesserAt 10 = .ok (.getfield 32, 3) := by decide +kernel
theorem dX3_lesserAt_13 : decode cX3_lesserAt 13 = .ok (.invokevirtual 64, 3) := by decide +kernel
theorem dX3_lesserAt_16 : decode cX3_lesserAt 16 = .ok (.istore_n 3, 1) := by decide +kernel
theorem dX3_lesserAt_17 : decode cX3_lesserAt 17 = .ok (.iload_n 3, 1) := by decide +kernel
theorem dX3_lesserAt_18 : decode cX3_lesserAt 18 = .ok (.ifCond .ge 7, 3) := by decide +kernel
theorem dX3_lesserAt_21 : decode cX3_lesserAt 21 = .ok (.iconst (-1), 1) := by decide +kernel
theorem dX3_lesserAt_22 : decode cX3_lesserAt 22 = .ok (.goto 8, 3) := by decide +kernel
theorem dX3_lesserAt_25 : decode cX3_lesserAt 25 = .ok (.iload_n 2, 1) := by decide +kernel
theorem dX3_lesserAt_26 : decode cX3_lesserAt 26 = .ok (.iload_n 3, 1) := by decide +kernel
theorem dX3_lesserAt_27 : decode cX3_lesserAt 27 = .ok (.invokestatic 72, 3) := by decide +kernel
theorem dX3_lesserAt_30 : decode cX3_lesserAt 30 = .ok (.ireturn, 1) := by decide +kernel
set_option maxRecDepth 20000 in
theorem ggX3_pointNumber_X0_cubic : GoodIn wsX3_pointNumber wsX0_cubic := goodIn_r _ [6, 7, 8, 9, 42, 43, 44, 45, 46, 47, 48, 49, 50, 51, 52, 53] (by decide +kernel) (by decide +kernel)
set_option maxRecDepth 20000 in
theorem gX3_pointNumber_X0_cubic : GoodIn wsX3_pointNumber (wsV RX3 69 RX0 yX0_cubic wsX0_cubic) := goodIn_app (goodIn_of _ (by decide +kernel)) ggX3_pointNumber_X0_cubic
set_option maxRecDepth 20000 in
theorem ggX3_pointNumber_X3_manyAt : GoodIn wsX3_pointNumber wsX3_manyAt := goodIn_r _ [14, 15, 16, 17, 18, 19, 20, 21, 22, 23, 24, 25, 26, 54, 55, 56, 57, 58] (by decide +kernel) (by decide +kernel)
set_option maxRecDepth 20000 in
theorem gX3_pointNumber_X3_manyAt : GoodIn wsX3_pointNumber (wsV RX3 61 RX3 yX3_manyAt wsX3_manyAt) := goodIn_app (goodIn_of _ (by decide +kernel)) ggX3_pointNumber_X3_manyAt
set_option maxRecDepth 20000 in
theorem ggX3_pointNumber_X3_lesserAt : GoodIn wsX3_pointNumber wsX3_lesserAt := goodIn_r _ [30, 15, 1, 2, 3, 4, 5, 6, 7, 8, 9, 16, 17, 18, 19, 20, 21, 22, 23, 24, 25, 26, 31, 32, 33, 54, 55, 56, 42, 43, 44, 45, 46, 47, 48, 49, 50, 51, 52, 53, 57, 58] (by decide +kernel) (by decide +kernel)
set_option maxRecDepth 20000 in
theorem gX3_pointNumber_X3_lesserAt : GoodIn wsX3_pointNumber (wsV RX3 75 RX3 yX3_lesserAt wsX3_lesserAt) := goodIn_app (goodIn_of _ (by decide +kernel)) ggX3_pointNumber_X3_lesserAt
set_option maxRecDepth 20000 in
theorem ggX3_pointNumber_X0_opposite : GoodIn wsX3_pointNumber wsX0_opposite := goodIn_r _ [37, 8, 38, 32, 39, 40, 41, 31, 33, 42, 43, 44, 45, 46, 47, 48, 49, 50, 51, 52, 53] (by decide +kernel) (by decide +kernel)
set_option maxRecDepth 20000 in
theorem gX3_pointNumber_X0_opposite : GoodIn wsX3_pointNumber (wsV RX3 79 RX0 yX0_opposite wsX0_opposite) := goodIn_app (goodIn_of _ (by decide +kernel)) ggX3_pointNumber_X0_opposite
theorem dX3_pointNumber_0 : decode cX3_pointNumber 0 = .ok (.iload_n 2, 1) := by decide +kernel
theorem dX3_pointNumber_1 : decode cX3_pointNumber 1 = .ok (.iconst 1, 1) := by decide +kernel
theorem dX3_pointNumber_2 : decode cX3_pointNumber 2 = .ok (.if_icmp .ge 5, 3) := by decide +kernel
theorem dX3_pointNumber_5 : decode cX3_pointNumber 5 = .ok (.iconst (-1), 1) := by decide +kernel
theorem dX3_pointNumber_6 : decode cX3_pointNumber 6 = .ok (.ireturn, 1) := by decide +kernel
theorem dX3_pointNumber_7 : decode cX3_pointNumber 7 = .ok (.iconst 1, 1) := by decide +kernel
theorem dX3_pointNumber_8 : decode cX3_pointNumber 8 = .ok (.istore_n 3, 1) := by decide +kernel
theorem dX3_pointNumber_9 : decode cX3_pointNumber 9 = .ok (.iconst 0, 1) := by decide +kernel
theorem dX3_pointNumber_10 : decode cX3_pointNumber 10 = .ok (.istore 4, 2) := by decide +kernel
theorem dX3_pointNumber_12 : decode cX3_pointNumber 12 = .ok (.iload 4, 2) := by decide +kernel
theorem dX3_pointNumber_14 : decode cX3_pointNumber 14 = .ok (.aload_n 1, 1) := by decide +kernel
theorem dX3_pointNumber_15 : decode cX3_pointNumber 15 = .ok (.getfield 32, 3) := by decide +kernel
theorem dX3_pointNumber_18 : decode cX3_pointNumber 18 = .ok (.if_icmp .ge 64, 3) := by decide +kernel
theorem dX3_pointNumber_21 : decode cX3_pointNumber 21 = .ok (.aload_n 0, 1) := by decide +kernel
theorem dX3_pointNumber_22 : decode cX3_pointNumber 22 = .ok (.aload_n 1, 1) := by decide +kernel
theorem dX3_pointNumber_23 : decode cX3_pointNumber 23 = .ok (.iload 4, 2) := by decide +kernel
theorem dX3_pointNumber_25 : decode cX3_pointNumber 25 = .ok (.invokevirtual 69, 3) := by decide +kernel
theorem dX3_pointNumber_28 : decode cX3_pointNumber 28 = .ok (.aload_n 1, 1) := by decide +kernel
theorem dX3_pointNumber_29 : decode cX3_pointNumber 29 = .ok (.getfield 32, 3) := by decide +kernel
theorem dX3_pointNumber_32 : decode cX3_pointNumber 32 = .ok (.invokevirtual 61, 3) := by decide +kernel
theorem dX3_pointNumber_35 : decode cX3_pointNumber 35 = .ok (.istore 5, 2) := by decide +kernel
theorem dX3_pointNumber_37 : decode cX3_pointNumber 37 = .ok (.iload_n 2, 1) := by decide +kernel
theorem dX3_pointNumber_38 : decode cX3_pointNumber 38 = .ok (.iload_n 3, 1) := by decide +kernel
theorem dX3_pointNumber_39 : decode cX3_pointNumber 39 = .ok (.iload 5, 2) := by decide +kernel
theorem dX3_pointNumber_41 : decode cX3_pointNumber 41 = .ok (.iadd, 1) := by decide +kernel
theorem dX3_pointNumber_42 : decode cX3_pointNumber 42 = .ok (.if_icmp .ge 29, 3) := by decide +kernel
theorem dX3_pointNumber_45 : decode cX3_pointNumber 45 = .ok (.aload_n 0, 1) := by decide +kernel
theorem dX3_pointNumber_46 : decode cX3_pointNumber 46 = .ok (.aload_n 1, 1) := by decide +kernel
theorem dX3_pointNumber_47 : decode cX3_pointNumber 47 = .ok (.iload 4, 2) := by decide +kernel
theorem dX3_pointNumber_49 : decode cX3_pointNumber 49 = .ok (.invokevirtual 75, 3) := by decide +kernel
theorem dX3_pointNumber_52 : decode cX3_pointNumber 52 = .ok (.istore 6, 2) := by decide +kernel
theorem dX3_pointNumber_54 : decode cX3_pointNumber 54 = .ok (.iload_n 2, 1) := by decide +kernel
theorem dX3_pointNumber_55 : decode cX3_pointNumber 55 = .ok (.iload_n 3, 1) := by decide +kernel
theorem dX3_pointNumber_56 : decode cX3_pointNumber 56 = .ok (.if_icmp .ne 8, 3) := by decide +kernel
theorem dX3_pointNumber_59 : decode cX3_pointNumber 59 = .ok (.iload 6, 2) := by decide +kernel
theorem dX3_pointNumber_61 : decode cX3_pointNumber 61 = .ok (.goto 9, 3) := by decide +kernel
theorem dX3_pointNumber_64 : decode cX3_pointNumber 64 = .ok (.aload_n 1, 1) := by decide +kernel
theorem dX3_pointNumber_65 : decode cX3_pointNumber 65 = .ok (.iload 6, 2) := by decide +kernel
theorem dX3_pointNumber_67 : decode cX3_pointNumber 67 = .ok (.invokevirtual 79, 3) := by decide +kernel
theorem dX3_pointNumber_70 : decode cX3_pointNumber 70 = .ok (.ireturn, 1) := by decide +kernel
theorem dX3_pointNumber_71 : decode cX3_pointNumber 71 = .ok (.iload_n 3, 1) := by decide +kernel
theorem dX3_pointNumber_72 : decode cX3_pointNumber 72 = .ok (.iload 5, 2) := by decide +kernel
theorem dX3_pointNumber_74 : decode cX3_pointNumber 74 = .ok (.iadd, 1) := by decide +kernel
theorem dX3_pointNumber_75 : decode cX3_pointNumber 75 = .ok (.istore_n 3, 1) := by decide +kernel
theorem dX3_pointNumber_76 : decode cX3_pointNumber 76 = .ok (.iinc 4 1, 3) := by decide +kernel
theorem dX3_pointNumber_79 : decode cX3_pointNumber 79 = .ok (.goto (-67), 3) := by decide +kernel
theorem dX3_pointNumber_82 : decode cX3_pointNumber 82 = .ok (.iconst (-1), 1) := by decide +kernel
theorem dX3_pointNumber_83 : decode cX3_pointNumber 83 = .ok (.ireturn, 1) := by decide +kernel
set_option maxRecDepth 20000 in
theorem ggX3_pointsAhead_X5_xOf : GoodIn wsX3_pointsAhead wsX5_xOf := goodIn_r _ [4] (by decide +kernel) (by decide +kernel)
set_option maxRecDepth 20000 in
theorem gX3_pointsAhead_X5_xOf_n82 : GoodIn wsX3_pointsAhead (wsX5_xOf) := ggX3_pointsAhead_X5_xOf
set_option maxRecDepth 20000 in
theorem ggX3_pointsAhead_X0_cubic : GoodIn wsX3_pointsAhead wsX0_cubic := goodIn_r _ [9, 10, 11, 12, 36, 37, 38, 39, 40, 41, 42, 43, 44, 45, 46, 47] (by decide +kernel) (by decide +kernel)
set_option maxRecDepth 20000 in
theorem gX3_pointsAhead_X0_cubic : GoodIn wsX3_pointsAhead (wsV RX3 69 RX0 yX0_cubic wsX0_cubic) := goodIn_app (goodIn_of _ (by decide +kernel)) ggX3_pointsAhead_X0_cubic
set_option maxRecDepth 20000 in
theorem ggX3_pointsAhead_X3_manyAt : GoodIn wsX3_pointsAhead wsX3_manyAt := goodIn_r _ [17, 18, 19, 20, 21, 22, 23, 24, 25, 26, 27, 28, 29, 48, 49, 50, 51, 52] (by decide +kernel) (by decide +kernel)
set_option maxRecDepth 20000 in
theorem gX3_pointsAhead_X3_manyAt : GoodIn wsX3_pointsAhead (wsV RX3 61 RX3 yX3_manyAt wsX3_manyAt) := goodIn_app (goodIn_of _ (by decide +kernel)) ggX3_pointsAhead_X3_manyAt
set_option maxRecDepth 20000 in
theorem ggX3_pointsAhead_X3_lesserAt : GoodIn wsX3_pointsAhead wsX3_lesserAt := goodIn_r _ [33, 18, 1, 5, 6, 7, 8, 9, 10, 11, 12, 19, 20, 21, 22, 23, 24, 25, 26, 27, 28, 29, 34, 3, 35, 48, 49, 50, 36, 37, 38, 39, 40, 41, 42, 43, 44, 45, 46, 47, 51, 52] (by decide +kernel) (by decide +kernel)
set_option maxRecDepth 20000 in
theorem gX3_pointsAhead_X3_lesserAt : GoodIn wsX3_pointsAhead (wsV RX3 75 RX3 yX3_lesserAt wsX3_lesserAt) := goodIn_app (goodIn_of _ (by decide +kernel)) ggX3_pointsAhead_X3_lesserAt
theorem dX3_pointsAhead_0 : decode cX3_pointsAhead 0 = .ok (.iconst 1, 1) := by decide +kernel
theorem dX3_pointsAhead_1 : decode cX3_pointsAhead 1 = .ok (.istore_n 3, 1) := by decide +kernel
theorem dX3_pointsAhead_2 : decode cX3_pointsAhead 2 = .ok (.iconst 0, 1) := by decide +kernel
theorem dX3_pointsAhead_3 : decode cX3_pointsAhead 3 = .ok (.istore 4, 2) := by decide +kernel
theorem dX3_pointsAhead_5 : decode cX3_pointsAhead 5 = .ok (.iload 4, 2) := by decide +kernel
theorem dX3_pointsAhead_7 : decode cX3_pointsAhead 7 = .ok (.iload_n 2, 1) := by decide +kernel
theorem dX3_pointsAhead_8 : decode cX3_pointsAhead 8 = .ok (.invokestatic 82, 3) := by decide +kernel
theorem dX3_pointsAhead_11 : decode cX3_pointsAhead 11 = .ok (.if_icmp .ge 26, 3) := by decide +kernel
theorem dX3_pointsAhead_14 : decode cX3_pointsAhead 14 = .ok (.iload_n 3, 1) := by decide +kernel
theorem dX3_pointsAhead_15 : decode cX3_pointsAhead 15 = .ok (.aload_n 0, 1) := by decide +kernel
theorem dX3_pointsAhead_16 : decode cX3_pointsAhead 16 = .ok (.aload_n 1, 1) := by decide +kernel
theorem dX3_pointsAhead_17 : decode cX3_pointsAhead 17 = .ok (.iload 4, 2) := by decide +kernel
theorem dX3_pointsAhead_19 : decode cX3_pointsAhead 19 = .ok (.invokevirtual 69, 3) := by decide +kernel
theorem dX3_pointsAhead_22 : decode cX3_pointsAhead 22 = .ok (.aload_n 1, 1) := by decide +kernel
theorem dX3_pointsAhead_23 : decode cX3_pointsAhead 23 = .ok (.getfield 32, 3) := by decide +kernel
theorem dX3_pointsAhead_26 : decode cX3_pointsAhead 26 = .ok (.invokevirtual 61, 3) := by decide +kernel
theorem dX3_pointsAhead_29 : decode cX3_pointsAhead 29 = .ok (.iadd, 1) := by decide +kernel
theorem dX3_pointsAhead_30 : decode cX3_pointsAhead 30 = .ok (.istore_n 3, 1) := by decide +kernel
theorem dX3_pointsAhead_31 : decode cX3_pointsAhead 31 = .ok (.iinc 4 1, 3) := by decide +kernel
theorem dX3_pointsAhead_34 : decode cX3_pointsAhead 34 = .ok (.goto (-29), 3) := by decide +kernel
theorem dX3_pointsAhead_37 : decode cX3_pointsAhead 37 = .ok (.aload_n 0, 1) := by decide +kernel
theorem dX3_pointsAhead_38 : decode cX3_pointsAhead 38 = .ok (.aload_n 1, 1) := by decide +kernel
theorem dX3_pointsAhead_39 : decode cX3_pointsAhead 39 = .ok (.iload_n 2, 1) := by decide +kernel
theorem dX3_pointsAhead_40 : decode cX3_pointsAhead 40 = .ok (.invokestatic 82, 3) := by decide +kernel
theorem dX3_pointsAhead_43 : decode cX3_pointsAhead 43 = .ok (.invokevirtual 75, 3) := by decide +kernel
theorem dX3_pointsAhead_46 : decode cX3_pointsAhead 46 = .ok (.iload_n 2, 1) := by decide +kernel

