theorem dX2_stepsTo_116 : decode cX2_stepsTo 116 = .ok (.iadd, 1) := by decide +kernel
theorem dX2_stepsTo_117 : decode cX2_stepsTo 117 = .ok (.istore 4, 2) := by decide +kernel
theorem dX2_stepsTo_119 : decode cX2_stepsTo 119 = .ok (.goto (-88), 3) := by decide +kernel
theorem dX2_stepsTo_122 : decode cX2_stepsTo 122 = .ok (.iconst (-1), 1) := by decide +kernel
theorem dX2_stepsTo_123 : decode cX2_stepsTo 123 = .ok (.ireturn, 1) := by decide +kernel
theorem dX2_endOf_0 : decode cX2_endOf 0 = .ok (.iload_n 1, 1) := by decide +kernel
theorem dX2_endOf_1 : decode cX2_endOf 1 = .ok (.ifCond .le 21, 3) := by decide +kernel
theorem dX2_endOf_4 : decode cX2_endOf 4 = .ok (.iload_n 1, 1) := by decide +kernel
theorem dX2_endOf_5 : decode cX2_endOf 5 = .ok (.aload_n 0, 1) := by decide +kernel
theorem dX2_endOf_6 : decode cX2_endOf 6 = .ok (.getfield 15, 3) := by decide +kernel
theorem dX2_endOf_9 : decode cX2_endOf 9 = .ok (.arraylength, 1) := by decide +kernel
theorem dX2_endOf_10 : decode cX2_endOf 10 = .ok (.if_icmp .ge 12, 3) := by decide +kernel
theorem dX2_endOf_13 : decode cX2_endOf 13 = .ok (.aload_n 0, 1) := by decide +kernel
theorem dX2_endOf_14 : decode cX2_endOf 14 = .ok (.getfield 15, 3) := by decide +kernel
theorem dX2_endOf_17 : decode cX2_endOf 17 = .ok (.iload_n 1, 1) := by decide +kernel
theorem dX2_endOf_18 : decode cX2_endOf 18 = .ok (.iaload, 1) := by decide +kernel
theorem dX2_endOf_19 : decode cX2_endOf 19 = .ok (.goto 4, 3) := by decide +kernel
theorem dX2_endOf_22 : decode cX2_endOf 22 = .ok (.iconst (-1), 1) := by decide +kernel
theorem dX2_endOf_23 : decode cX2_endOf 23 = .ok (.ireturn, 1) := by decide +kernel
set_option maxRecDepth 20000 in
theorem ggX2_noted_X5_xOf : GoodIn wsX2_noted wsX5_xOf := goodIn_r _ [4] (by decide +kernel) (by decide +kernel)
set_option maxRecDepth 20000 in
theorem gX2_noted_X5_xOf_n57 : GoodIn wsX2_noted (wsX5_xOf) := ggX2_noted_X5_xOf
theorem dX2_noted_0 : decode cX2_noted 0 = .ok (.iload_n 1, 1) := by decide +kernel
theorem dX2_noted_1 : decode cX2_noted 1 = .ok (.invokestatic 57, 3) := by decide +kernel
theorem dX2_noted_4 : decode cX2_noted 4 = .ok (.istore_n 2, 1) := by decide +kernel
theorem dX2_noted_5 : decode cX2_noted 5 = .ok (.iload_n 2, 1) := by decide +kernel
theorem dX2_noted_6 : decode cX2_noted 6 = .ok (.ifCond .lt 21, 3) := by decide +kernel
theorem dX2_noted_9 : decode cX2_noted 9 = .ok (.iload_n 2, 1) := by decide +kernel
theorem dX2_noted_10 : decode cX2_noted 10 = .ok (.aload_n 0, 1) := by decide +kernel
theorem dX2_noted_11 : decode cX2_noted 11 = .ok (.getfield 9, 3) := by decide +kernel
theorem dX2_noted_14 : decode cX2_noted 14 = .ok (.arraylength, 1) := by decide +kernel
theorem dX2_noted_15 : decode cX2_noted 15 = .ok (.if_icmp .ge 12, 3) := by decide +kernel
theorem dX2_noted_18 : decode cX2_noted 18 = .ok (.aload_n 0, 1) := by decide +kernel
theorem dX2_noted_19 : decode cX2_noted 19 = .ok (.getfield 9, 3) := by decide +kernel
theorem dX2_noted_22 : decode cX2_noted 22 = .ok (.iload_n 2, 1) := by decide +kernel
theorem dX2_noted_23 : decode cX2_noted 23 = .ok (.iaload, 1) := by decide +kernel
theorem dX2_noted_24 : decode cX2_noted 24 = .ok (.goto 4, 3) := by decide +kernel
theorem dX2_noted_27 : decode cX2_noted 27 = .ok (.iconst 0, 1) := by decide +kernel
theorem dX2_noted_28 : decode cX2_noted 28 = .ok (.ireturn, 1) := by decide +kernel
set_option maxRecDepth 20000 in
theorem ggX2_note_X5_xOf : GoodIn wsX2_note wsX5_xOf := goodIn_r _ [4] (by decide +kernel) (by decide +kernel)
set_option maxRecDepth 20000 in
theorem gX2_note_X5_xOf_n57 : GoodIn wsX2_note (wsX5_xOf) := ggX2_note_X5_xOf
theorem dX2_note_0 : decode cX2_note 0 = .ok (.iload_n 1, 1) := by decide +kernel
theorem dX2_note_1 : decode cX2_note 1 = .ok (.invokestatic 57, 3) := by decide +kernel
theorem dX2_note_4 : decode cX2_note 4 = .ok (.istore_n 3, 1) := by decide +kernel
theorem dX2_note_5 : decode cX2_note 5 = .ok (.iload_n 3, 1) := by decide +kernel
theorem dX2_note_6 : decode cX2_note 6 = .ok (.ifCond .lt 19, 3) := by decide +kernel
theorem dX2_note_9 : decode cX2_note 9 = .ok (.iload_n 3, 1) := by decide +kernel
theorem dX2_note_10 : decode cX2_note 10 = .ok (.aload_n 0, 1) := by decide +kernel
theorem dX2_note_11 : decode cX2_note 11 = .ok (.getfield 9, 3) := by decide +kernel
theorem dX2_note_14 : decode cX2_note 14 = .ok (.arraylength, 1) := by decide +kernel
theorem dX2_note_15 : decode cX2_note 15 = .ok (.if_icmp .ge 10, 3) := by decide +kernel
theorem dX2_note_18 : decode cX2_note 18 = .ok (.aload_n 0, 1) := by decide +kernel
theorem dX2_note_19 : decode cX2_note 19 = .ok (.getfield 9, 3) := by decide +kernel
theorem dX2_note_22 : decode cX2_note 22 = .ok (.iload_n 3, 1) := by decide +kernel
theorem dX2_note_23 : decode cX2_note 23 = .ok (.iload_n 2, 1) := by decide +kernel
theorem dX2_note_24 : decode cX2_note 24 = .ok (.iastore, 1) := by decide +kernel
theorem dX2_note_25 : decode cX2_note 25 = .ok (.return_, 1) := by decide +kernel
set_option maxRecDepth 20000 in
theorem ggX3_leastRoot_X1_leastRoot : GoodIn wsX3_leastRoot wsX1_leastRoot := goodIn_r _ [6, 7, 8, 9, 10, 11, 5, 12, 16, 17] (by decide +kernel) (by decide +kernel)
set_option maxRecDepth 20000 in
theorem gX3_leastRoot_X1_leastRoot : GoodIn wsX3_leastRoot (wsV RX3 29 RX1 yX1_leastRoot wsX1_leastRoot) := goodIn_app (goodIn_of _ (by decide +kernel)) ggX3_leastRoot_X1_leastRoot
theorem dX3_leastRoot_0 : decode cX3_leastRoot 0 = .ok (.aload_n 0, 1) := by decide +kernel
theorem dX3_leastRoot_1 : decode cX3_leastRoot 1 = .ok (.getfield 12, 3) := by decide +kernel
theorem dX3_leastRoot_4 : decode cX3_leastRoot 4 = .ok (.iload_n 1, 1) := by decide +kernel
theorem dX3_leastRoot_5 : decode cX3_leastRoot 5 = .ok (.iload_n 2, 1) := by decide +kernel
theorem dX3_leastRoot_6 : decode cX3_leastRoot 6 = .ok (.invokevirtual 29, 3) := by decide +kernel
theorem dX3_leastRoot_9 : decode cX3_leastRoot 9 = .ok (.ireturn, 1) := by decide +kernel
set_option maxRecDepth 20000 in
theorem ggX3_sizeOf_X3_manyPoints : GoodIn wsX3_sizeOf wsX3_manyPoints := goodIn_r _ [9, 10, 11, 12, 8, 13, 14, 15, 16, 17, 18, 19, 20, 21, 22, 23, 24, 25, 38, 39, 40, 41, 42] (by decide +kernel) (by decide +kernel)
set_option maxRecDepth 20000 in
theorem gX3_sizeOf_X3_manyPoints : GoodIn wsX3_sizeOf (wsV RX3 48 RX3 yX3_manyPoints wsX3_manyPoints) := goodIn_app (goodIn_of _ (by decide +kernel)) ggX3_sizeOf_X3_manyPoints
theorem dX3_sizeOf_0 : decode cX3_sizeOf 0 = .ok (.aload_n 1, 1) := by decide +kernel
theorem dX3_sizeOf_1 : decode cX3_sizeOf 1 = .ok (.getfield 33, 3) := by decide +kernel
theorem dX3_sizeOf_4 : decode cX3_sizeOf 4 = .ok (.ifCond .ne 23, 3) := by decide +kernel
theorem dX3_sizeOf_7 : decode cX3_sizeOf 7 = .ok (.aload_n 1, 1) := by decide +kernel
theorem dX3_sizeOf_8 : decode cX3_sizeOf 8 = .ok (.aload_n 0, 1) := by decide +kernel
theorem dX3_sizeOf_9 : decode cX3_sizeOf 9 = .ok (.aload_n 1, 1) := by decide +kernel
theorem dX3_sizeOf_10 : decode cX3_sizeOf 10 = .ok (.getfield 39, 3) := by decide +kernel
theorem dX3_sizeOf_13 : decode cX3_sizeOf 13 = .ok (.aload_n 1, 1) := by decide +kernel
theorem dX3_sizeOf_14 : decode cX3_sizeOf 14 = .ok (.getfield 42, 3) := by decide +kernel
theorem dX3_sizeOf_17 : decode cX3_sizeOf 17 = .ok (.aload_n 1, 1) := by decide +kernel
theorem dX3_sizeOf_18 : decode cX3_sizeOf 18 = .ok (.getfield 45, 3) := by decide +kernel
theorem dX3_sizeOf_21 : decode cX3_sizeOf 21 = .ok (.invokevirtual 48, 3) := by decide +kernel
theorem dX3_sizeOf_24 : decode cX3_sizeOf 24 = .ok (.putfield 33, 3) := by decide +kernel
theorem dX3_sizeOf_27 : decode cX3_sizeOf 27 = .ok (.aload_n 1, 1) := by decide +kernel
theorem dX3_sizeOf_28 : decode cX3_sizeOf 28 = .ok (.getfield 33, 3) := by decide +kernel
theorem dX3_sizeOf_31 : decode cX3_sizeOf 31 = .ok (.ireturn, 1) := by decide +kernel
set_option maxRecDepth 20000 in
theorem ggX3_logarithm_X3_sizeOf : GoodIn wsX3_logarithm wsX3_sizeOf := goodIn_r _ [6, 7, 8, 9, 10, 11, 12, 13, 5, 14, 15, 16, 17, 18, 19, 20, 21, 22, 23, 24, 25, 26, 27, 28, 29, 30, 100, 101, 102, 103, 104, 105, 106, 107, 108, 109, 110, 111, 97, 98, 99, 112, 113] (by decide +kernel) (by decide +kernel)
set_option maxRecDepth 20000 in
theorem gX3_logarithm_X3_sizeOf : GoodIn wsX3_logarithm (wsV RX3 52 RX3 yX3_sizeOf wsX3_sizeOf) := goodIn_app (goodIn_of _ (by decide +kernel)) ggX3_logarithm_X3_sizeOf
set_option maxRecDepth 20000 in
theorem ggX3_logarithm_X0_orderWithin : GoodIn wsX3_logarithm wsX0_orderWithin := goodIn_r _ [35, 36, 37, 38, 39, 40, 41, 42, 34, 43, 44, 45, 46, 47, 48, 49, 50, 51, 52, 53, 54, 55, 56, 57, 58, 59, 60, 61, 62, 63, 100, 101, 102, 103, 104, 105, 106, 107, 108, 109, 110, 111] (by decide +kernel) (by decide +kernel)
set_option maxRecDepth 20000 in
theorem gX3_logarithm_X0_orderWithin : GoodIn wsX3_logarithm (wsV RX3 56 RX0 yX0_orderWithin wsX0_orderWithin) := goodIn_app (goodIn_of _ (by decide +kernel)) ggX3_logarithm_X0_orderWithin
set_option maxRecDepth 20000 in
theorem ggX3_logarithm_X2_lay : GoodIn wsX3_logarithm wsX2_lay := goodIn_r _ [68, 69, 70, 71, 72, 73, 74, 75, 76, 67, 77, 78, 79, 80, 81, 82, 52, 50, 53, 83, 57, 58, 34, 59, 48, 60, 49, 51, 61, 62, 38, 63, 54, 55, 84, 45, 46, 47, 114, 115, 116, 117, 118, 119, 100, 101, 102, 103, 104, 105, 106, 107, 108, 109, 110, 111] (by decide +kernel) (by decide +kernel)
set_option maxRecDepth 20000 in
theorem gX3_logarithm_X2_lay : GoodIn wsX3_logarithm (wsV RX3 59 RX2 yX2_lay wsX2_lay) := goodIn_app (goodIn_of _ (by decide +kernel)) ggX3_logarithm_X2_lay
set_option maxRecDepth 20000 in
theorem ggX3_logarithm_X2_stepsTo : GoodIn wsX3_logarithm wsX2_stepsTo := goodIn_r _ [88, 70, 71, 69, 73, 89, 90, 91, 92, 93, 94, 95, 67, 96, 82, 52, 50, 53, 74, 75, 76, 77, 72, 83, 57, 58, 34, 59, 48, 60, 49, 51, 61, 62, 38, 63, 54, 55, 114, 115, 116, 117, 118, 119, 100, 101, 102, 103, 104, 105, 106, 107, 108, 109, 110, 111] (by decide +kernel) (by decide +kernel)
set_option maxRecDepth 20000 in
theorem gX3_logarithm_X2_stepsTo : GoodIn wsX3_logarithm (wsV RX3 63 RX2 yX2_stepsTo wsX2_stepsTo) := goodIn_app (goodIn_of _ (by decide +kernel)) ggX3_logarithm_X2_stepsTo
theorem dX3_logarithm_0 : decode cX3_logarithm 0 = .ok (.aload_n 0, 1) := by decide +kernel
theorem dX3_logarithm_1 : decode cX3_logarithm 1 = .ok (.getfield 21, 3) := by decide +kernel
theorem dX3_logarithm_4 : decode cX3_logarithm 4 = .ok (.aload_n 1, 1) := by decide +kernel
theorem dX3_logarithm_5 : decode cX3_logarithm 5 = .ok (.iload_n 2, 1) := by decide +kernel
theorem dX3_logarithm_6 : decode cX3_logarithm 6 = .ok (.aload_n 1, 1) := by decide +kernel
theorem dX3_logarithm_7 : decode cX3_logarithm 7 = .ok (.iload_n 2, 1) := by decide +kernel
theorem dX3_logarithm_8 : decode cX3_logarithm 8 = .ok (.aload_n 0, 1) := by decide +kernel
theorem dX3_logarithm_9 : decode cX3_logarithm 9 = .ok (.aload_n 1, 1) := by decide +kernel
theorem dX3_logarithm_10 : decode cX3_logarithm 10 = .ok (.invokevirtual 52, 3) := by decide +kernel
theorem dX3_logarithm_13 : decode cX3_logarithm 13 = .ok (.invokevirtual 56, 3) := by decide +kernel
theorem dX3_logarithm_16 : decode cX3_logarithm 16 = .ok (.invokevirtual 59, 3) := by decide +kernel
theorem dX3_logarithm_19 : decode cX3_logarithm 19 = .ok (.aload_n 0, 1) := by decide +kernel
theorem dX3_logarithm_20 : decode cX3_logarithm 20 = .ok (.getfield 21, 3) := by decide +kernel
theorem dX3_logarithm_23 : decode cX3_logarithm 23 = .ok (.iload_n 3, 1) := by decide +kernel
theorem dX3_logarithm_24 : decode cX3_logarithm 24 = .ok (.invokevirtual 63, 3) := by decide +kernel
theorem dX3_logarithm_27 : decode cX3_logarithm 27 = .ok (.ireturn, 1) := by decide +kernel
set_option maxRecDepth 20000 in
theorem ggX3_lesserAt_X0_cubic : GoodIn wsX3_lesserAt wsX0_cubic := goodIn_r _ [7, 8, 9, 10, 28, 29, 30, 31, 32, 33, 34, 35, 36, 37, 38, 39] (by decide +kernel) (by decide +kernel)
set_option maxRecDepth 20000 in
theorem gX3_lesserAt_X0_cubic : GoodIn wsX3_lesserAt (wsV RX3 70 RX0 yX0_cubic wsX0_cubic) := goodIn_app (goodIn_of _ (by decide +kernel)) ggX3_lesserAt_X0_cubic
set_option maxRecDepth 20000 in
theorem ggX3_lesserAt_X1_leastRoot : GoodIn wsX3_lesserAt wsX1_leastRoot := goodIn_r _ [15, 16, 17, 18, 19, 20, 14, 21, 40, 41] (by decide +kernel) (by decide +kernel)
set_option maxRecDepth 20000 in
theorem gX3_lesserAt_X1_leastRoot : GoodIn wsX3_lesserAt (wsV RX3 29 RX1 yX1_leastRoot wsX1_leastRoot) := goodIn_app (goodIn_of _ (by decide +kernel)) ggX3_lesserAt_X1_leastRoot
set_option maxRecDepth 20000 in
theorem ggX3_lesserAt_X5_pair : GoodIn wsX3_lesserAt wsX5_pair := goodIn_r _ [24] (by decide +kernel) (by decide +kernel)
set_option maxRecDepth 20000 in
theorem gX3_lesserAt_X5_pair_n73 : GoodIn wsX3_lesserAt (wsX5_pair) := ggX3_lesserAt_X5_pair
theorem dX3_lesserAt_0 : decode cX3_lesserAt 0 = .ok (.aload_n 0, 1) := by decide +kernel
theorem dX3_lesserAt_1 : decode cX3_lesserAt 1 = .ok (.getfield 12, 3) := by decide +kernel
theorem dX3_lesserAt_4 : decode cX3_lesserAt 4 = .ok (.aload_n 1, 1) := by decide +kernel
theorem dX3_lesserAt_5 : decode cX3_lesserAt 5 = .ok (.iload_n 2, 1) := by decide +kernel
theorem dX3_lesserAt_6 : decode cX3_lesserAt 6 = .ok (.invokevirtual 70, 3) := by decide +kernel
theorem dX3_lesserAt_9 : decode cX3_lesserAt 9 = .ok (.aload_n 1, 1) := by decide +kernel
theorem dX3_lesserAt_10 : decode cX3_lesserAt 10 = .ok (.getfield 39, 3) := by decide +kernel
theorem dX3_lesserAt_13 : decode cX3_lesserAt 13 = .ok (.invokevirtual 29, 3) := by decide +kernel
theorem dX3_lesserAt_16 : decode cX3_lesserAt 16 = .ok (.istore_n 3, 1) := by decide +kernel
theorem dX3_lesserAt_17 : decode cX3_lesserAt 17 = .ok (.iload_n 3, 1) := by decide +kernel
theorem dX3_lesserAt_18 : decode cX3_lesserAt 18 = .ok (.ifCond .ge 7, 3) := by decide +kernel
theorem dX3_lesserAt_21 : decode cX3_lesserAt 21 = .ok (.iconst (-1), 1) := by decide +kernel
theorem dX3_lesserAt_22 : decode cX3_lesserAt 22 = .ok (.goto 8, 3) := by decide +kernel
theorem dX3_lesserAt_25 : decode cX3_lesserAt 25 = .ok (.iload_n 2, 1) := by decide +kernel
theorem dX3_lesserAt_26 : decode cX3_lesserAt 26 = .ok (.iload_n 3, 1) := by decide +kernel
theorem dX3_lesserAt_27 : decode cX3_lesserAt 27 = .ok (.invokestatic 73, 3) := by decide +kernel
theorem dX3_lesserAt_30 : decode cX3_lesserAt 30 = .ok (.ireturn, 1) := by decide +kernel
set_option maxRecDepth 20000 in
theorem ggX3_pointNumber_X0_cubic : GoodIn wsX3_pointNumber wsX0_cubic := goodIn_r _ [6, 7, 8, 9, 42, 43, 44, 45, 46, 47, 48, 49, 50, 51, 52, 53] (by decide +kernel) (by decide +kernel)
set_option maxRecDepth 20000 in
theorem gX3_pointNumber_X0_cubic : GoodIn wsX3_pointNumber (wsV RX3 70 RX0 yX0_cubic wsX0_cubic) := goodIn_app (goodIn_of _ (by decide +kernel)) ggX3_pointNumber_X0_cubic
set_option maxRecDepth 20000 in
theorem ggX3_pointNumber_X3_manyAt : GoodIn wsX3_pointNumber wsX3_manyAt := goodIn_r _ [14, 15, 16, 17, 18, 19, 20, 21, 22, 23, 24, 25, 26, 54, 55, 56, 57, 58] (by decide +kernel) (by decide +kernel)
set_option maxRecDepth 20000 in
theorem gX3_pointNumber_X3_manyAt : GoodIn wsX3_pointNumber (wsV RX3 67 RX3 yX3_manyAt wsX3_manyAt) := goodIn_app (goodIn_of _ (by decide +kernel)) ggX3_pointNumber_X3_manyAt
set_option maxRecDepth 20000 in
theorem ggX3_pointNumber_X3_lesserAt : GoodIn wsX3_pointNumber wsX3_lesserAt := goodIn_r _ [30, 15, 1, 2, 3, 4, 5, 6, 7, 8, 9, 16, 17, 18, 19, 20, 21, 22, 23, 24, 25, 26, 31, 32, 33, 54, 55, 56, 42, 43, 44, 45, 46, 47, 48, 49, 50, 51, 52, 53, 57, 58] (by decide +kernel) (by decide +kernel)
set_option maxRecDepth 20000 in
theorem gX3_pointNumber_X3_lesserAt : GoodIn wsX3_pointNumber (wsV RX3 76 RX3 yX3_lesserAt wsX3_lesserAt) := goodIn_app (goodIn_of _ (by decide +kernel)) ggX3_pointNumber_X3_lesserAt
set_option maxRecDepth 20000 in
theorem ggX3_pointNumber_X0_opposite : GoodIn wsX3_pointNumber wsX0_opposite := goodIn_r _ [37, 8, 38, 32, 39, 40, 41, 31, 33, 42, 43, 44, 45, 46, 47, 48, 49, 50, 51, 52, 53] (by decide +kernel) (by decide +kernel)
set_option maxRecDepth 20000 in
theorem gX3_pointNumber_X0_opposite : GoodIn wsX3_pointNumber (wsV RX3 80 RX0 yX0_opposite wsX0_opposite) := goodIn_app (goodIn_of _ (by decide +kernel)) ggX3_pointNumber_X0_opposite
theorem dX3_pointNumber_0 : decode cX3_pointNumber 0 = .ok (.iload_n 2, 1) := by decide +kernel
theorem dX3_pointNumber_1 : decode cX3_pointNumber 1 = .ok (.iconst 1, 1) := by decide +kernel
theorem dX3_pointNumber_2 : decode cX3_pointNumber 2 = .ok (.if_icmp .ge 5, 3) := by decide +kernel
theorem dX3_pointNumber_5 : decode cX3_pointNumber 5 = .ok (.iconst (-1), 1) := by decide +kernel
theorem dX3_pointNumber_6 : decode cX3_pointNumber 6 = .ok (.ireturn, 1) := by decide +kernel
theorem dX3_pointNumber_7 : decode cX3_pointNumber 7 = .ok (.iconst 1, 1) := by decide +kernel
theorem dX3_pointNumber_8 : decode cX3_pointNumber 8 = .ok (.istore_n 3, 1) := by decide +kernel
theorem dX3_pointNumber_9 : decode cX3_pointNumber 9 = .ok (.iconst 0, 1) := by decide +kernel
theorem dX3_pointNumber_10 : decode cX3_pointNumber 10 = .ok (.istore 4, 2) := by decide +kernel
theorem dX3_pointNumber_12 : decode cX3_pointNumber 12 = .ok (.iload 4, 2) := by decide +kernel
theorem dX3_pointNumber_14 : decode cX3_pointNumber 14 = .ok (.aload_n 1, 1) := by decide +kernel
theorem dX3_pointNumber_15 : decode cX3_pointNumber 15 = .ok (.getfield 39, 3) := by decide +kernel
theorem dX3_pointNumber_18 : decode cX3_pointNumber 18 = .ok (.if_icmp .ge 64, 3) := by decide +kernel
theorem dX3_pointNumber_21 : decode cX3_pointNumber 21 = .ok (.aload_n 0, 1) := by decide +kernel
theorem dX3_pointNumber_22 : decode cX3_pointNumber 22 = .ok (.aload_n 1, 1) := by decide +kernel
theorem dX3_pointNumber_23 : decode cX3_pointNumber 23 = .ok (.iload 4, 2) := by decide +kernel
theorem dX3_pointNumber_25 : decode cX3_pointNumber 25 = .ok (.invokevirtual 70, 3) := by decide +kernel
theorem dX3_pointNumber_28 : decode cX3_pointNumber 28 = .ok (.aload_n 1, 1) := by decide +kernel
theorem dX3_pointNumber_29 : decode cX3_pointNumber 29 = .ok (.getfield 39, 3) := by decide +kernel
theorem dX3_pointNumber_32 : decode cX3_pointNumber 32 = .ok (.invokevirtual 67, 3) := by decide +kernel
theorem dX3_pointNumber_35 : decode cX3_pointNumber 35 = .ok (.istore 5, 2) := by decide +kernel
theorem dX3_pointNumber_37 : decode cX3_pointNumber 37 = .ok (.iload_n 2, 1) := by decide +kernel
theorem dX3_pointNumber_38 : decode cX3_pointNumber 38 = .ok (.iload_n 3, 1) := by decide +kernel
theorem dX3_pointNumber_39 : decode cX3_pointNumber 39 = .ok (.iload 5, 2) := by decide +kernel
theorem dX3_pointNumber_41 : decode cX3_pointNumber 41 = .ok (.iadd, 1) := by decide +kernel
theorem dX3_pointNumber_42 : decode cX3_pointNumber 42 = .ok (.if_icmp .ge 29, 3) := by decide +kernel
theorem dX3_pointNumber_45 : decode cX3_pointNumber 45 = .ok (.aload_n 0, 1) := by decide +kernel
theorem dX3_pointNumber_46 : decode cX3_pointNumber 46 = .ok (.aload_n 1, 1) := by decide +kernel
theorem dX3_pointNumber_47 : decode cX3_pointNumber 47 = .ok (.iload 4, 2) := by decide +kernel
theorem dX3_pointNumber_49 : decode cX3_pointNumber 49 = .ok (.invokevirtual 76, 3) := by decide +kernel
theorem dX3_pointNumber_52 : decode cX3_pointNumber 52 = .ok (.istore 6, 2) := by decide +kernel
theorem dX3_pointNumber_54 : decode cX3_pointNumber 54 = .ok (.iload_n 2, 1) := by decide +kernel
theorem dX3_pointNumber_55 : decode cX3_pointNumber 55 = .ok (.iload_n 3, 1) := by decide +kernel
theorem dX3_pointNumber_56 : decode cX3_pointNumber 56 = .ok (.if_icmp .ne 8, 3) := by decide +kernel
theorem dX3_pointNumber_59 : decode cX3_pointNumber 59 = .ok (.iload 6, 2) := by decide +kernel
theorem dX3_pointNumber_61 : decode cX3_pointNumber 61 = .ok (.goto 9, 3) := by decide +kernel
theorem dX3_pointNumber_64 : decode cX3_pointNumber 64 = .ok (.aload_n 1, 1) := by decide +kernel
theorem dX3_pointNumber_65 : decode cX3_pointNumber 65 = .ok (.iload 6, 2) := by decide +kernel
theorem dX3_pointNumber_67 : decode cX3_pointNumber 67 = .ok (.invokevirtual 80, 3) := by decide +kernel
theorem dX3_pointNumber_70 : decode cX3_pointNumber 70 = .ok (.ireturn, 1) := by decide +kernel
theorem dX3_pointNumber_71 : decode cX3_pointNumber 71 = .ok (.iload_n 3, 1) := by decide +kernel
theorem dX3_pointNumber_72 : decode cX3_pointNumber 72 = .ok (.iload 5, 2) := by decide +kernel
theorem dX3_pointNumber_74 : decode cX3_pointNumber 74 = .ok (.iadd, 1) := by decide +kernel
theorem dX3_pointNumber_75 : decode cX3_pointNumber 75 = .ok (.istore_n 3, 1) := by decide +kernel
theorem dX3_pointNumber_76 : decode cX3_pointNumber 76 = .ok (.iinc 4 1, 3) := by decide +kernel
theorem dX3_pointNumber_79 : decode cX3_pointNumber 79 = .ok (.goto (-67), 3) := by decide +kernel
theorem dX3_pointNumber_82 : decode cX3_pointNumber 82 = .ok (.iconst (-1), 1) := by decide +kernel
theorem dX3_pointNumber_83 : decode cX3_pointNumber 83 = .ok (.ireturn, 1) := by decide +kernel
set_option maxRecDepth 20000 in
theorem ggX3_pointsAhead_X5_xOf : GoodIn wsX3_pointsAhead wsX5_xOf := goodIn_r _ [4] (by decide +kernel) (by decide +kernel)
set_option maxRecDepth 20000 in
theorem gX3_pointsAhead_X5_xOf_n83 : GoodIn wsX3_pointsAhead (wsX5_xOf) := ggX3_pointsAhead_X5_xOf
set_option maxRecDepth 20000 in
theorem ggX3_pointsAhead_X0_cubic : GoodIn wsX3_pointsAhead wsX0_cubic := goodIn_r _ [9, 10, 11, 12, 36, 37, 38, 39, 40, 41, 42, 43, 44, 45, 46, 47] (by decide +kernel) (by decide +kernel)
set_option maxRecDepth 20000 in
theorem gX3_pointsAhead_X0_cubic : GoodIn wsX3_pointsAhead (wsV RX3 70 RX0 yX0_cubic wsX0_cubic) := goodIn_app (goodIn_of _ (by decide +kernel)) ggX3_pointsAhead_X0_cubic
set_option maxRecDepth 20000 in
theorem ggX3_pointsAhead_X3_manyAt : GoodIn wsX3_pointsAhead wsX3_manyAt := goodIn_r _ [17, 18, 19, 20, 21, 22, 23, 24, 25, 26, 27, 28, 29, 48, 49, 50, 51, 52] (by decide +kernel) (by decide +kernel)
set_option maxRecDepth 20000 in
theorem gX3_pointsAhead_X3_manyAt : GoodIn wsX3_pointsAhead (wsV RX3 67 RX3 yX3_manyAt wsX3_manyAt) := goodIn_app (goodIn_of _ (by decide +kernel)) ggX3_pointsAhead_X3_manyAt
set_option maxRecDepth 20000 in
theorem ggX3_pointsAhead_X3_lesserAt : GoodIn wsX3_pointsAhead wsX3_lesserAt := goodIn_r _ [33, 18, 1, 5, 6, 7, 8, 9, 10, 11, 12, 19, 20, 21, 22, 23, 24, 25, 26, 27, 28, 29, 34, 3, 35, 48, 49, 50, 36, 37, 38, 39, 40, 41, 42, 43, 44, 45, 46, 47, 51, 52] (by decide +kernel) (by decide +kernel)
set_option maxRecDepth 20000 in
theorem gX3_pointsAhead_X3_lesserAt : GoodIn wsX3_pointsAhead (wsV RX3 76 RX3 yX3_lesserAt wsX3_lesserAt) := goodIn_app (goodIn_of _ (by decide +kernel)) ggX3_pointsAhead_X3_lesserAt
theorem dX3_pointsAhead_0 : decode cX3_pointsAhead 0 = .ok (.iconst 1, 1) := by decide +kernel
theorem dX3_pointsAhead_1 : decode cX3_pointsAhead 1 = .ok (.istore_n 3, 1) := by decide +kernel
theorem dX3_pointsAhead_2 : decode cX3_pointsAhead 2 = .ok (.iconst 0, 1) := by decide +kernel
theorem dX3_pointsAhead_3 : decode cX3_pointsAhead 3 = .ok (.istore 4, 2) := by decide +kernel
theorem dX3_pointsAhead_5 : decode cX3_pointsAhead 5 = .ok (.iload 4, 2) := by decide +kernel
theorem dX3_pointsAhead_7 : decode cX3_pointsAhead 7 = .ok (.iload_n 2, 1) := by decide +kernel
theorem dX3_pointsAhead_8 : decode cX3_pointsAhead 8 = .ok (.invokestatic 83, 3) := by decide +kernel
theorem dX3_pointsAhead_11 : decode cX3_pointsAhead 11 = .ok (.if_icmp .ge 26, 3) := by decide +kernel
theorem dX3_pointsAhead_14 : decode cX3_pointsAhead 14 = .ok (.iload_n 3, 1) := by decide +kernel
theorem dX3_pointsAhead_15 : decode cX3_pointsAhead 15 = .ok (.aload_n 0, 1) := by decide +kernel
theorem dX3_pointsAhead_16 : decode cX3_pointsAhead 16 = .ok (.aload_n 1, 1) := by decide +kernel
theorem dX3_pointsAhead_17 : decode cX3_pointsAhead 17 = .ok (.iload 4, 2) := by decide +kernel
theorem dX3_pointsAhead_19 : decode cX3_pointsAhead 19 = .ok (.invokevirtual 70, 3) := by decide +kernel
theorem dX3_pointsAhead_22 : decode cX3_pointsAhead 22 = .ok (.aload_n 1, 1) := by decide +kernel
theorem dX3_pointsAhead_23 : decode cX3_pointsAhead 23 = .ok (.getfield 39, 3) := by decide +kernel
theorem dX3_pointsAhead_26 : decode cX3_pointsAhead 26 = .ok (.invokevirtual 67, 3) := by decide +kernel
theorem dX3_pointsAhead_29 : decode cX3_pointsAhead 29 = .ok (.iadd, 1) := by decide +kernel
theorem dX3_pointsAhead_30 : decode cX3_pointsAhead 30 = .ok (.istore_n 3, 1) := by decide +kernel
theorem dX3_pointsAhead_31 : decode cX3_pointsAhead 31 = .ok (.iinc 4 1, 3) := by decide +kernel
theorem dX3_pointsAhead_34 : decode cX3_pointsAhead 34 = .ok (.goto (-29), 3) := by decide +kernel
theorem dX3_pointsAhead_37 : decode cX3_pointsAhead 37 = .ok (.aload_n 0, 1) := by decide +kernel
theorem dX3_pointsAhead_38 : decode cX3_pointsAhead 38 = .ok (.aload_n 1, 1) := by decide +kernel
theorem dX3_pointsAhead_39 : decode cX3_pointsAhead 39 = .ok (.iload_n 2, 1) := by decide +kernel
theorem dX3_pointsAhead_40 : decode cX3_pointsAhead 40 = .ok (.invokestatic 83, 3) := by decide +kernel
theorem dX3_pointsAhead_43 : decode cX3_pointsAhead 43 = .ok (.invokevirtual 76, 3) := by decide +kernel
theorem dX3_pointsAhead_46 : decode cX3_pointsAhead 46 = .ok (.iload_n 2, 1) := by decide +kernel
theorem dX3_pointsAhead_47 : decode cX3_pointsAhead 47 = .ok (.if_icmp .ne 7, 3) := by decide +kernel
theorem dX3_pointsAhead_50 : decode cX3_pointsAhead 50 = .ok (.iload_n 3, 1) := by decide +kernel
theorem dX3_pointsAhead_51 : decode cX3_pointsAhead 51 = .ok (.goto 6, 3) := by decide +kernel
theorem dX3_pointsAhead_54 : decode cX3_pointsAhead 54 = .ok (.iload_n 3, 1) := by decide +kernel
theorem dX3_pointsAhead_55 : decode cX3_pointsAhead 55 = .ok (.iconst 1, 1) := by decide +kernel
theorem dX3_pointsAhead_56 : decode cX3_pointsAhead 56 = .ok (.iadd, 1) := by decide +kernel
theorem dX3_pointsAhead_57 : decode cX3_pointsAhead 57 = .ok (.ireturn, 1) := by decide +kernel
set_option maxRecDepth 20000 in
theorem ggX3_settle_X3_sizeOf : GoodIn wsX3_settle wsX3_sizeOf := goodIn_r _ [9, 3, 2, 10, 11, 12, 13, 14, 8, 15, 16, 17, 18, 19, 20, 21, 22, 23, 24, 25, 26, 27, 28, 29, 30, 31, 121, 122, 123, 124, 125, 126, 127, 128, 129, 130, 131, 132, 133, 134, 135, 136, 137] (by decide +kernel) (by decide +kernel)
set_option maxRecDepth 20000 in
theorem gX3_settle_X3_sizeOf : GoodIn wsX3_settle (wsV RX3 52 RX3 yX3_sizeOf wsX3_sizeOf) := goodIn_app (goodIn_of _ (by decide +kernel)) ggX3_settle_X3_sizeOf
set_option maxRecDepth 20000 in
theorem ggX3_settle_X4_leastFactor : GoodIn wsX3_settle wsX4_leastFactor := goodIn_r _ [35] (by decide +kernel) (by decide +kernel)
set_option maxRecDepth 20000 in
theorem gX3_settle_X4_leastFactor : GoodIn wsX3_settle (va_wsS RX3 89 yX4_leastFactor wsX4_leastFactor) := goodIn_app (goodIn_of _ (by decide +kernel)) ggX3_settle_X4_leastFactor
set_option maxRecDepth 20000 in
theorem ggX3_settle_X4_partOf : GoodIn wsX3_settle wsX4_partOf := goodIn_r _ [38] (by decide +kernel) (by decide +kernel)
set_option maxRecDepth 20000 in
theorem gX3_settle_X4_partOf : GoodIn wsX3_settle (va_wsS RX3 94 yX4_partOf wsX4_partOf) := goodIn_app (goodIn_of _ (by decide +kernel)) ggX3_settle_X4_partOf
set_option maxRecDepth 20000 in
theorem ggX3_settle_X3_innerPart : GoodIn wsX3_settle wsX3_innerPart := goodIn_r _ [42, 43, 2, 3, 44, 45, 46, 47, 48, 49, 50, 51, 52, 53, 54, 55, 56, 57, 58, 59, 60, 61, 62, 63, 64, 65, 66, 67, 68, 69, 70, 71, 72, 73, 74, 75, 76, 34, 77, 78, 79, 80, 81, 82, 83, 84, 85, 86, 8, 87, 20, 88, 89, 90, 91, 92, 21, 22, 23, 24, 25, 26, 27, 28, 29, 30, 31, 93, 94, 95, 96, 97, 98, 99, 100, 101, 102, 103, 33, 35, 104, 105, 106, 107, 108, 109, 110, 111, 112, 113, 114, 115, 116, 117, 118, 119, 120, 133, 134, 135, 121, 122, 123, 124, 125, 126, 127, 128, 129, 130, 131, 132, 138, 139, 140, 141, 142, 143, 136, 137] (by decide +kernel) (by decide +kernel)
set_option maxRecDepth 20000 in
theorem gX3_settle_X3_innerPart : GoodIn wsX3_settle (wsV RX3 97 RX3 yX3_innerPart wsX3_innerPart) := goodIn_app (goodIn_of _ (by decide +kernel)) ggX3_settle_X3_innerPart
theorem dX3_settle_0 : decode cX3_settle 0 = .ok (.aload_n 1, 1) := by decide +kernel
theorem dX3_settle_1 : decode cX3_settle 1 = .ok (.getfield 86, 3) := by decide +kernel
theorem dX3_settle_4 : decode cX3_settle 4 = .ok (.ifCond .le 4, 3) := by decide +kernel
theorem dX3_settle_7 : decode cX3_settle 7 = .ok (.return_, 1) := by decide +kernel
theorem dX3_settle_8 : decode cX3_settle 8 = .ok (.iconst 1, 1) := by decide +kernel
theorem dX3_settle_9 : decode cX3_settle 9 = .ok (.istore_n 2, 1) := by decide +kernel
theorem dX3_settle_10 : decode cX3_settle 10 = .ok (.aload_n 0, 1) := by decide +kernel
theorem dX3_settle_11 : decode cX3_settle 11 = .ok (.aload_n 1, 1) := by decide +kernel
theorem dX3_settle_12 : decode cX3_settle 12 = .ok (.invokevirtual 52, 3) := by decide +kernel
theorem dX3_settle_15 : decode cX3_settle 15 = .ok (.istore_n 3, 1) := by decide +kernel
theorem dX3_settle_16 : decode cX3_settle 16 = .ok (.iconst 0, 1) := by decide +kernel
theorem dX3_settle_17 : decode cX3_settle 17 = .ok (.istore 4, 2) := by decide +kernel
theorem dX3_settle_19 : decode cX3_settle 19 = .ok (.iload 4, 2) := by decide +kernel
theorem dX3_settle_21 : decode cX3_settle 21 = .ok (.bipush 32, 2) := by decide +kernel
theorem dX3_settle_23 : decode cX3_settle 23 = .ok (.if_icmp .ge 64, 3) := by decide +kernel
theorem dX3_settle_26 : decode cX3_settle 26 = .ok (.iload_n 3, 1) := by decide +kernel
theorem dX3_settle_27 : decode cX3_settle 27 = .ok (.iconst 1, 1) := by decide +kernel
theorem dX3_settle_28 : decode cX3_settle 28 = .ok (.if_icmp .le 59, 3) := by decide +kernel
theorem dX3_settle_31 : decode cX3_settle 31 = .ok (.iload_n 3, 1) := by decide +kernel
theorem dX3_settle_32 : decode cX3_settle 32 = .ok (.invokestatic 89, 3) := by decide +kernel
theorem dX3_settle_35 : decode cX3_settle 35 = .ok (.istore 5, 2) := by decide +kernel
theorem dX3_settle_37 : decode cX3_settle 37 = .ok (.iload_n 3, 1) := by decide +kernel
theorem dX3_settle_38 : decode cX3_settle 38 = .ok (.iload 5, 2) := by decide +kernel
theorem dX3_settle_40 : decode cX3_settle 40 = .ok (.invokestatic 94, 3) := by decide +kernel
theorem dX3_settle_43 : decode cX3_settle 43 = .ok (.istore 6, 2) := by decide +kernel
theorem dX3_settle_45 : decode cX3_settle 45 = .ok (.iload_n 3, 1) := by decide +kernel
theorem dX3_settle_46 : decode cX3_settle 46 = .ok (.iload 6, 2) := by decide +kernel
theorem dX3_settle_48 : decode cX3_settle 48 = .ok (.idiv, 1) := by decide +kernel
theorem dX3_settle_49 : decode cX3_settle 49 = .ok (.istore_n 3, 1) := by decide +kernel
theorem dX3_settle_50 : decode cX3_settle 50 = .ok (.iload 6, 2) := by decide +kernel
theorem dX3_settle_52 : decode cX3_settle 52 = .ok (.iload 5, 2) := by decide +kernel
theorem dX3_settle_54 : decode cX3_settle 54 = .ok (.if_icmp .le 27, 3) := by decide +kernel
theorem dX3_settle_57 : decode cX3_settle 57 = .ok (.aload_n 1, 1) := by decide +kernel
theorem dX3_settle_58 : decode cX3_settle 58 = .ok (.getfield 39, 3) := by decide +kernel
theorem dX3_settle_61 : decode cX3_settle 61 = .ok (.iconst 1, 1) := by decide +kernel
theorem dX3_settle_62 : decode cX3_settle 62 = .ok (.isub, 1) := by decide +kernel
theorem dX3_settle_63 : decode cX3_settle 63 = .ok (.iload 5, 2) := by decide +kernel
theorem dX3_settle_65 : decode cX3_settle 65 = .ok (.irem, 1) := by decide +kernel
theorem dX3_settle_66 : decode cX3_settle 66 = .ok (.ifCond .ne 15, 3) := by decide +kernel
theorem dX3_settle_69 : decode cX3_settle 69 = .ok (.iload_n 2, 1) := by decide +kernel
theorem dX3_settle_70 : decode cX3_settle 70 = .ok (.aload_n 0, 1) := by decide +kernel
theorem dX3_settle_71 : decode cX3_settle 71 = .ok (.aload_n 1, 1) := by decide +kernel
theorem dX3_settle_72 : decode cX3_settle 72 = .ok (.iload 5, 2) := by decide +kernel
theorem dX3_settle_74 : decode cX3_settle 74 = .ok (.iload 6, 2) := by decide +kernel
theorem dX3_settle_76 : decode cX3_settle 76 = .ok (.invokevirtual 97, 3) := by decide +kernel
theorem dX3_settle_79 : decode cX3_settle 79 = .ok (.imul, 1) := by decide +kernel
theorem dX3_settle_80 : decode cX3_settle 80 = .ok (.istore_n 2, 1) := by decide +kernel
theorem dX3_settle_81 : decode cX3_settle 81 = .ok (.iinc 4 1, 3) := by decide +kernel
theorem dX3_settle_84 : decode cX3_settle 84 = .ok (.goto (-65), 3) := by decide +kernel
theorem dX3_settle_87 : decode cX3_settle 87 = .ok (.aload_n 1, 1) := by decide +kernel
theorem dX3_settle_88 : decode cX3_settle 88 = .ok (.iload_n 2, 1) := by decide +kernel
theorem dX3_settle_89 : decode cX3_settle 89 = .ok (.putfield 86, 3) := by decide +kernel
theorem dX3_settle_92 : decode cX3_settle 92 = .ok (.aload_n 1, 1) := by decide +kernel
theorem dX3_settle_93 : decode cX3_settle 93 = .ok (.aload_n 1, 1) := by decide +kernel
theorem dX3_settle_94 : decode cX3_settle 94 = .ok (.getfield 33, 3) := by decide +kernel
theorem dX3_settle_97 : decode cX3_settle 97 = .ok (.iload_n 2, 1) := by decide +kernel
theorem dX3_settle_98 : decode cX3_settle 98 = .ok (.idiv, 1) := by decide +kernel
theorem dX3_settle_99 : decode cX3_settle 99 = .ok (.putfield 101, 3) := by decide +kernel
theorem dX3_settle_102 : decode cX3_settle 102 = .ok (.return_, 1) := by decide +kernel
set_option maxRecDepth 20000 in
theorem ggX3_innerPart_X2_lay : GoodIn wsX3_innerPart wsX2_lay := goodIn_r _ [8, 9, 10, 11, 12, 13, 14, 15, 16, 7, 17, 18, 19, 20, 21, 22, 23, 24, 25, 26, 27, 28, 29, 30, 31, 32, 33, 34, 35, 36, 37, 38, 39, 40, 41, 42, 43, 44, 112, 113, 114, 115, 116, 117, 100, 101, 102, 103, 104, 105, 106, 107, 108, 109, 110, 111] (by decide +kernel) (by decide +kernel)
set_option maxRecDepth 20000 in
theorem gX3_innerPart_X2_lay : GoodIn wsX3_innerPart (wsV RX3 59 RX2 yX2_lay wsX2_lay) := goodIn_app (goodIn_of _ (by decide +kernel)) ggX3_innerPart_X2_lay
set_option maxRecDepth 20000 in
theorem ggX3_innerPart_X3_lesserAt : GoodIn wsX3_innerPart wsX3_lesserAt := goodIn_r _ [49, 50, 2, 51, 52, 53, 29, 54, 32, 31, 55, 56, 57, 58, 59, 60, 61, 62, 63, 64, 65, 66, 39, 24, 40, 97, 98, 99, 100, 101, 102, 103, 104, 105, 106, 107, 108, 109, 110, 111, 118, 119] (by decide +kernel) (by decide +kernel)
set_option maxRecDepth 20000 in
theorem gX3_innerPart_X3_lesserAt : GoodIn wsX3_innerPart (wsV RX3 76 RX3 yX3_lesserAt wsX3_lesserAt) := goodIn_app (goodIn_of _ (by decide +kernel)) ggX3_innerPart_X3_lesserAt
set_option maxRecDepth 20000 in
theorem ggX3_innerPart_X0_multiple : GoodIn wsX3_innerPart wsX0_multiple := goodIn_r _ [70, 71, 42, 43, 29, 44, 31, 33, 24, 34, 23, 25, 39, 40, 72, 27, 28, 30, 32, 35, 36, 37, 38, 100, 101, 102, 103, 104, 105, 106, 107, 108, 109, 110, 111] (by decide +kernel) (by decide +kernel)
set_option maxRecDepth 20000 in
theorem gX3_innerPart_X0_multiple : GoodIn wsX3_innerPart (wsV RX3 104 RX0 yX0_multiple wsX0_multiple) := goodIn_app (goodIn_of _ (by decide +kernel)) ggX3_innerPart_X0_multiple
set_option maxRecDepth 20000 in
theorem ggX3_innerPart_X0_orderWithin : GoodIn wsX3_innerPart wsX0_orderWithin := goodIn_r _ [76, 77, 78, 37, 79, 80, 68, 69, 29, 70, 71, 42, 43, 44, 31, 33, 24, 34, 23, 25, 39, 40, 72, 27, 28, 30, 32, 35, 36, 38, 100, 101, 102, 103, 104, 105, 106, 107, 108, 109, 110, 111] (by decide +kernel) (by decide +kernel)
set_option maxRecDepth 20000 in
theorem gX3_innerPart_X0_orderWithin : GoodIn wsX3_innerPart (wsV RX3 56 RX0 yX0_orderWithin wsX0_orderWithin) := goodIn_app (goodIn_of _ (by decide +kernel)) ggX3_innerPart_X0_orderWithin
set_option maxRecDepth 20000 in
theorem ggX3_innerPart_X3_powerToLaid : GoodIn wsX3_innerPart wsX3_powerToLaid := goodIn_r _ [84, 1, 85, 86, 87, 7, 88, 10, 11, 9, 13, 89, 90, 91, 92, 93, 94, 95, 96, 22, 23, 24, 25, 14, 15, 16, 17, 12, 26, 27, 28, 29, 30, 31, 32, 33, 34, 35, 36, 37, 38, 39, 40, 67, 68, 69, 70, 71, 42, 43, 44, 72, 97, 98, 99, 112, 113, 114, 115, 116, 117, 100, 101, 102, 103, 104, 105, 106, 107, 108, 109, 110, 111] (by decide +kernel) (by decide +kernel)
set_option maxRecDepth 20000 in
theorem gX3_innerPart_X3_powerToLaid : GoodIn wsX3_innerPart (wsV RX3 108 RX3 yX3_powerToLaid wsX3_powerToLaid) := goodIn_app (goodIn_of _ (by decide +kernel)) ggX3_innerPart_X3_powerToLaid
theorem dX3_innerPart_0 : decode cX3_innerPart 0 = .ok (.iconst (-1), 1) := by decide +kernel
theorem dX3_innerPart_1 : decode cX3_innerPart 1 = .ok (.istore 4, 2) := by decide +kernel
theorem dX3_innerPart_3 : decode cX3_innerPart 3 = .ok (.iconst 1, 1) := by decide +kernel
theorem dX3_innerPart_4 : decode cX3_innerPart 4 = .ok (.istore 5, 2) := by decide +kernel
theorem dX3_innerPart_6 : decode cX3_innerPart 6 = .ok (.aload_n 0, 1) := by decide +kernel
theorem dX3_innerPart_7 : decode cX3_innerPart 7 = .ok (.getfield 21, 3) := by decide +kernel
theorem dX3_innerPart_10 : decode cX3_innerPart 10 = .ok (.aload_n 1, 1) := by decide +kernel
theorem dX3_innerPart_11 : decode cX3_innerPart 11 = .ok (.iload 4, 2) := by decide +kernel
theorem dX3_innerPart_13 : decode cX3_innerPart 13 = .ok (.iload 5, 2) := by decide +kernel
theorem dX3_innerPart_15 : decode cX3_innerPart 15 = .ok (.invokevirtual 59, 3) := by decide +kernel
theorem dX3_innerPart_18 : decode cX3_innerPart 18 = .ok (.iconst 0, 1) := by decide +kernel
theorem dX3_innerPart_19 : decode cX3_innerPart 19 = .ok (.istore 6, 2) := by decide +kernel
theorem dX3_innerPart_21 : decode cX3_innerPart 21 = .ok (.iload 6, 2) := by decide +kernel
theorem dX3_innerPart_23 : decode cX3_innerPart 23 = .ok (.aload_n 1, 1) := by decide +kernel
theorem dX3_innerPart_24 : decode cX3_innerPart 24 = .ok (.getfield 39, 3) := by decide +kernel
theorem dX3_innerPart_27 : decode cX3_innerPart 27 = .ok (.if_icmp .ge 108, 3) := by decide +kernel
theorem dX3_innerPart_30 : decode cX3_innerPart 30 = .ok (.aload_n 0, 1) := by decide +kernel
theorem dX3_innerPart_31 : decode cX3_innerPart 31 = .ok (.aload_n 1, 1) := by decide +kernel
theorem dX3_innerPart_32 : decode cX3_innerPart 32 = .ok (.iload 6, 2) := by decide +kernel
theorem dX3_innerPart_34 : decode cX3_innerPart 34 = .ok (.invokevirtual 76, 3) := by decide +kernel
theorem dX3_innerPart_37 : decode cX3_innerPart 37 = .ok (.istore 7, 2) := by decide +kernel
theorem dX3_innerPart_39 : decode cX3_innerPart 39 = .ok (.iload 7, 2) := by decide +kernel
theorem dX3_innerPart_41 : decode cX3_innerPart 41 = .ok (.iconst (-1), 1) := by decide +kernel
theorem dX3_innerPart_42 : decode cX3_innerPart 42 = .ok (.if_icmp .ne 6, 3) := by decide +kernel
theorem dX3_innerPart_45 : decode cX3_innerPart 45 = .ok (.goto 84, 3) := by decide +kernel
theorem dX3_innerPart_48 : decode cX3_innerPart 48 = .ok (.aload_n 1, 1) := by decide +kernel
theorem dX3_innerPart_49 : decode cX3_innerPart 49 = .ok (.iload 7, 2) := by decide +kernel
theorem dX3_innerPart_51 : decode cX3_innerPart 51 = .ok (.aload_n 1, 1) := by decide +kernel
theorem dX3_innerPart_52 : decode cX3_innerPart 52 = .ok (.getfield 33, 3) := by decide +kernel
theorem dX3_innerPart_55 : decode cX3_innerPart 55 = .ok (.iload_n 3, 1) := by decide +kernel
theorem dX3_innerPart_56 : decode cX3_innerPart 56 = .ok (.idiv, 1) := by decide +kernel
theorem dX3_innerPart_57 : decode cX3_innerPart 57 = .ok (.i2l, 1) := by decide +kernel
theorem dX3_innerPart_58 : decode cX3_innerPart 58 = .ok (.invokevirtual 104, 3) := by decide +kernel
theorem dX3_innerPart_61 : decode cX3_innerPart 61 = .ok (.istore 7, 2) := by decide +kernel
theorem dX3_innerPart_63 : decode cX3_innerPart 63 = .ok (.aload_n 1, 1) := by decide +kernel
theorem dX3_innerPart_64 : decode cX3_innerPart 64 = .ok (.iload 7, 2) := by decide +kernel
theorem dX3_innerPart_66 : decode cX3_innerPart 66 = .ok (.iload_n 3, 1) := by decide +kernel
theorem dX3_innerPart_67 : decode cX3_innerPart 67 = .ok (.invokevirtual 56, 3) := by decide +kernel
theorem dX3_innerPart_70 : decode cX3_innerPart 70 = .ok (.istore 8, 2) := by decide +kernel
theorem dX3_innerPart_72 : decode cX3_innerPart 72 = .ok (.iload 8, 2) := by decide +kernel
theorem dX3_innerPart_74 : decode cX3_innerPart 74 = .ok (.iload 5, 2) := by decide +kernel
theorem dX3_innerPart_76 : decode cX3_innerPart 76 = .ok (.if_icmp .le 31, 3) := by decide +kernel
theorem dX3_innerPart_79 : decode cX3_innerPart 79 = .ok (.iload 4, 2) := by decide +kernel
theorem dX3_innerPart_81 : decode cX3_innerPart 81 = .ok (.istore 9, 2) := by decide +kernel
theorem dX3_innerPart_83 : decode cX3_innerPart 83 = .ok (.iload 7, 2) := by decide +kernel
theorem dX3_innerPart_85 : decode cX3_innerPart 85 = .ok (.istore 4, 2) := by decide +kernel
theorem dX3_innerPart_87 : decode cX3_innerPart 87 = .ok (.iload 9, 2) := by decide +kernel
theorem dX3_innerPart_89 : decode cX3_innerPart 89 = .ok (.istore 7, 2) := by decide +kernel
theorem dX3_innerPart_91 : decode cX3_innerPart 91 = .ok (.iload 8, 2) := by decide +kernel
theorem dX3_innerPart_93 : decode cX3_innerPart 93 = .ok (.istore 5, 2) := by decide +kernel
theorem dX3_innerPart_95 : decode cX3_innerPart 95 = .ok (.aload_n 0, 1) := by decide +kernel
theorem dX3_innerPart_96 : decode cX3_innerPart 96 = .ok (.getfield 21, 3) := by decide +kernel
theorem dX3_innerPart_99 : decode cX3_innerPart 99 = .ok (.aload_n 1, 1) := by decide +kernel
theorem dX3_innerPart_100 : decode cX3_innerPart 100 = .ok (.iload 4, 2) := by decide +kernel
theorem dX3_innerPart_102 : decode cX3_innerPart 102 = .ok (.iload 5, 2) := by decide +kernel
theorem dX3_innerPart_104 : decode cX3_innerPart 104 = .ok (.invokevirtual 59, 3) := by decide +kernel
theorem dX3_innerPart_107 : decode cX3_innerPart 107 = .ok (.aload_n 0, 1) := by decide +kernel
theorem dX3_innerPart_108 : decode cX3_innerPart 108 = .ok (.aload_n 1, 1) := by decide +kernel
theorem dX3_innerPart_109 : decode cX3_innerPart 109 = .ok (.iload 7, 2) := by decide +kernel
theorem dX3_innerPart_111 : decode cX3_innerPart 111 = .ok (.iload_n 2, 1) := by decide +kernel
theorem dX3_innerPart_112 : decode cX3_innerPart 112 = .ok (.invokevirtual 108, 3) := by decide +kernel
theorem dX3_innerPart_115 : decode cX3_innerPart 115 = .ok (.istore 9, 2) := by decide +kernel
theorem dX3_innerPart_117 : decode cX3_innerPart 117 = .ok (.iload 9, 2) := by decide +kernel
theorem dX3_innerPart_119 : decode cX3_innerPart 119 = .ok (.iload 5, 2) := by decide +kernel
theorem dX3_innerPart_121 : decode cX3_innerPart 121 = .ok (.imul, 1) := by decide +kernel
theorem dX3_innerPart_122 : decode cX3_innerPart 122 = .ok (.iload_n 3, 1) := by decide +kernel
theorem dX3_innerPart_123 : decode cX3_innerPart 123 = .ok (.if_icmp .lt 6, 3) := by decide +kernel
theorem dX3_innerPart_126 : decode cX3_innerPart 126 = .ok (.iload 9, 2) := by decide +kernel
theorem dX3_innerPart_128 : decode cX3_innerPart 128 = .ok (.ireturn, 1) := by decide +kernel
theorem dX3_innerPart_129 : decode cX3_innerPart 129 = .ok (.iinc 6 1, 3) := by decide +kernel
theorem dX3_innerPart_132 : decode cX3_innerPart 132 = .ok (.goto (-111), 3) := by decide +kernel
theorem dX3_innerPart_135 : decode cX3_innerPart 135 = .ok (.iconst 1, 1) := by decide +kernel
theorem dX3_innerPart_136 : decode cX3_innerPart 136 = .ok (.ireturn, 1) := by decide +kernel
set_option maxRecDepth 20000 in
theorem ggX3_powerToLaid_X2_stepsTo : GoodIn wsX3_powerToLaid wsX2_stepsTo := goodIn_r _ [6, 7, 8, 9, 10, 11, 12, 13, 14, 15, 16, 17, 5, 18, 19, 20, 21, 22, 23, 24, 25, 26, 27, 28, 29, 30, 31, 32, 33, 34, 35, 36, 37, 38, 39, 40, 41, 42, 55, 56, 57, 58, 59, 60, 61, 62, 63, 64, 65, 66, 67, 68, 69, 70, 71, 72] (by decide +kernel) (by decide +kernel)
set_option maxRecDepth 20000 in
theorem gX3_powerToLaid_X2_stepsTo : GoodIn wsX3_powerToLaid (wsV RX3 63 RX2 yX2_stepsTo wsX2_stepsTo) := goodIn_app (goodIn_of _ (by decide +kernel)) ggX3_powerToLaid_X2_stepsTo
set_option maxRecDepth 20000 in
theorem ggX3_powerToLaid_X0_multiple : GoodIn wsX3_powerToLaid wsX0_multiple := goodIn_r _ [46, 47, 48, 49, 31, 50, 33, 35, 21, 36, 20, 22, 41, 42, 51, 29, 30, 32, 34, 37, 38, 39, 40, 61, 62, 63, 64, 65, 66, 67, 68, 69, 70, 71, 72] (by decide +kernel) (by decide +kernel)
set_option maxRecDepth 20000 in
theorem gX3_powerToLaid_X0_multiple : GoodIn wsX3_powerToLaid (wsV RX3 104 RX0 yX0_multiple wsX0_multiple) := goodIn_app (goodIn_of _ (by decide +kernel)) ggX3_powerToLaid_X0_multiple
theorem dX3_powerToLaid_0 : decode cX3_powerToLaid 0 = .ok (.iconst 1, 1) := by decide +kernel
theorem dX3_powerToLaid_1 : decode cX3_powerToLaid 1 = .ok (.istore 4, 2) := by decide +kernel
theorem dX3_powerToLaid_3 : decode cX3_powerToLaid 3 = .ok (.iload_n 2, 1) := by decide +kernel
theorem dX3_powerToLaid_4 : decode cX3_powerToLaid 4 = .ok (.istore 5, 2) := by decide +kernel
theorem dX3_powerToLaid_6 : decode cX3_powerToLaid 6 = .ok (.iconst 0, 1) := by decide +kernel
theorem dX3_powerToLaid_7 : decode cX3_powerToLaid 7 = .ok (.istore 6, 2) := by decide +kernel
theorem dX3_powerToLaid_9 : decode cX3_powerToLaid 9 = .ok (.iload 6, 2) := by decide +kernel
theorem dX3_powerToLaid_11 : decode cX3_powerToLaid 11 = .ok (.bipush 32, 2) := by decide +kernel
theorem dX3_powerToLaid_13 : decode cX3_powerToLaid 13 = .ok (.if_icmp .ge 38, 3) := by decide +kernel
theorem dX3_powerToLaid_16 : decode cX3_powerToLaid 16 = .ok (.aload_n 0, 1) := by decide +kernel
theorem dX3_powerToLaid_17 : decode cX3_powerToLaid 17 = .ok (.getfield 21, 3) := by decide +kernel
theorem dX3_powerToLaid_20 : decode cX3_powerToLaid 20 = .ok (.iload 5, 2) := by decide +kernel
theorem dX3_powerToLaid_22 : decode cX3_powerToLaid 22 = .ok (.invokevirtual 63, 3) := by decide +kernel
theorem dX3_powerToLaid_25 : decode cX3_powerToLaid 25 = .ok (.iconst (-1), 1) := by decide +kernel
theorem dX3_powerToLaid_26 : decode cX3_powerToLaid 26 = .ok (.if_icmp .ne 25, 3) := by decide +kernel
theorem dX3_powerToLaid_29 : decode cX3_powerToLaid 29 = .ok (.aload_n 1, 1) := by decide +kernel
theorem dX3_powerToLaid_30 : decode cX3_powerToLaid 30 = .ok (.iload 5, 2) := by decide +kernel
theorem dX3_powerToLaid_32 : decode cX3_powerToLaid 32 = .ok (.iload_n 3, 1) := by decide +kernel
theorem dX3_powerToLaid_33 : decode cX3_powerToLaid 33 = .ok (.i2l, 1) := by decide +kernel
theorem dX3_powerToLaid_34 : decode cX3_powerToLaid 34 = .ok (.invokevirtual 104, 3) := by decide +kernel
theorem dX3_powerToLaid_37 : decode cX3_powerToLaid 37 = .ok (.istore 5, 2) := by decide +kernel
theorem dX3_powerToLaid_39 : decode cX3_powerToLaid 39 = .ok (.iload 4, 2) := by decide +kernel
theorem dX3_powerToLaid_41 : decode cX3_powerToLaid 41 = .ok (.iload_n 3, 1) := by decide +kernel
theorem dX3_powerToLaid_42 : decode cX3_powerToLaid 42 = .ok (.imul, 1) := by decide +kernel
theorem dX3_powerToLaid_43 : decode cX3_powerToLaid 43 = .ok (.istore 4, 2) := by decide +kernel
theorem dX3_powerToLaid_45 : decode cX3_powerToLaid 45 = .ok (.iinc 6 1, 3) := by decide +kernel
theorem dX3_powerToLaid_48 : decode cX3_powerToLaid 48 = .ok (.goto (-39), 3) := by decide +kernel
theorem dX3_powerToLaid_51 : decode cX3_powerToLaid 51 = .ok (.iload 4, 2) := by decide +kernel
theorem dX3_powerToLaid_53 : decode cX3_powerToLaid 53 = .ok (.ireturn, 1) := by decide +kernel
set_option maxRecDepth 20000 in
theorem ggX3_findMakers_X3_lesserAt : GoodIn wsX3_findMakers wsX3_lesserAt := goodIn_r _ [11, 12, 2, 13, 14, 15, 16, 17, 18, 19, 20, 21, 22, 23, 24, 25, 26, 27, 28, 29, 30, 31, 32, 33, 34, 117, 118, 119, 105, 106, 107, 108, 109, 110, 111, 112, 113, 114, 115, 116, 120, 121] (by decide +kernel) (by decide +kernel)
set_option maxRecDepth 20000 in
theorem gX3_findMakers_X3_lesserAt : GoodIn wsX3_findMakers (wsV RX3 76 RX3 yX3_lesserAt wsX3_lesserAt) := goodIn_app (goodIn_of _ (by decide +kernel)) ggX3_findMakers_X3_lesserAt
set_option maxRecDepth 20000 in
theorem ggX3_findMakers_X0_orderWithin : GoodIn wsX3_findMakers wsX0_orderWithin := goodIn_r _ [38, 39, 40, 41, 42, 43, 44, 45, 16, 46, 47, 48, 49, 50, 19, 51, 33, 52, 53, 54, 32, 34, 55, 56, 57, 58, 18, 59, 60, 61, 105, 106, 107, 108, 109, 110, 111, 112, 113, 114, 115, 116] (by decide +kernel) (by decide +kernel)
set_option maxRecDepth 20000 in
theorem gX3_findMakers_X0_orderWithin : GoodIn wsX3_findMakers (wsV RX3 56 RX0 yX0_orderWithin wsX0_orderWithin) := goodIn_app (goodIn_of _ (by decide +kernel)) ggX3_findMakers_X0_orderWithin
set_option maxRecDepth 20000 in
theorem ggX3_findMakers_X0_multiple : GoodIn wsX3_findMakers wsX0_multiple := goodIn_r _ [46, 47, 48, 49, 16, 50, 19, 51, 33, 52, 53, 54, 32, 34, 55, 56, 57, 58, 18, 59, 60, 41, 61, 105, 106, 107, 108, 109, 110, 111, 112, 113, 114, 115, 116] (by decide +kernel) (by decide +kernel)
set_option maxRecDepth 20000 in
theorem gX3_findMakers_X0_multiple : GoodIn wsX3_findMakers (wsV RX3 104 RX0 yX0_multiple wsX0_multiple) := goodIn_app (goodIn_of _ (by decide +kernel)) ggX3_findMakers_X0_multiple
set_option maxRecDepth 20000 in
theorem ggX3_findMakers_X3_isApart : GoodIn wsX3_findMakers wsX3_isApart := goodIn_r _ [66, 6, 67, 3, 4, 68, 40, 41, 42, 69, 70, 71, 62, 44, 45, 16, 46, 47, 48, 49, 50, 19, 51, 33, 52, 53, 54, 32, 34, 55, 56, 57, 58, 18, 59, 60, 61, 72, 73, 74, 75, 76, 77, 78, 79, 80, 81, 82, 83, 84, 85, 86, 87, 88, 89, 90, 91, 92, 93, 94, 95, 96, 97, 98, 99, 100, 101, 102, 103, 104, 105, 106, 107, 108, 109, 110, 111, 112, 113, 114, 115, 116, 117, 118, 119, 122, 123, 124, 125, 126, 127] (by decide +kernel) (by decide +kernel)
set_option maxRecDepth 20000 in
theorem gX3_findMakers_X3_isApart : GoodIn wsX3_findMakers (wsV RX3 121 RX3 yX3_isApart wsX3_isApart) := goodIn_app (goodIn_of _ (by decide +kernel)) ggX3_findMakers_X3_isApart
theorem dX3_findMakers_0 : decode cX3_findMakers 0 = .ok (.aload_n 1, 1) := by decide +kernel
theorem dX3_findMakers_1 : decode cX3_findMakers 1 = .ok (.getfield 111, 3) := by decide +kernel
theorem dX3_findMakers_4 : decode cX3_findMakers 4 = .ok (.ifCond .eq 4, 3) := by decide +kernel
theorem dX3_findMakers_7 : decode cX3_findMakers 7 = .ok (.return_, 1) := by decide +kernel
theorem dX3_findMakers_8 : decode cX3_findMakers 8 = .ok (.aload_n 1, 1) := by decide +kernel
theorem dX3_findMakers_9 : decode cX3_findMakers 9 = .ok (.iconst 1, 1) := by decide +kernel
theorem dX3_findMakers_10 : decode cX3_findMakers 10 = .ok (.putfield 111, 3) := by decide +kernel
theorem dX3_findMakers_13 : decode cX3_findMakers 13 = .ok (.iconst 0, 1) := by decide +kernel
theorem dX3_findMakers_14 : decode cX3_findMakers 14 = .ok (.istore_n 2, 1) := by decide +kernel
theorem dX3_findMakers_15 : decode cX3_findMakers 15 = .ok (.iload_n 2, 1) := by decide +kernel
theorem dX3_findMakers_16 : decode cX3_findMakers 16 = .ok (.aload_n 1, 1) := by decide +kernel
theorem dX3_findMakers_17 : decode cX3_findMakers 17 = .ok (.getfield 39, 3) := by decide +kernel
theorem dX3_findMakers_20 : decode cX3_findMakers 20 = .ok (.if_icmp .ge 50, 3) := by decide +kernel
theorem dX3_findMakers_23 : decode cX3_findMakers 23 = .ok (.aload_n 1, 1) := by decide +kernel
theorem dX3_findMakers_24 : decode cX3_findMakers 24 = .ok (.getfield 115, 3) := by decide +kernel
theorem dX3_findMakers_27 : decode cX3_findMakers 27 = .ok (.iconst (-1), 1) := by decide +kernel
theorem dX3_findMakers_28 : decode cX3_findMakers 28 = .ok (.if_icmp .ne 42, 3) := by decide +kernel
theorem dX3_findMakers_31 : decode cX3_findMakers 31 = .ok (.aload_n 0, 1) := by decide +kernel
theorem dX3_findMakers_32 : decode cX3_findMakers 32 = .ok (.aload_n 1, 1) := by decide +kernel
theorem dX3_findMakers_33 : decode cX3_findMakers 33 = .ok (.iload_n 2, 1) := by decide +kernel
theorem dX3_findMakers_34 : decode cX3_findMakers 34 = .ok (.invokevirtual 76, 3) := by decide +kernel
theorem dX3_findMakers_37 : decode cX3_findMakers 37 = .ok (.istore_n 3, 1) := by decide +kernel
theorem dX3_findMakers_38 : decode cX3_findMakers 38 = .ok (.iload_n 3, 1) := by decide +kernel
theorem dX3_findMakers_39 : decode cX3_findMakers 39 = .ok (.iconst (-1), 1) := by decide +kernel
theorem dX3_findMakers_40 : decode cX3_findMakers 40 = .ok (.if_icmp .eq 24, 3) := by decide +kernel
theorem dX3_findMakers_43 : decode cX3_findMakers 43 = .ok (.aload_n 1, 1) := by decide +kernel
theorem dX3_findMakers_44 : decode cX3_findMakers 44 = .ok (.iload_n 3, 1) := by decide +kernel
theorem dX3_findMakers_45 : decode cX3_findMakers 45 = .ok (.aload_n 1, 1) := by decide +kernel
theorem dX3_findMakers_46 : decode cX3_findMakers 46 = .ok (.getfield 101, 3) := by decide +kernel
theorem dX3_findMakers_49 : decode cX3_findMakers 49 = .ok (.invokevirtual 56, 3) := by decide +kernel
theorem dX3_findMakers_52 : decode cX3_findMakers 52 = .ok (.aload_n 1, 1) := by decide +kernel
theorem dX3_findMakers_53 : decode cX3_findMakers 53 = .ok (.getfield 101, 3) := by decide +kernel
theorem dX3_findMakers_56 : decode cX3_findMakers 56 = .ok (.if_icmp .ne 8, 3) := by decide +kernel
theorem dX3_findMakers_59 : decode cX3_findMakers 59 = .ok (.aload_n 1, 1) := by decide +kernel
theorem dX3_findMakers_60 : decode cX3_findMakers 60 = .ok (.iload_n 3, 1) := by decide +kernel
theorem dX3_findMakers_61 : decode cX3_findMakers 61 = .ok (.putfield 115, 3) := by decide +kernel
theorem dX3_findMakers_64 : decode cX3_findMakers 64 = .ok (.iinc 2 1, 3) := by decide +kernel
theorem dX3_findMakers_67 : decode cX3_findMakers 67 = .ok (.goto (-52), 3) := by decide +kernel
theorem dX3_findMakers_70 : decode cX3_findMakers 70 = .ok (.iconst 0, 1) := by decide +kernel
theorem dX3_findMakers_71 : decode cX3_findMakers 71 = .ok (.istore_n 2, 1) := by decide +kernel
theorem dX3_findMakers_72 : decode cX3_findMakers 72 = .ok (.iload_n 2, 1) := by decide +kernel
theorem dX3_findMakers_73 : decode cX3_findMakers 73 = .ok (.aload_n 1, 1) := by decide +kernel
theorem dX3_findMakers_74 : decode cX3_findMakers 74 = .ok (.getfield 39, 3) := by decide +kernel
theorem dX3_findMakers_77 : decode cX3_findMakers 77 = .ok (.if_icmp .ge 65, 3) := by decide +kernel
theorem dX3_findMakers_80 : decode cX3_findMakers 80 = .ok (.aload_n 1, 1) := by decide +kernel
theorem dX3_findMakers_81 : decode cX3_findMakers 81 = .ok (.getfield 118, 3) := by decide +kernel
theorem dX3_findMakers_84 : decode cX3_findMakers 84 = .ok (.iconst (-1), 1) := by decide +kernel
theorem dX3_findMakers_85 : decode cX3_findMakers 85 = .ok (.if_icmp .ne 57, 3) := by decide +kernel
theorem dX3_findMakers_88 : decode cX3_findMakers 88 = .ok (.aload_n 1, 1) := by decide +kernel
theorem dX3_findMakers_89 : decode cX3_findMakers 89 = .ok (.getfield 86, 3) := by decide +kernel
theorem dX3_findMakers_92 : decode cX3_findMakers 92 = .ok (.iconst 1, 1) := by decide +kernel
theorem dX3_findMakers_93 : decode cX3_findMakers 93 = .ok (.if_icmp .le 49, 3) := by decide +kernel
theorem dX3_findMakers_96 : decode cX3_findMakers 96 = .ok (.aload_n 0, 1) := by decide +kernel
theorem dX3_findMakers_97 : decode cX3_findMakers 97 = .ok (.aload_n 1, 1) := by decide +kernel
theorem dX3_findMakers_98 : decode cX3_findMakers 98 = .ok (.iload_n 2, 1) := by decide +kernel
theorem dX3_findMakers_99 : decode cX3_findMakers 99 = .ok (.invokevirtual 76, 3) := by decide +kernel
theorem dX3_findMakers_102 : decode cX3_findMakers 102 = .ok (.istore_n 3, 1) := by decide +kernel
theorem dX3_findMakers_103 : decode cX3_findMakers 103 = .ok (.iload_n 3, 1) := by decide +kernel
theorem dX3_findMakers_104 : decode cX3_findMakers 104 = .ok (.iconst (-1), 1) := by decide +kernel
theorem dX3_findMakers_105 : decode cX3_findMakers 105 = .ok (.if_icmp .eq 31, 3) := by decide +kernel
theorem dX3_findMakers_108 : decode cX3_findMakers 108 = .ok (.aload_n 1, 1) := by decide +kernel
theorem dX3_findMakers_109 : decode cX3_findMakers 109 = .ok (.iload_n 3, 1) := by decide +kernel
theorem dX3_findMakers_110 : decode cX3_findMakers 110 = .ok (.aload_n 1, 1) := by decide +kernel
theorem dX3_findMakers_111 : decode cX3_findMakers 111 = .ok (.getfield 86, 3) := by decide +kernel
theorem dX3_findMakers_114 : decode cX3_findMakers 114 = .ok (.i2l, 1) := by decide +kernel
theorem dX3_findMakers_115 : decode cX3_findMakers 115 = .ok (.invokevirtual 104, 3) := by decide +kernel
theorem dX3_findMakers_118 : decode cX3_findMakers 118 = .ok (.iconst (-1), 1) := by decide +kernel
theorem dX3_findMakers_119 : decode cX3_findMakers 119 = .ok (.if_icmp .ne 17, 3) := by decide +kernel
theorem dX3_findMakers_122 : decode cX3_findMakers 122 = .ok (.aload_n 0, 1) := by decide +kernel
theorem dX3_findMakers_123 : decode cX3_findMakers 123 = .ok (.aload_n 1, 1) := by decide +kernel
theorem dX3_findMakers_124 : decode cX3_findMakers 124 = .ok (.iload_n 3, 1) := by decide +kernel
theorem dX3_findMakers_125 : decode cX3_findMakers 125 = .ok (.invokevirtual 121, 3) := by decide +kernel
theorem dX3_findMakers_128 : decode cX3_findMakers 128 = .ok (.ifCond .eq 8, 3) := by decide +kernel
theorem dX3_findMakers_131 : decode cX3_findMakers 131 = .ok (.aload_n 1, 1) := by decide +kernel
theorem dX3_findMakers_132 : decode cX3_findMakers 132 = .ok (.iload_n 3, 1) := by decide +kernel
theorem dX3_findMakers_133 : decode cX3_findMakers 133 = .ok (.putfield 118, 3) := by decide +kernel
theorem dX3_findMakers_136 : decode cX3_findMakers 136 = .ok (.iinc 2 1, 3) := by decide +kernel
theorem dX3_findMakers_139 : decode cX3_findMakers 139 = .ok (.goto (-67), 3) := by decide +kernel
theorem dX3_findMakers_142 : decode cX3_findMakers 142 = .ok (.return_, 1) := by decide +kernel
set_option maxRecDepth 20000 in
theorem ggX3_isApart_X4_leastFactor : GoodIn wsX3_isApart wsX4_leastFactor := goodIn_r _ [8] (by decide +kernel) (by decide +kernel)
set_option maxRecDepth 20000 in
theorem gX3_isApart_X4_leastFactor : GoodIn wsX3_isApart (va_wsS RX3 89 yX4_leastFactor wsX4_leastFactor) := goodIn_app (goodIn_of _ (by decide +kernel)) ggX3_isApart_X4_leastFactor
set_option maxRecDepth 20000 in
theorem ggX3_isApart_X4_partOf : GoodIn wsX3_isApart wsX4_partOf := goodIn_r _ [11] (by decide +kernel) (by decide +kernel)
set_option maxRecDepth 20000 in
theorem gX3_isApart_X4_partOf : GoodIn wsX3_isApart (va_wsS RX3 94 yX4_partOf wsX4_partOf) := goodIn_app (goodIn_of _ (by decide +kernel)) ggX3_isApart_X4_partOf
set_option maxRecDepth 20000 in
theorem ggX3_isApart_X0_multiple : GoodIn wsX3_isApart wsX0_multiple := goodIn_r _ [16, 17, 18, 19, 15, 20, 21, 22, 23, 24, 25, 26, 27, 28, 29, 30, 31, 32, 33, 34, 35, 7, 36, 70, 71, 72, 73, 74, 75, 76, 77, 78, 79, 80, 81] (by decide +kernel) (by decide +kernel)
set_option maxRecDepth 20000 in
theorem gX3_isApart_X0_multiple : GoodIn wsX3_isApart (wsV RX3 104 RX0 yX0_multiple wsX0_multiple) := goodIn_app (goodIn_of _ (by decide +kernel)) ggX3_isApart_X0_multiple
set_option maxRecDepth 20000 in
theorem ggX3_isApart_X2_lay : GoodIn wsX3_isApart wsX2_lay := goodIn_r _ [41, 42, 43, 44, 45, 46, 47, 48, 49, 40, 50, 51, 52, 53, 54, 55, 25, 23, 26, 56, 30, 31, 15, 32, 21, 33, 22, 24, 34, 35, 7, 36, 27, 28, 57, 18, 19, 20, 85, 86, 87, 88, 89, 90, 70, 71, 72, 73, 74, 75, 76, 77, 78, 79, 80, 81] (by decide +kernel) (by decide +kernel)
set_option maxRecDepth 20000 in
theorem gX3_isApart_X2_lay : GoodIn wsX3_isApart (wsV RX3 59 RX2 yX2_lay wsX2_lay) := goodIn_app (goodIn_of _ (by decide +kernel)) ggX3_isApart_X2_lay
set_option maxRecDepth 20000 in
theorem ggX3_isApart_X2_stepsTo : GoodIn wsX3_isApart wsX2_stepsTo := goodIn_r _ [61, 43, 44, 42, 46, 62, 63, 64, 65, 66, 67, 68, 40, 69, 55, 25, 23, 26, 47, 48, 49, 50, 45, 56, 30, 31, 15, 32, 21, 33, 22, 24, 34, 35, 7, 36, 27, 28, 85, 86, 87, 88, 89, 90, 70, 71, 72, 73, 74, 75, 76, 77, 78, 79, 80, 81] (by decide +kernel) (by decide +kernel)
set_option maxRecDepth 20000 in
theorem gX3_isApart_X2_stepsTo : GoodIn wsX3_isApart (wsV RX3 63 RX2 yX2_stepsTo wsX2_stepsTo) := goodIn_app (goodIn_of _ (by decide +kernel)) ggX3_isApart_X2_stepsTo
theorem dX3_isApart_0 : decode cX3_isApart 0 = .ok (.aload_n 1, 1) := by decide +kernel
theorem dX3_isApart_1 : decode cX3_isApart 1 = .ok (.getfield 86, 3) := by decide +kernel
theorem dX3_isApart_4 : decode cX3_isApart 4 = .ok (.istore_n 3, 1) := by decide +kernel
theorem dX3_isApart_5 : decode cX3_isApart 5 = .ok (.iconst 0, 1) := by decide +kernel
theorem dX3_isApart_6 : decode cX3_isApart 6 = .ok (.istore 4, 2) := by decide +kernel
theorem dX3_isApart_8 : decode cX3_isApart 8 = .ok (.iload 4, 2) := by decide +kernel
theorem dX3_isApart_10 : decode cX3_isApart 10 = .ok (.bipush 32, 2) := by decide +kernel
theorem dX3_isApart_12 : decode cX3_isApart 12 = .ok (.if_icmp .ge 81, 3) := by decide +kernel
theorem dX3_isApart_15 : decode cX3_isApart 15 = .ok (.iload_n 3, 1) := by decide +kernel
theorem dX3_isApart_16 : decode cX3_isApart 16 = .ok (.iconst 1, 1) := by decide +kernel
theorem dX3_isApart_17 : decode cX3_isApart 17 = .ok (.if_icmp .le 76, 3) := by decide +kernel
theorem dX3_isApart_20 : decode cX3_isApart 20 = .ok (.iload_n 3, 1) := by decide +kernel
theorem dX3_isApart_21 : decode cX3_isApart 21 = .ok (.invokestatic 89, 3) := by decide +kernel
theorem dX3_isApart_24 : decode cX3_isApart 24 = .ok (.istore 5, 2) := by decide +kernel
theorem dX3_isApart_26 : decode cX3_isApart 26 = .ok (.iload_n 3, 1) := by decide +kernel
theorem dX3_isApart_27 : decode cX3_isApart 27 = .ok (.iload_n 3, 1) := by decide +kernel
theorem dX3_isApart_28 : decode cX3_isApart 28 = .ok (.iload 5, 2) := by decide +kernel
theorem dX3_isApart_30 : decode cX3_isApart 30 = .ok (.invokestatic 94, 3) := by decide +kernel
theorem dX3_isApart_33 : decode cX3_isApart 33 = .ok (.idiv, 1) := by decide +kernel
theorem dX3_isApart_34 : decode cX3_isApart 34 = .ok (.istore_n 3, 1) := by decide +kernel
theorem dX3_isApart_35 : decode cX3_isApart 35 = .ok (.aload_n 0, 1) := by decide +kernel
theorem dX3_isApart_36 : decode cX3_isApart 36 = .ok (.getfield 21, 3) := by decide +kernel
theorem dX3_isApart_39 : decode cX3_isApart 39 = .ok (.aload_n 1, 1) := by decide +kernel
theorem dX3_isApart_40 : decode cX3_isApart 40 = .ok (.aload_n 1, 1) := by decide +kernel
theorem dX3_isApart_41 : decode cX3_isApart 41 = .ok (.aload_n 1, 1) := by decide +kernel
theorem dX3_isApart_42 : decode cX3_isApart 42 = .ok (.getfield 115, 3) := by decide +kernel
theorem dX3_isApart_45 : decode cX3_isApart 45 = .ok (.aload_n 1, 1) := by decide +kernel
theorem dX3_isApart_46 : decode cX3_isApart 46 = .ok (.getfield 101, 3) := by decide +kernel
theorem dX3_isApart_49 : decode cX3_isApart 49 = .ok (.iload 5, 2) := by decide +kernel
theorem dX3_isApart_51 : decode cX3_isApart 51 = .ok (.idiv, 1) := by decide +kernel
theorem dX3_isApart_52 : decode cX3_isApart 52 = .ok (.i2l, 1) := by decide +kernel
theorem dX3_isApart_53 : decode cX3_isApart 53 = .ok (.invokevirtual 104, 3) := by decide +kernel
theorem dX3_isApart_56 : decode cX3_isApart 56 = .ok (.iload 5, 2) := by decide +kernel
theorem dX3_isApart_58 : decode cX3_isApart 58 = .ok (.invokevirtual 59, 3) := by decide +kernel
theorem dX3_isApart_61 : decode cX3_isApart 61 = .ok (.aload_n 0, 1) := by decide +kernel
theorem dX3_isApart_62 : decode cX3_isApart 62 = .ok (.getfield 21, 3) := by decide +kernel
theorem dX3_isApart_65 : decode cX3_isApart 65 = .ok (.aload_n 1, 1) := by decide +kernel
theorem dX3_isApart_66 : decode cX3_isApart 66 = .ok (.iload_n 2, 1) := by decide +kernel
theorem dX3_isApart_67 : decode cX3_isApart 67 = .ok (.aload_n 1, 1) := by decide +kernel
theorem dX3_isApart_68 : decode cX3_isApart 68 = .ok (.getfield 86, 3) := by decide +kernel
theorem dX3_isApart_71 : decode cX3_isApart 71 = .ok (.iload 5, 2) := by decide +kernel
theorem dX3_isApart_73 : decode cX3_isApart 73 = .ok (.idiv, 1) := by decide +kernel
theorem dX3_isApart_74 : decode cX3_isApart 74 = .ok (.i2l, 1) := by decide +kernel
theorem dX3_isApart_75 : decode cX3_isApart 75 = .ok (.invokevirtual 104, 3) := by decide +kernel
theorem dX3_isApart_78 : decode cX3_isApart 78 = .ok (.invokevirtual 63, 3) := by decide +kernel
theorem dX3_isApart_81 : decode cX3_isApart 81 = .ok (.iconst (-1), 1) := by decide +kernel
theorem dX3_isApart_82 : decode cX3_isApart 82 = .ok (.if_icmp .eq 5, 3) := by decide +kernel
theorem dX3_isApart_85 : decode cX3_isApart 85 = .ok (.iconst 0, 1) := by decide +kernel
theorem dX3_isApart_86 : decode cX3_isApart 86 = .ok (.ireturn, 1) := by decide +kernel
theorem dX3_isApart_87 : decode cX3_isApart 87 = .ok (.iinc 4 1, 3) := by decide +kernel
theorem dX3_isApart_90 : decode cX3_isApart 90 = .ok (.goto (-82), 3) := by decide +kernel
theorem dX3_isApart_93 : decode cX3_isApart 93 = .ok (.iconst 1, 1) := by decide +kernel
theorem dX3_isApart_94 : decode cX3_isApart 94 = .ok (.ireturn, 1) := by decide +kernel
set_option maxRecDepth 20000 in
theorem ggX3_leastProver_X0_isProvedBy : GoodIn wsX3_leastProver wsX0_isProvedBy := goodIn_r _ [7, 8, 9, 10, 11, 12, 65, 66, 67, 68, 69, 70, 71, 72, 73, 74, 75, 76] (by decide +kernel) (by decide +kernel)
set_option maxRecDepth 20000 in
theorem gX3_leastProver_X0_isProvedBy : GoodIn wsX3_leastProver (wsV RX3 125 RX0 yX0_isProvedBy wsX0_isProvedBy) := goodIn_app (goodIn_of _ (by decide +kernel)) ggX3_leastProver_X0_isProvedBy
set_option maxRecDepth 20000 in
theorem ggX3_leastProver_X3_lesserAt : GoodIn wsX3_leastProver wsX3_lesserAt := goodIn_r _ [17, 18, 2, 19, 20, 21, 6, 22, 23, 8, 24, 25, 26, 27, 28, 29, 30, 31, 32, 33, 34, 35, 36, 37, 38, 77, 78, 79, 65, 66, 67, 68, 69, 70, 71, 72, 73, 74, 75, 76, 80, 81] (by decide +kernel) (by decide +kernel)
set_option maxRecDepth 20000 in
theorem gX3_leastProver_X3_lesserAt : GoodIn wsX3_leastProver (wsV RX3 76 RX3 yX3_lesserAt wsX3_lesserAt) := goodIn_app (goodIn_of _ (by decide +kernel)) ggX3_leastProver_X3_lesserAt
set_option maxRecDepth 20000 in
theorem ggX3_leastProver_X0_orderWithin : GoodIn wsX3_leastProver wsX0_orderWithin := goodIn_r _ [42, 43, 44, 11, 45, 46, 47, 48, 6, 49, 50, 51, 52, 53, 8, 54, 37, 55, 56, 57, 36, 38, 58, 59, 60, 61, 23, 62, 63, 64, 65, 66, 67, 68, 69, 70, 71, 72, 73, 74, 75, 76] (by decide +kernel) (by decide +kernel)
set_option maxRecDepth 20000 in
theorem gX3_leastProver_X0_orderWithin : GoodIn wsX3_leastProver (wsV RX3 56 RX0 yX0_orderWithin wsX0_orderWithin) := goodIn_app (goodIn_of _ (by decide +kernel)) ggX3_leastProver_X0_orderWithin
theorem dX3_leastProver_0 : decode cX3_leastProver 0 = .ok (.aload_n 1, 1) := by decide +kernel
theorem dX3_leastProver_1 : decode cX3_leastProver 1 = .ok (.aload_n 1, 1) := by decide +kernel
theorem dX3_leastProver_2 : decode cX3_leastProver 2 = .ok (.getfield 101, 3) := by decide +kernel
theorem dX3_leastProver_5 : decode cX3_leastProver 5 = .ok (.invokevirtual 125, 3) := by decide +kernel
theorem dX3_leastProver_8 : decode cX3_leastProver 8 = .ok (.ifCond .ne 5, 3) := by decide +kernel
theorem dX3_leastProver_11 : decode cX3_leastProver 11 = .ok (.iconst (-1), 1) := by decide +kernel
theorem dX3_leastProver_12 : decode cX3_leastProver 12 = .ok (.ireturn, 1) := by decide +kernel
theorem dX3_leastProver_13 : decode cX3_leastProver 13 = .ok (.iconst 0, 1) := by decide +kernel
theorem dX3_leastProver_14 : decode cX3_leastProver 14 = .ok (.istore_n 2, 1) := by decide +kernel
theorem dX3_leastProver_15 : decode cX3_leastProver 15 = .ok (.iload_n 2, 1) := by decide +kernel
theorem dX3_leastProver_16 : decode cX3_leastProver 16 = .ok (.aload_n 1, 1) := by decide +kernel
theorem dX3_leastProver_17 : decode cX3_leastProver 17 = .ok (.getfield 39, 3) := by decide +kernel
theorem dX3_leastProver_20 : decode cX3_leastProver 20 = .ok (.if_icmp .ge 39, 3) := by decide +kernel
theorem dX3_leastProver_23 : decode cX3_leastProver 23 = .ok (.aload_n 0, 1) := by decide +kernel
theorem dX3_leastProver_24 : decode cX3_leastProver 24 = .ok (.aload_n 1, 1) := by decide +kernel
theorem dX3_leastProver_25 : decode cX3_leastProver 25 = .ok (.iload_n 2, 1) := by decide +kernel
theorem dX3_leastProver_26 : decode cX3_leastProver 26 = .ok (.invokevirtual 76, 3) := by decide +kernel
theorem dX3_leastProver_29 : decode cX3_leastProver 29 = .ok (.istore_n 3, 1) := by decide +kernel
theorem dX3_leastProver_30 : decode cX3_leastProver 30 = .ok (.iload_n 3, 1) := by decide +kernel
theorem dX3_leastProver_31 : decode cX3_leastProver 31 = .ok (.iconst (-1), 1) := by decide +kernel
theorem dX3_leastProver_32 : decode cX3_leastProver 32 = .ok (.if_icmp .eq 21, 3) := by decide +kernel
theorem dX3_leastProver_35 : decode cX3_leastProver 35 = .ok (.aload_n 1, 1) := by decide +kernel
theorem dX3_leastProver_36 : decode cX3_leastProver 36 = .ok (.aload_n 1, 1) := by decide +kernel
theorem dX3_leastProver_37 : decode cX3_leastProver 37 = .ok (.iload_n 3, 1) := by decide +kernel
theorem dX3_leastProver_38 : decode cX3_leastProver 38 = .ok (.aload_n 1, 1) := by decide +kernel
theorem dX3_leastProver_39 : decode cX3_leastProver 39 = .ok (.getfield 101, 3) := by decide +kernel
theorem dX3_leastProver_42 : decode cX3_leastProver 42 = .ok (.invokevirtual 56, 3) := by decide +kernel
theorem dX3_leastProver_45 : decode cX3_leastProver 45 = .ok (.invokevirtual 125, 3) := by decide +kernel
theorem dX3_leastProver_48 : decode cX3_leastProver 48 = .ok (.ifCond .eq 5, 3) := by decide +kernel
theorem dX3_leastProver_51 : decode cX3_leastProver 51 = .ok (.iload_n 3, 1) := by decide +kernel
theorem dX3_leastProver_52 : decode cX3_leastProver 52 = .ok (.ireturn, 1) := by decide +kernel
theorem dX3_leastProver_53 : decode cX3_leastProver 53 = .ok (.iinc 2 1, 3) := by decide +kernel
theorem dX3_leastProver_56 : decode cX3_leastProver 56 = .ok (.goto (-41), 3) := by decide +kernel
theorem dX3_leastProver_59 : decode cX3_leastProver 59 = .ok (.iconst (-1), 1) := by decide +kernel
theorem dX3_leastProver_60 : decode cX3_leastProver 60 = .ok (.ireturn, 1) := by decide +kernel
set_option maxRecDepth 20000 in
theorem ggX3_findHalves_X3_keepHalf : GoodIn wsX3_findHalves wsX3_keepHalf := goodIn_r _ [6, 7, 68, 69, 70] (by decide +kernel) (by decide +kernel)
set_option maxRecDepth 20000 in
theorem gX3_findHalves_X3_keepHalf : GoodIn wsX3_findHalves (wsV RX3 129 RX3 yX3_keepHalf wsX3_keepHalf) := goodIn_app (goodIn_of _ (by decide +kernel)) ggX3_findHalves_X3_keepHalf
set_option maxRecDepth 20000 in
theorem ggX3_findHalves_X3_mayHalve : GoodIn wsX3_findHalves wsX3_mayHalve := goodIn_r _ [10, 11, 1, 12, 13, 14, 15, 16, 17, 18, 19, 20, 21, 22, 23, 56, 57, 58, 59, 60, 61, 62, 63, 64, 65, 66, 67] (by decide +kernel) (by decide +kernel)
set_option maxRecDepth 20000 in
theorem gX3_findHalves_X3_mayHalve : GoodIn wsX3_findHalves (va_wsS RX3 132 yX3_mayHalve wsX3_mayHalve) := goodIn_app (goodIn_of _ (by decide +kernel)) ggX3_findHalves_X3_mayHalve
set_option maxRecDepth 20000 in
theorem ggX3_findHalves_X3_lesserAt : GoodIn wsX3_findHalves wsX3_lesserAt := goodIn_r _ [27, 28, 1, 13, 14, 15, 16, 17, 18, 19, 20, 29, 30, 31, 32, 33, 34, 35, 36, 37, 38, 39, 40, 22, 41, 68, 69, 70, 56, 57, 58, 59, 60, 61, 62, 63, 64, 65, 66, 67, 71, 72] (by decide +kernel) (by decide +kernel)
set_option maxRecDepth 20000 in
theorem gX3_findHalves_X3_lesserAt : GoodIn wsX3_findHalves (wsV RX3 76 RX3 yX3_lesserAt wsX3_lesserAt) := goodIn_app (goodIn_of _ (by decide +kernel)) ggX3_findHalves_X3_lesserAt
set_option maxRecDepth 20000 in
theorem ggX3_findHalves_X0_opposite : GoodIn wsX3_findHalves wsX0_opposite := goodIn_r _ [45, 19, 46, 22, 47, 21, 23, 40, 41, 56, 57, 58, 59, 60, 61, 62, 63, 64, 65, 66, 67] (by decide +kernel) (by decide +kernel)
set_option maxRecDepth 20000 in
theorem gX3_findHalves_X0_opposite : GoodIn wsX3_findHalves (wsV RX3 80 RX0 yX0_opposite wsX0_opposite) := goodIn_app (goodIn_of _ (by decide +kernel)) ggX3_findHalves_X0_opposite
set_option maxRecDepth 20000 in
theorem ggX3_findHalves_X0_sum : GoodIn wsX3_findHalves wsX0_sum := goodIn_r _ [51, 19, 18, 21, 22, 23, 46, 47, 52, 53, 54, 55, 40, 41, 56, 57, 58, 59, 60, 61, 62, 63, 64, 65, 66, 67] (by decide +kernel) (by decide +kernel)
set_option maxRecDepth 20000 in
theorem gX3_findHalves_X0_sum : GoodIn wsX3_findHalves (wsV RX3 136 RX0 yX0_sum wsX0_sum) := goodIn_app (goodIn_of _ (by decide +kernel)) ggX3_findHalves_X0_sum
theorem dX3_findHalves_0 : decode cX3_findHalves 0 = .ok (.iconst 0, 1) := by decide +kernel
theorem dX3_findHalves_1 : decode cX3_findHalves 1 = .ok (.istore_n 3, 1) := by decide +kernel
theorem dX3_findHalves_2 : decode cX3_findHalves 2 = .ok (.iload_n 2, 1) := by decide +kernel
theorem dX3_findHalves_3 : decode cX3_findHalves 3 = .ok (.iconst (-1), 1) := by decide +kernel
theorem dX3_findHalves_4 : decode cX3_findHalves 4 = .ok (.if_icmp .ne 10, 3) := by decide +kernel
theorem dX3_findHalves_7 : decode cX3_findHalves 7 = .ok (.aload_n 0, 1) := by decide +kernel
theorem dX3_findHalves_8 : decode cX3_findHalves 8 = .ok (.iconst (-1), 1) := by decide +kernel
theorem dX3_findHalves_9 : decode cX3_findHalves 9 = .ok (.iload_n 3, 1) := by decide +kernel
theorem dX3_findHalves_10 : decode cX3_findHalves 10 = .ok (.invokevirtual 129, 3) := by decide +kernel
theorem dX3_findHalves_13 : decode cX3_findHalves 13 = .ok (.istore_n 3, 1) := by decide +kernel
theorem dX3_findHalves_14 : decode cX3_findHalves 14 = .ok (.iconst 0, 1) := by decide +kernel
theorem dX3_findHalves_15 : decode cX3_findHalves 15 = .ok (.istore 4, 2) := by decide +kernel
theorem dX3_findHalves_17 : decode cX3_findHalves 17 = .ok (.iload 4, 2) := by decide +kernel
theorem dX3_findHalves_19 : decode cX3_findHalves 19 = .ok (.aload_n 1, 1) := by decide +kernel
theorem dX3_findHalves_20 : decode cX3_findHalves 20 = .ok (.getfield 39, 3) := by decide +kernel
theorem dX3_findHalves_23 : decode cX3_findHalves 23 = .ok (.if_icmp .ge 89, 3) := by decide +kernel
theorem dX3_findHalves_26 : decode cX3_findHalves 26 = .ok (.aload_n 1, 1) := by decide +kernel
theorem dX3_findHalves_27 : decode cX3_findHalves 27 = .ok (.iload 4, 2) := by decide +kernel
theorem dX3_findHalves_29 : decode cX3_findHalves 29 = .ok (.iload_n 2, 1) := by decide +kernel
theorem dX3_findHalves_30 : decode cX3_findHalves 30 = .ok (.invokestatic 132, 3) := by decide +kernel
theorem dX3_findHalves_33 : decode cX3_findHalves 33 = .ok (.ifCond .eq 73, 3) := by decide +kernel
theorem dX3_findHalves_36 : decode cX3_findHalves 36 = .ok (.aload_n 0, 1) := by decide +kernel
theorem dX3_findHalves_37 : decode cX3_findHalves 37 = .ok (.aload_n 1, 1) := by decide +kernel
theorem dX3_findHalves_38 : decode cX3_findHalves 38 = .ok (.iload 4, 2) := by decide +kernel
theorem dX3_findHalves_40 : decode cX3_findHalves 40 = .ok (.invokevirtual 76, 3) := by decide +kernel
theorem dX3_findHalves_43 : decode cX3_findHalves 43 = .ok (.istore 5, 2) := by decide +kernel
theorem dX3_findHalves_45 : decode cX3_findHalves 45 = .ok (.aload_n 1, 1) := by decide +kernel
theorem dX3_findHalves_46 : decode cX3_findHalves 46 = .ok (.iload 5, 2) := by decide +kernel
theorem dX3_findHalves_48 : decode cX3_findHalves 48 = .ok (.invokevirtual 80, 3) := by decide +kernel
theorem dX3_findHalves_51 : decode cX3_findHalves 51 = .ok (.istore 6, 2) := by decide +kernel
theorem dX3_findHalves_53 : decode cX3_findHalves 53 = .ok (.iload 5, 2) := by decide +kernel
theorem dX3_findHalves_55 : decode cX3_findHalves 55 = .ok (.iconst (-1), 1) := by decide +kernel
theorem dX3_findHalves_56 : decode cX3_findHalves 56 = .ok (.if_icmp .eq 23, 3) := by decide +kernel
theorem dX3_findHalves_59 : decode cX3_findHalves 59 = .ok (.aload_n 1, 1) := by decide +kernel
theorem dX3_findHalves_60 : decode cX3_findHalves 60 = .ok (.iload 5, 2) := by decide +kernel
theorem dX3_findHalves_62 : decode cX3_findHalves 62 = .ok (.iload 5, 2) := by decide +kernel
theorem dX3_findHalves_64 : decode cX3_findHalves 64 = .ok (.invokevirtual 136, 3) := by decide +kernel
theorem dX3_findHalves_67 : decode cX3_findHalves 67 = .ok (.iload_n 2, 1) := by decide +kernel
theorem dX3_findHalves_68 : decode cX3_findHalves 68 = .ok (.if_icmp .ne 11, 3) := by decide +kernel
theorem dX3_findHalves_71 : decode cX3_findHalves 71 = .ok (.aload_n 0, 1) := by decide +kernel
theorem dX3_findHalves_72 : decode cX3_findHalves 72 = .ok (.iload 5, 2) := by decide +kernel
theorem dX3_findHalves_74 : decode cX3_findHalves 74 = .ok (.iload_n 3, 1) := by decide +kernel
theorem dX3_findHalves_75 : decode cX3_findHalves 75 = .ok (.invokevirtual 129, 3) := by decide +kernel
theorem dX3_findHalves_78 : decode cX3_findHalves 78 = .ok (.istore_n 3, 1) := by decide +kernel
theorem dX3_findHalves_79 : decode cX3_findHalves 79 = .ok (.iload 6, 2) := by decide +kernel
theorem dX3_findHalves_81 : decode cX3_findHalves 81 = .ok (.iload 5, 2) := by decide +kernel
theorem dX3_findHalves_83 : decode cX3_findHalves 83 = .ok (.if_icmp .eq 23, 3) := by decide +kernel
theorem dX3_findHalves_86 : decode cX3_findHalves 86 = .ok (.aload_n 1, 1) := by decide +kernel
theorem dX3_findHalves_87 : decode cX3_findHalves 87 = .ok (.iload 6, 2) := by decide +kernel
theorem dX3_findHalves_89 : decode cX3_findHalves 89 = .ok (.iload 6, 2) := by decide +kernel
theorem dX3_findHalves_91 : decode cX3_findHalves 91 = .ok (.invokevirtual 136, 3) := by decide +kernel
theorem dX3_findHalves_94 : decode cX3_findHalves 94 = .ok (.iload_n 2, 1) := by decide +kernel
theorem dX3_findHalves_95 : decode cX3_findHalves 95 = .ok (.if_icmp .ne 11, 3) := by decide +kernel
theorem dX3_findHalves_98 : decode cX3_findHalves 98 = .ok (.aload_n 0, 1) := by decide +kernel
theorem dX3_findHalves_99 : decode cX3_findHalves 99 = .ok (.iload 6, 2) := by decide +kernel
theorem dX3_findHalves_101 : decode cX3_findHalves 101 = .ok (.iload_n 3, 1) := by decide +kernel
theorem dX3_findHalves_102 : decode cX3_findHalves 102 = .ok (.invokevirtual 129, 3) := by decide +kernel
theorem dX3_findHalves_105 : decode cX3_findHalves 105 = .ok (.istore_n 3, 1) := by decide +kernel
theorem dX3_findHalves_106 : decode cX3_findHalves 106 = .ok (.iinc 4 1, 3) := by decide +kernel
theorem dX3_findHalves_109 : decode cX3_findHalves 109 = .ok (.goto (-92), 3) := by decide +kernel
theorem dX3_findHalves_112 : decode cX3_findHalves 112 = .ok (.iload_n 3, 1) := by decide +kernel
theorem dX3_findHalves_113 : decode cX3_findHalves 113 = .ok (.ireturn, 1) := by decide +kernel
set_option maxRecDepth 20000 in
theorem ggX3_mayHalve_X0_cubic : GoodIn wsX3_mayHalve wsX0_cubic := goodIn_r _ [8, 9, 10, 11, 15, 16, 17, 18, 19, 20, 21, 22, 23, 24, 25, 26] (by decide +kernel) (by decide +kernel)
set_option maxRecDepth 20000 in
theorem gX3_mayHalve_X0_cubic : GoodIn wsX3_mayHalve (wsV RX3 70 RX0 yX0_cubic wsX0_cubic) := goodIn_app (goodIn_of _ (by decide +kernel)) ggX3_mayHalve_X0_cubic
set_option maxRecDepth 20000 in
theorem ggX3_mayHalve_X5_xOf : GoodIn wsX3_mayHalve wsX5_xOf := goodIn_r _ [14] (by decide +kernel) (by decide +kernel)
set_option maxRecDepth 20000 in
theorem gX3_mayHalve_X5_xOf_n83 : GoodIn wsX3_mayHalve (wsX5_xOf) := ggX3_mayHalve_X5_xOf
theorem dX3_mayHalve_0 : decode cX3_mayHalve 0 = .ok (.aload_n 0, 1) := by decide +kernel
theorem dX3_mayHalve_1 : decode cX3_mayHalve 1 = .ok (.iload_n 1, 1) := by decide +kernel
theorem dX3_mayHalve_2 : decode cX3_mayHalve 2 = .ok (.invokevirtual 70, 3) := by decide +kernel
theorem dX3_mayHalve_5 : decode cX3_mayHalve 5 = .ok (.istore_n 3, 1) := by decide +kernel
theorem dX3_mayHalve_6 : decode cX3_mayHalve 6 = .ok (.iload_n 2, 1) := by decide +kernel
theorem dX3_mayHalve_7 : decode cX3_mayHalve 7 = .ok (.iconst (-1), 1) := by decide +kernel
theorem dX3_mayHalve_8 : decode cX3_mayHalve 8 = .ok (.if_icmp .ne 13, 3) := by decide +kernel
theorem dX3_mayHalve_11 : decode cX3_mayHalve 11 = .ok (.iload_n 3, 1) := by decide +kernel
theorem dX3_mayHalve_12 : decode cX3_mayHalve 12 = .ok (.ifCond .ne 7, 3) := by decide +kernel
theorem dX3_mayHalve_15 : decode cX3_mayHalve 15 = .ok (.iconst 1, 1) := by decide +kernel
theorem dX3_mayHalve_16 : decode cX3_mayHalve 16 = .ok (.goto 4, 3) := by decide +kernel
theorem dX3_mayHalve_19 : decode cX3_mayHalve 19 = .ok (.iconst 0, 1) := by decide +kernel
theorem dX3_mayHalve_20 : decode cX3_mayHalve 20 = .ok (.ireturn, 1) := by decide +kernel
theorem dX3_mayHalve_21 : decode cX3_mayHalve 21 = .ok (.iload_n 1, 1) := by decide +kernel
theorem dX3_mayHalve_22 : decode cX3_mayHalve 22 = .ok (.iload_n 1, 1) := by decide +kernel
theorem dX3_mayHalve_23 : decode cX3_mayHalve 23 = .ok (.imul, 1) := by decide +kernel
theorem dX3_mayHalve_24 : decode cX3_mayHalve 24 = .ok (.aload_n 0, 1) := by decide +kernel
theorem dX3_mayHalve_25 : decode cX3_mayHalve 25 = .ok (.getfield 42, 3) := by decide +kernel
theorem dX3_mayHalve_28 : decode cX3_mayHalve 28 = .ok (.isub, 1) := by decide +kernel
theorem dX3_mayHalve_29 : decode cX3_mayHalve 29 = .ok (.aload_n 0, 1) := by decide +kernel
theorem dX3_mayHalve_30 : decode cX3_mayHalve 30 = .ok (.getfield 39, 3) := by decide +kernel
theorem dX3_mayHalve_33 : decode cX3_mayHalve 33 = .ok (.irem, 1) := by decide +kernel
theorem dX3_mayHalve_34 : decode cX3_mayHalve 34 = .ok (.istore 4, 2) := by decide +kernel
theorem dX3_mayHalve_36 : decode cX3_mayHalve 36 = .ok (.iload 4, 2) := by decide +kernel
theorem dX3_mayHalve_38 : decode cX3_mayHalve 38 = .ok (.iload 4, 2) := by decide +kernel
theorem dX3_mayHalve_40 : decode cX3_mayHalve 40 = .ok (.imul, 1) := by decide +kernel
theorem dX3_mayHalve_41 : decode cX3_mayHalve 41 = .ok (.bipush 8, 2) := by decide +kernel
theorem dX3_mayHalve_43 : decode cX3_mayHalve 43 = .ok (.aload_n 0, 1) := by decide +kernel
theorem dX3_mayHalve_44 : decode cX3_mayHalve 44 = .ok (.getfield 45, 3) := by decide +kernel
theorem dX3_mayHalve_47 : decode cX3_mayHalve 47 = .ok (.imul, 1) := by decide +kernel
theorem dX3_mayHalve_48 : decode cX3_mayHalve 48 = .ok (.iload_n 1, 1) := by decide +kernel
theorem dX3_mayHalve_49 : decode cX3_mayHalve 49 = .ok (.imul, 1) := by decide +kernel
theorem dX3_mayHalve_50 : decode cX3_mayHalve 50 = .ok (.isub, 1) := by decide +kernel
theorem dX3_mayHalve_51 : decode cX3_mayHalve 51 = .ok (.iconst 4, 1) := by decide +kernel
theorem dX3_mayHalve_52 : decode cX3_mayHalve 52 = .ok (.iload_n 2, 1) := by decide +kernel
theorem dX3_mayHalve_53 : decode cX3_mayHalve 53 = .ok (.invokestatic 83, 3) := by decide +kernel
theorem dX3_mayHalve_56 : decode cX3_mayHalve 56 = .ok (.imul, 1) := by decide +kernel
theorem dX3_mayHalve_57 : decode cX3_mayHalve 57 = .ok (.iload_n 3, 1) := by decide +kernel
theorem dX3_mayHalve_58 : decode cX3_mayHalve 58 = .ok (.imul, 1) := by decide +kernel
theorem dX3_mayHalve_59 : decode cX3_mayHalve 59 = .ok (.isub, 1) := by decide +kernel
theorem dX3_mayHalve_60 : decode cX3_mayHalve 60 = .ok (.aload_n 0, 1) := by decide +kernel
theorem dX3_mayHalve_61 : decode cX3_mayHalve 61 = .ok (.getfield 39, 3) := by decide +kernel
theorem dX3_mayHalve_64 : decode cX3_mayHalve 64 = .ok (.irem, 1) := by decide +kernel
theorem dX3_mayHalve_65 : decode cX3_mayHalve 65 = .ok (.ifCond .ne 7, 3) := by decide +kernel
theorem dX3_mayHalve_68 : decode cX3_mayHalve 68 = .ok (.iconst 1, 1) := by decide +kernel
theorem dX3_mayHalve_69 : decode cX3_mayHalve 69 = .ok (.goto 4, 3) := by decide +kernel
theorem dX3_mayHalve_72 : decode cX3_mayHalve 72 = .ok (.iconst 0, 1) := by decide +kernel
theorem dX3_mayHalve_73 : decode cX3_mayHalve 73 = .ok (.ireturn, 1) := by decide +kernel
theorem dX3_keepHalf_0 : decode cX3_keepHalf 0 = .ok (.iload_n 2, 1) := by decide +kernel
theorem dX3_keepHalf_1 : decode cX3_keepHalf 1 = .ok (.ifCond .lt 12, 3) := by decide +kernel
theorem dX3_keepHalf_4 : decode cX3_keepHalf 4 = .ok (.iload_n 2, 1) := by decide +kernel
theorem dX3_keepHalf_5 : decode cX3_keepHalf 5 = .ok (.aload_n 0, 1) := by decide +kernel
theorem dX3_keepHalf_6 : decode cX3_keepHalf 6 = .ok (.getfield 25, 3) := by decide +kernel
theorem dX3_keepHalf_9 : decode cX3_keepHalf 9 = .ok (.arraylength, 1) := by decide +kernel
theorem dX3_keepHalf_10 : decode cX3_keepHalf 10 = .ok (.if_icmp .lt 5, 3) := by decide +kernel
theorem dX3_keepHalf_13 : decode cX3_keepHalf 13 = .ok (.iload_n 2, 1) := by decide +kernel
theorem dX3_keepHalf_14 : decode cX3_keepHalf 14 = .ok (.ireturn, 1) := by decide +kernel
theorem dX3_keepHalf_15 : decode cX3_keepHalf 15 = .ok (.aload_n 0, 1) := by decide +kernel
theorem dX3_keepHalf_16 : decode cX3_keepHalf 16 = .ok (.getfield 25, 3) := by decide +kernel
theorem dX3_keepHalf_19 : decode cX3_keepHalf 19 = .ok (.iload_n 2, 1) := by decide +kernel
theorem dX3_keepHalf_20 : decode cX3_keepHalf 20 = .ok (.iload_n 1, 1) := by decide +kernel
theorem dX3_keepHalf_21 : decode cX3_keepHalf 21 = .ok (.iastore, 1) := by decide +kernel
theorem dX3_keepHalf_22 : decode cX3_keepHalf 22 = .ok (.iload_n 2, 1) := by decide +kernel
theorem dX3_keepHalf_23 : decode cX3_keepHalf 23 = .ok (.iconst 1, 1) := by decide +kernel
theorem dX3_keepHalf_24 : decode cX3_keepHalf 24 = .ok (.iadd, 1) := by decide +kernel
theorem dX3_keepHalf_25 : decode cX3_keepHalf 25 = .ok (.ireturn, 1) := by decide +kernel
theorem dX3_foundHalf_0 : decode cX3_foundHalf 0 = .ok (.iload_n 1, 1) := by decide +kernel
theorem dX3_foundHalf_1 : decode cX3_foundHalf 1 = .ok (.ifCond .lt 21, 3) := by decide +kernel
theorem dX3_foundHalf_4 : decode cX3_foundHalf 4 = .ok (.iload_n 1, 1) := by decide +kernel
theorem dX3_foundHalf_5 : decode cX3_foundHalf 5 = .ok (.aload_n 0, 1) := by decide +kernel
theorem dX3_foundHalf_6 : decode cX3_foundHalf 6 = .ok (.getfield 25, 3) := by decide +kernel
theorem dX3_foundHalf_9 : decode cX3_foundHalf 9 = .ok (.arraylength, 1) := by decide +kernel
theorem dX3_foundHalf_10 : decode cX3_foundHalf 10 = .ok (.if_icmp .ge 12, 3) := by decide +kernel
theorem dX3_foundHalf_13 : decode cX3_foundHalf 13 = .ok (.aload_n 0, 1) := by decide +kernel
theorem dX3_foundHalf_14 : decode cX3_foundHalf 14 = .ok (.getfield 25, 3) := by decide +kernel
theorem dX3_foundHalf_17 : decode cX3_foundHalf 17 = .ok (.iload_n 1, 1) := by decide +kernel
theorem dX3_foundHalf_18 : decode cX3_foundHalf 18 = .ok (.iaload, 1) := by decide +kernel
theorem dX3_foundHalf_19 : decode cX3_foundHalf 19 = .ok (.goto 4, 3) := by decide +kernel
theorem dX3_foundHalf_22 : decode cX3_foundHalf 22 = .ok (.iconst (-1), 1) := by decide +kernel
theorem dX3_foundHalf_23 : decode cX3_foundHalf 23 = .ok (.ireturn, 1) := by decide +kernel
theorem dX4_partOf_0 : decode cX4_partOf 0 = .ok (.iconst 1, 1) := by decide +kernel
theorem dX4_partOf_1 : decode cX4_partOf 1 = .ok (.istore_n 2, 1) := by decide +kernel
theorem dX4_partOf_2 : decode cX4_partOf 2 = .ok (.iload_n 0, 1) := by decide +kernel
theorem dX4_partOf_3 : decode cX4_partOf 3 = .ok (.istore_n 3, 1) := by decide +kernel
theorem dX4_partOf_4 : decode cX4_partOf 4 = .ok (.iconst 0, 1) := by decide +kernel
theorem dX4_partOf_5 : decode cX4_partOf 5 = .ok (.istore 4, 2) := by decide +kernel
theorem dX4_partOf_7 : decode cX4_partOf 7 = .ok (.iload 4, 2) := by decide +kernel
theorem dX4_partOf_9 : decode cX4_partOf 9 = .ok (.bipush 32, 2) := by decide +kernel
theorem dX4_partOf_11 : decode cX4_partOf 11 = .ok (.if_icmp .ge 33, 3) := by decide +kernel
theorem dX4_partOf_14 : decode cX4_partOf 14 = .ok (.iload_n 3, 1) := by decide +kernel
theorem dX4_partOf_15 : decode cX4_partOf 15 = .ok (.iconst 1, 1) := by decide +kernel
theorem dX4_partOf_16 : decode cX4_partOf 16 = .ok (.if_icmp .le 28, 3) := by decide +kernel
theorem dX4_partOf_19 : decode cX4_partOf 19 = .ok (.iload_n 1, 1) := by decide +kernel
theorem dX4_partOf_20 : decode cX4_partOf 20 = .ok (.iconst 1, 1) := by decide +kernel
theorem dX4_partOf_21 : decode cX4_partOf 21 = .ok (.if_icmp .le 23, 3) := by decide +kernel
theorem dX4_partOf_24 : decode cX4_partOf 24 = .ok (.iload_n 3, 1) := by decide +kernel
theorem dX4_partOf_25 : decode cX4_partOf 25 = .ok (.iload_n 1, 1) := by decide +kernel
theorem dX4_partOf_26 : decode cX4_partOf 26 = .ok (.irem, 1) := by decide +kernel
theorem dX4_partOf_27 : decode cX4_partOf 27 = .ok (.ifCond .ne 17, 3) := by decide +kernel
theorem dX4_partOf_30 : decode cX4_partOf 30 = .ok (.iload_n 3, 1) := by decide +kernel
theorem dX4_partOf_31 : decode cX4_partOf 31 = .ok (.iload_n 1, 1) := by decide +kernel
theorem dX4_partOf_32 : decode cX4_partOf 32 = .ok (.idiv, 1) := by decide +kernel
theorem dX4_partOf_33 : decode cX4_partOf 33 = .ok (.istore_n 3, 1) := by decide +kernel
theorem dX4_partOf_34 : decode cX4_partOf 34 = .ok (.iload_n 2, 1) := by decide +kernel
theorem dX4_partOf_35 : decode cX4_partOf 35 = .ok (.iload_n 1, 1) := by decide +kernel
theorem dX4_partOf_36 : decode cX4_partOf 36 = .ok (.imul, 1) := by decide +kernel
theorem dX4_partOf_37 : decode cX4_partOf 37 = .ok (.istore_n 2, 1) := by decide +kernel
theorem dX4_partOf_38 : decode cX4_partOf 38 = .ok (.iinc 4 1, 3) := by decide +kernel
theorem dX4_partOf_41 : decode cX4_partOf 41 = .ok (.goto (-34), 3) := by decide +kernel
theorem dX4_partOf_44 : decode cX4_partOf 44 = .ok (.iload_n 2, 1) := by decide +kernel
theorem dX4_partOf_45 : decode cX4_partOf 45 = .ok (.ireturn, 1) := by decide +kernel
theorem dX4_commonPart_0 : decode cX4_commonPart 0 = .ok (.iload_n 0, 1) := by decide +kernel
theorem dX4_commonPart_1 : decode cX4_commonPart 1 = .ok (.istore_n 2, 1) := by decide +kernel
theorem dX4_commonPart_2 : decode cX4_commonPart 2 = .ok (.iload_n 1, 1) := by decide +kernel
theorem dX4_commonPart_3 : decode cX4_commonPart 3 = .ok (.istore_n 3, 1) := by decide +kernel
theorem dX4_commonPart_4 : decode cX4_commonPart 4 = .ok (.iconst 0, 1) := by decide +kernel
theorem dX4_commonPart_5 : decode cX4_commonPart 5 = .ok (.istore 4, 2) := by decide +kernel
theorem dX4_commonPart_7 : decode cX4_commonPart 7 = .ok (.iload 4, 2) := by decide +kernel
theorem dX4_commonPart_9 : decode cX4_commonPart 9 = .ok (.bipush 64, 2) := by decide +kernel
theorem dX4_commonPart_11 : decode cX4_commonPart 11 = .ok (.if_icmp .ge 23, 3) := by decide +kernel
theorem dX4_commonPart_14 : decode cX4_commonPart 14 = .ok (.iload_n 3, 1) := by decide +kernel
theorem dX4_commonPart_15 : decode cX4_commonPart 15 = .ok (.ifCond .eq 19, 3) := by decide +kernel
theorem dX4_commonPart_18 : decode cX4_commonPart 18 = .ok (.iload_n 2, 1) := by decide +kernel
theorem dX4_commonPart_19 : decode cX4_commonPart 19 = .ok (.iload_n 3, 1) := by decide +kernel
theorem dX4_commonPart_20 : decode cX4_commonPart 20 = .ok (.irem, 1) := by decide +kernel
theorem dX4_commonPart_21 : decode cX4_commonPart 21 = .ok (.istore 5, 2) := by decide +kernel
theorem dX4_commonPart_23 : decode cX4_commonPart 23 = .ok (.iload_n 3, 1) := by decide +kernel
theorem dX4_commonPart_24 : decode cX4_commonPart 24 = .ok (.istore_n 2, 1) := by decide +kernel
theorem dX4_commonPart_25 : decode cX4_commonPart 25 = .ok (.iload 5, 2) := by decide +kernel
theorem dX4_commonPart_27 : decode cX4_commonPart 27 = .ok (.istore_n 3, 1) := by decide +kernel
theorem dX4_commonPart_28 : decode cX4_commonPart 28 = .ok (.iinc 4 1, 3) := by decide +kernel
theorem dX4_commonPart_31 : decode cX4_commonPart 31 = .ok (.goto (-24), 3) := by decide +kernel
theorem dX4_commonPart_34 : decode cX4_commonPart 34 = .ok (.iload_n 2, 1) := by decide +kernel
theorem dX4_commonPart_35 : decode cX4_commonPart 35 = .ok (.ireturn, 1) := by decide +kernel
theorem dX4_inverted_0 : decode cX4_inverted 0 = .ok (.iload_n 1, 1) := by decide +kernel
theorem dX4_inverted_1 : decode cX4_inverted 1 = .ok (.istore_n 2, 1) := by decide +kernel
theorem dX4_inverted_2 : decode cX4_inverted 2 = .ok (.iload_n 0, 1) := by decide +kernel
theorem dX4_inverted_3 : decode cX4_inverted 3 = .ok (.istore_n 3, 1) := by decide +kernel
theorem dX4_inverted_4 : decode cX4_inverted 4 = .ok (.iconst 0, 1) := by decide +kernel
theorem dX4_inverted_5 : decode cX4_inverted 5 = .ok (.istore 4, 2) := by decide +kernel
theorem dX4_inverted_7 : decode cX4_inverted 7 = .ok (.iconst 1, 1) := by decide +kernel
theorem dX4_inverted_8 : decode cX4_inverted 8 = .ok (.istore 5, 2) := by decide +kernel
theorem dX4_inverted_10 : decode cX4_inverted 10 = .ok (.iconst 0, 1) := by decide +kernel
theorem dX4_inverted_11 : decode cX4_inverted 11 = .ok (.istore 6, 2) := by decide +kernel
theorem dX4_inverted_13 : decode cX4_inverted 13 = .ok (.iload 6, 2) := by decide +kernel
theorem dX4_inverted_15 : decode cX4_inverted 15 = .ok (.bipush 64, 2) := by decide +kernel
theorem dX4_inverted_17 : decode cX4_inverted 17 = .ok (.if_icmp .ge 50, 3) := by decide +kernel
theorem dX4_inverted_20 : decode cX4_inverted 20 = .ok (.iload_n 3, 1) := by decide +kernel
theorem dX4_inverted_21 : decode cX4_inverted 21 = .ok (.iconst 1, 1) := by decide +kernel
theorem dX4_inverted_22 : decode cX4_inverted 22 = .ok (.if_icmp .le 45, 3) := by decide +kernel
theorem dX4_inverted_25 : decode cX4_inverted 25 = .ok (.iload_n 2, 1) := by decide +kernel
theorem dX4_inverted_26 : decode cX4_inverted 26 = .ok (.iload_n 3, 1) := by decide +kernel
theorem dX4_inverted_27 : decode cX4_inverted 27 = .ok (.idiv, 1) := by decide +kernel
theorem dX4_inverted_28 : decode cX4_inverted 28 = .ok (.istore 7, 2) := by decide +kernel
theorem dX4_inverted_30 : decode cX4_inverted 30 = .ok (.iload_n 2, 1) := by decide +kernel
theorem dX4_inverted_31 : decode cX4_inverted 31 = .ok (.iload 7, 2) := by decide +kernel
theorem dX4_inverted_33 : decode cX4_inverted 33 = .ok (.iload_n 3, 1) := by decide +kernel
theorem dX4_inverted_34 : decode cX4_inverted 34 = .ok (.imul, 1) := by decide +kernel
theorem dX4_inverted_35 : decode cX4_inverted 35 = .ok (.isub, 1) := by decide +kernel
theorem dX4_inverted_36 : decode cX4_inverted 36 = .ok (.istore 8, 2) := by decide +kernel
theorem dX4_inverted_38 : decode cX4_inverted 38 = .ok (.iload 4, 2) := by decide +kernel
theorem dX4_inverted_40 : decode cX4_inverted 40 = .ok (.iload 7, 2) := by decide +kernel
theorem dX4_inverted_42 : decode cX4_inverted 42 = .ok (.iload 5, 2) := by decide +kernel
theorem dX4_inverted_44 : decode cX4_inverted 44 = .ok (.imul, 1) := by decide +kernel
theorem dX4_inverted_45 : decode cX4_inverted 45 = .ok (.isub, 1) := by decide +kernel
theorem dX4_inverted_46 : decode cX4_inverted 46 = .ok (.istore 9, 2) := by decide +kernel
theorem dX4_inverted_48 : decode cX4_inverted 48 = .ok (.iload_n 3, 1) := by decide +kernel
theorem dX4_inverted_49 : decode cX4_inverted 49 = .ok (.istore_n 2, 1) := by decide +kernel
theorem dX4_inverted_50 : decode cX4_inverted 50 = .ok (.iload 8, 2) := by decide +kernel
theorem dX4_inverted_52 : decode cX4_inverted 52 = .ok (.istore_n 3, 1) := by decide +kernel
theorem dX4_inverted_53 : decode cX4_inverted 53 = .ok (.iload 5, 2) := by decide +kernel
theorem dX4_inverted_55 : decode cX4_inverted 55 = .ok (.istore 4, 2) := by decide +kernel
theorem dX4_inverted_57 : decode cX4_inverted 57 = .ok (.iload 9, 2) := by decide +kernel
theorem dX4_inverted_59 : decode cX4_inverted 59 = .ok (.istore 5, 2) := by decide +kernel
theorem dX4_inverted_61 : decode cX4_inverted 61 = .ok (.iinc 6 1, 3) := by decide +kernel
theorem dX4_inverted_64 : decode cX4_inverted 64 = .ok (.goto (-51), 3) := by decide +kernel
theorem dX4_inverted_67 : decode cX4_inverted 67 = .ok (.iload 5, 2) := by decide +kernel
theorem dX4_inverted_69 : decode cX4_inverted 69 = .ok (.ifCond .ge 10, 3) := by decide +kernel
theorem dX4_inverted_72 : decode cX4_inverted 72 = .ok (.iload 5, 2) := by decide +kernel
theorem dX4_inverted_74 : decode cX4_inverted 74 = .ok (.iload_n 1, 1) := by decide +kernel
theorem dX4_inverted_75 : decode cX4_inverted 75 = .ok (.iadd, 1) := by decide +kernel
theorem dX4_inverted_76 : decode cX4_inverted 76 = .ok (.goto 5, 3) := by decide +kernel
theorem dX4_inverted_79 : decode cX4_inverted 79 = .ok (.iload 5, 2) := by decide +kernel
theorem dX4_inverted_81 : decode cX4_inverted 81 = .ok (.ireturn, 1) := by decide +kernel
theorem dX4_raised_0 : decode cX4_raised 0 = .ok (.iconst 1, 1) := by decide +kernel
theorem dX4_raised_1 : decode cX4_raised 1 = .ok (.istore 4, 2) := by decide +kernel
theorem dX4_raised_3 : decode cX4_raised 3 = .ok (.iload_n 0, 1) := by decide +kernel
theorem dX4_raised_4 : decode cX4_raised 4 = .ok (.istore 5, 2) := by decide +kernel
theorem dX4_raised_6 : decode cX4_raised 6 = .ok (.lload_n 1, 1) := by decide +kernel
theorem dX4_raised_7 : decode cX4_raised 7 = .ok (.lstore 6, 2) := by decide +kernel
theorem dX4_raised_9 : decode cX4_raised 9 = .ok (.iconst 0, 1) := by decide +kernel
theorem dX4_raised_10 : decode cX4_raised 10 = .ok (.istore 8, 2) := by decide +kernel
theorem dX4_raised_12 : decode cX4_raised 12 = .ok (.iload 8, 2) := by decide +kernel
theorem dX4_raised_14 : decode cX4_raised 14 = .ok (.bipush 64, 2) := by decide +kernel
theorem dX4_raised_16 : decode cX4_raised 16 = .ok (.if_icmp .ge 49, 3) := by decide +kernel
theorem dX4_raised_19 : decode cX4_raised 19 = .ok (.lload 6, 2) := by decide +kernel
theorem dX4_raised_21 : decode cX4_raised 21 = .ok (.lconst 0, 1) := by decide +kernel
theorem dX4_raised_22 : decode cX4_raised 22 = .ok (.lcmp, 1) := by decide +kernel
theorem dX4_raised_23 : decode cX4_raised 23 = .ok (.ifCond .eq 42, 3) := by decide +kernel
theorem dX4_raised_26 : decode cX4_raised 26 = .ok (.lload 6, 2) := by decide +kernel
theorem dX4_raised_28 : decode cX4_raised 28 = .ok (.lconst 1, 1) := by decide +kernel
theorem dX4_raised_29 : decode cX4_raised 29 = .ok (.land, 1) := by decide +kernel
theorem dX4_raised_30 : decode cX4_raised 30 = .ok (.lconst 1, 1) := by decide +kernel
theorem dX4_raised_31 : decode cX4_raised 31 = .ok (.lcmp, 1) := by decide +kernel
theorem dX4_raised_32 : decode cX4_raised 32 = .ok (.ifCond .ne 12, 3) := by decide +kernel
theorem dX4_raised_35 : decode cX4_raised 35 = .ok (.iload 4, 2) := by decide +kernel
theorem dX4_raised_37 : decode cX4_raised 37 = .ok (.iload 5, 2) := by decide +kernel
theorem dX4_raised_39 : decode cX4_raised 39 = .ok (.imul, 1) := by decide +kernel
theorem dX4_raised_40 : decode cX4_raised 40 = .ok (.iload_n 3, 1) := by decide +kernel
theorem dX4_raised_41 : decode cX4_raised 41 = .ok (.irem, 1) := by decide +kernel
theorem dX4_raised_42 : decode cX4_raised 42 = .ok (.istore 4, 2) := by decide +kernel
theorem dX4_raised_44 : decode cX4_raised 44 = .ok (.iload 5, 2) := by decide +kernel
theorem dX4_raised_46 : decode cX4_raised 46 = .ok (.iload 5, 2) := by decide +kernel
theorem dX4_raised_48 : decode cX4_raised 48 = .ok (.imul, 1) := by decide +kernel
theorem dX4_raised_49 : decode cX4_raised 49 = .ok (.iload_n 3, 1) := by decide +kernel
theorem dX4_raised_50 : decode cX4_raised 50 = .ok (.irem, 1) := by decide +kernel
theorem dX4_raised_51 : decode cX4_raised 51 = .ok (.istore 5, 2) := by decide +kernel
theorem dX4_raised_53 : decode cX4_raised 53 = .ok (.lload 6, 2) := by decide +kernel
theorem dX4_raised_55 : decode cX4_raised 55 = .ok (.iconst 1, 1) := by decide +kernel
theorem dX4_raised_56 : decode cX4_raised 56 = .ok (.lushr, 1) := by decide +kernel
theorem dX4_raised_57 : decode cX4_raised 57 = .ok (.lstore 6, 2) := by decide +kernel
theorem dX4_raised_59 : decode cX4_raised 59 = .ok (.iinc 8 1, 3) := by decide +kernel
theorem dX4_raised_62 : decode cX4_raised 62 = .ok (.goto (-50), 3) := by decide +kernel
theorem dX4_raised_65 : decode cX4_raised 65 = .ok (.iload 4, 2) := by decide +kernel
theorem dX4_raised_67 : decode cX4_raised 67 = .ok (.ireturn, 1) := by decide +kernel
theorem dX4_reachOf_0 : decode cX4_reachOf 0 = .ok (.iconst 0, 1) := by decide +kernel
theorem dX4_reachOf_1 : decode cX4_reachOf 1 = .ok (.istore_n 1, 1) := by decide +kernel
theorem dX4_reachOf_2 : decode cX4_reachOf 2 = .ok (.iload_n 1, 1) := by decide +kernel
theorem dX4_reachOf_3 : decode cX4_reachOf 3 = .ok (.iload_n 0, 1) := by decide +kernel
theorem dX4_reachOf_4 : decode cX4_reachOf 4 = .ok (.if_icmp .ge 25, 3) := by decide +kernel
theorem dX4_reachOf_7 : decode cX4_reachOf 7 = .ok (.iload_n 1, 1) := by decide +kernel
theorem dX4_reachOf_8 : decode cX4_reachOf 8 = .ok (.iconst 1, 1) := by decide +kernel
theorem dX4_reachOf_9 : decode cX4_reachOf 9 = .ok (.iadd, 1) := by decide +kernel
theorem dX4_reachOf_10 : decode cX4_reachOf 10 = .ok (.iload_n 1, 1) := by decide +kernel
theorem dX4_reachOf_11 : decode cX4_reachOf 11 = .ok (.iconst 1, 1) := by decide +kernel
theorem dX4_reachOf_12 : decode cX4_reachOf 12 = .ok (.iadd, 1) := by decide +kernel
theorem dX4_reachOf_13 : decode cX4_reachOf 13 = .ok (.imul, 1) := by decide +kernel
theorem dX4_reachOf_14 : decode cX4_reachOf 14 = .ok (.iconst 4, 1) := by decide +kernel
theorem dX4_reachOf_15 : decode cX4_reachOf 15 = .ok (.iload_n 0, 1) := by decide +kernel
theorem dX4_reachOf_16 : decode cX4_reachOf 16 = .ok (.imul, 1) := by decide +kernel
theorem dX4_reachOf_17 : decode cX4_reachOf 17 = .ok (.if_icmp .le 6, 3) := by decide +kernel
theorem dX4_reachOf_20 : decode cX4_reachOf 20 = .ok (.goto 9, 3) := by decide +kernel
theorem dX4_reachOf_23 : decode cX4_reachOf 23 = .ok (.iinc 1 1, 3) := by decide +kernel
theorem dX4_reachOf_26 : decode cX4_reachOf 26 = .ok (.goto (-24), 3) := by decide +kernel
theorem dX4_reachOf_29 : decode cX4_reachOf 29 = .ok (.iload_n 1, 1) := by decide +kernel
theorem dX4_reachOf_30 : decode cX4_reachOf 30 = .ok (.ireturn, 1) := by decide +kernel
set_option maxRecDepth 20000 in
theorem ggX4_leastNoSquare_X4_raised : GoodIn wsX4_leastNoSquare wsX4_raised := goodIn_r _ [4] (by decide +kernel) (by decide +kernel)
set_option maxRecDepth 20000 in
theorem gX4_leastNoSquare_X4_raised : GoodIn wsX4_leastNoSquare (va_wsS RX4 19 yX4_raised wsX4_raised) := goodIn_app (goodIn_of _ (by decide +kernel)) ggX4_leastNoSquare_X4_raised
theorem dX4_leastNoSquare_0 : decode cX4_leastNoSquare 0 = .ok (.iconst 2, 1) := by decide +kernel
theorem dX4_leastNoSquare_1 : decode cX4_leastNoSquare 1 = .ok (.istore_n 1, 1) := by decide +kernel
theorem dX4_leastNoSquare_2 : decode cX4_leastNoSquare 2 = .ok (.iload_n 1, 1) := by decide +kernel
theorem dX4_leastNoSquare_3 : decode cX4_leastNoSquare 3 = .ok (.iload_n 0, 1) := by decide +kernel
theorem dX4_leastNoSquare_4 : decode cX4_leastNoSquare 4 = .ok (.iconst 1, 1) := by decide +kernel
theorem dX4_leastNoSquare_5 : decode cX4_leastNoSquare 5 = .ok (.isub, 1) := by decide +kernel
theorem dX4_leastNoSquare_6 : decode cX4_leastNoSquare 6 = .ok (.if_icmp .ge 27, 3) := by decide +kernel
theorem dX4_leastNoSquare_9 : decode cX4_leastNoSquare 9 = .ok (.iload_n 1, 1) := by decide +kernel
theorem dX4_leastNoSquare_10 : decode cX4_leastNoSquare 10 = .ok (.iload_n 0, 1) := by decide +kernel
theorem dX4_leastNoSquare_11 : decode cX4_leastNoSquare 11 = .ok (.iconst 1, 1) := by decide +kernel
theorem dX4_leastNoSquare_12 : decode cX4_leastNoSquare 12 = .ok (.isub, 1) := by decide +kernel
theorem dX4_leastNoSquare_13 : decode cX4_leastNoSquare 13 = .ok (.iconst 2, 1) := by decide +kernel
theorem dX4_leastNoSquare_14 : decode cX4_leastNoSquare 14 = .ok (.idiv, 1) := by decide +kernel
theorem dX4_leastNoSquare_15 : decode cX4_leastNoSquare 15 = .ok (.i2l, 1) := by decide +kernel
theorem dX4_leastNoSquare_16 : decode cX4_leastNoSquare 16 = .ok (.iload_n 0, 1) := by decide +kernel
theorem dX4_leastNoSquare_17 : decode cX4_leastNoSquare 17 = .ok (.invokestatic 19, 3) := by decide +kernel
theorem dX4_leastNoSquare_20 : decode cX4_leastNoSquare 20 = .ok (.iconst 1, 1) := by decide +kernel
theorem dX4_leastNoSquare_21 : decode cX4_leastNoSquare 21 = .ok (.if_icmp .eq 6, 3) := by decide +kernel
theorem dX4_leastNoSquare_24 : decode cX4_leastNoSquare 24 = .ok (.goto 9, 3) := by decide +kernel
theorem dX4_leastNoSquare_27 : decode cX4_leastNoSquare 27 = .ok (.iinc 1 1, 3) := by decide +kernel
theorem dX4_leastNoSquare_30 : decode cX4_leastNoSquare 30 = .ok (.goto (-28), 3) := by decide +kernel
theorem dX4_leastNoSquare_33 : decode cX4_leastNoSquare 33 = .ok (.iload_n 1, 1) := by decide +kernel
theorem dX4_leastNoSquare_34 : decode cX4_leastNoSquare 34 = .ok (.ireturn, 1) := by decide +kernel
set_option maxRecDepth 20000 in
theorem ggX4_leastGenerator_X4_generates : GoodIn wsX4_leastGenerator wsX4_generates := goodIn_r _ [4, 5, 6, 3, 7, 8, 9, 10, 11, 12, 13] (by decide +kernel) (by decide +kernel)
set_option maxRecDepth 20000 in
theorem gX4_leastGenerator_X4_generates : GoodIn wsX4_leastGenerator (va_wsS RX4 23 yX4_generates wsX4_generates) := goodIn_app (goodIn_of _ (by decide +kernel)) ggX4_leastGenerator_X4_generates
theorem dX4_leastGenerator_0 : decode cX4_leastGenerator 0 = .ok (.iconst 2, 1) := by decide +kernel
theorem dX4_leastGenerator_1 : decode cX4_leastGenerator 1 = .ok (.istore_n 1, 1) := by decide +kernel
theorem dX4_leastGenerator_2 : decode cX4_leastGenerator 2 = .ok (.iload_n 1, 1) := by decide +kernel
theorem dX4_leastGenerator_3 : decode cX4_leastGenerator 3 = .ok (.iload_n 0, 1) := by decide +kernel
theorem dX4_leastGenerator_4 : decode cX4_leastGenerator 4 = .ok (.iconst 1, 1) := by decide +kernel
theorem dX4_leastGenerator_5 : decode cX4_leastGenerator 5 = .ok (.isub, 1) := by decide +kernel
theorem dX4_leastGenerator_6 : decode cX4_leastGenerator 6 = .ok (.if_icmp .ge 20, 3) := by decide +kernel
theorem dX4_leastGenerator_9 : decode cX4_leastGenerator 9 = .ok (.iload_n 1, 1) := by decide +kernel
theorem dX4_leastGenerator_10 : decode cX4_leastGenerator 10 = .ok (.iload_n 0, 1) := by decide +kernel
theorem dX4_leastGenerator_11 : decode cX4_leastGenerator 11 = .ok (.invokestatic 23, 3) := by decide +kernel
theorem dX4_leastGenerator_14 : decode cX4_leastGenerator 14 = .ok (.ifCond .eq 6, 3) := by decide +kernel
theorem dX4_leastGenerator_17 : decode cX4_leastGenerator 17 = .ok (.goto 9, 3) := by decide +kernel
theorem dX4_leastGenerator_20 : decode cX4_leastGenerator 20 = .ok (.iinc 1 1, 3) := by decide +kernel
theorem dX4_leastGenerator_23 : decode cX4_leastGenerator 23 = .ok (.goto (-21), 3) := by decide +kernel
theorem dX4_leastGenerator_26 : decode cX4_leastGenerator 26 = .ok (.iload_n 1, 1) := by decide +kernel
theorem dX4_leastGenerator_27 : decode cX4_leastGenerator 27 = .ok (.ireturn, 1) := by decide +kernel
set_option maxRecDepth 20000 in
theorem ggX4_generates_X4_leastFactor : GoodIn wsX4_generates wsX4_leastFactor := goodIn_r _ [4] (by decide +kernel) (by decide +kernel)
set_option maxRecDepth 20000 in
theorem gX4_generates_X4_leastFactor : GoodIn wsX4_generates (va_wsS RX4 15 yX4_leastFactor wsX4_leastFactor) := goodIn_app (goodIn_of _ (by decide +kernel)) ggX4_generates_X4_leastFactor
set_option maxRecDepth 20000 in
theorem ggX4_generates_X4_raised : GoodIn wsX4_generates wsX4_raised := goodIn_r _ [7] (by decide +kernel) (by decide +kernel)
set_option maxRecDepth 20000 in
theorem gX4_generates_X4_raised : GoodIn wsX4_generates (va_wsS RX4 19 yX4_raised wsX4_raised) := goodIn_app (goodIn_of _ (by decide +kernel)) ggX4_generates_X4_raised
set_option maxRecDepth 20000 in
theorem ggX4_generates_X4_partOf : GoodIn wsX4_generates wsX4_partOf := goodIn_r _ [10] (by decide +kernel) (by decide +kernel)
set_option maxRecDepth 20000 in
theorem gX4_generates_X4_partOf : GoodIn wsX4_generates (va_wsS RX4 27 yX4_partOf wsX4_partOf) := goodIn_app (goodIn_of _ (by decide +kernel)) ggX4_generates_X4_partOf
theorem dX4_generates_0 : decode cX4_generates 0 = .ok (.iload_n 1, 1) := by decide +kernel
theorem dX4_generates_1 : decode cX4_generates 1 = .ok (.iconst 1, 1) := by decide +kernel
theorem dX4_generates_2 : decode cX4_generates 2 = .ok (.isub, 1) := by decide +kernel
theorem dX4_generates_3 : decode cX4_generates 3 = .ok (.istore_n 2, 1) := by decide +kernel
theorem dX4_generates_4 : decode cX4_generates 4 = .ok (.iconst 0, 1) := by decide +kernel
theorem dX4_generates_5 : decode cX4_generates 5 = .ok (.istore_n 3, 1) := by decide +kernel
theorem dX4_generates_6 : decode cX4_generates 6 = .ok (.iload_n 3, 1) := by decide +kernel
theorem dX4_generates_7 : decode cX4_generates 7 = .ok (.bipush 32, 2) := by decide +kernel
theorem dX4_generates_9 : decode cX4_generates 9 = .ok (.if_icmp .ge 47, 3) := by decide +kernel
theorem dX4_generates_12 : decode cX4_generates 12 = .ok (.iload_n 2, 1) := by decide +kernel
theorem dX4_generates_13 : decode cX4_generates 13 = .ok (.iconst 1, 1) := by decide +kernel
theorem dX4_generates_14 : decode cX4_generates 14 = .ok (.if_icmp .le 42, 3) := by decide +kernel
theorem dX4_generates_17 : decode cX4_generates 17 = .ok (.iload_n 2, 1) := by decide +kernel
theorem dX4_generates_18 : decode cX4_generates 18 = .ok (.invokestatic 15, 3) := by decide +kernel
theorem dX4_generates_21 : decode cX4_generates 21 = .ok (.istore 4, 2) := by decide +kernel
theorem dX4_generates_23 : decode cX4_generates 23 = .ok (.iload_n 0, 1) := by decide +kernel
theorem dX4_generates_24 : decode cX4_generates 24 = .ok (.iload_n 1, 1) := by decide +kernel
theorem dX4_generates_25 : decode cX4_generates 25 = .ok (.iconst 1, 1) := by decide +kernel
theorem dX4_generates_26 : decode cX4_generates 26 = .ok (.isub, 1) := by decide +kernel
theorem dX4_generates_27 : decode cX4_generates 27 = .ok (.iload 4, 2) := by decide +kernel
theorem dX4_generates_29 : decode cX4_generates 29 = .ok (.idiv, 1) := by decide +kernel
theorem dX4_generates_30 : decode cX4_generates 30 = .ok (.i2l, 1) := by decide +kernel
theorem dX4_generates_31 : decode cX4_generates 31 = .ok (.iload_n 1, 1) := by decide +kernel
theorem dX4_generates_32 : decode cX4_generates 32 = .ok (.invokestatic 19, 3) := by decide +kernel
theorem dX4_generates_35 : decode cX4_generates 35 = .ok (.iconst 1, 1) := by decide +kernel
theorem dX4_generates_36 : decode cX4_generates 36 = .ok (.if_icmp .ne 5, 3) := by decide +kernel
theorem dX4_generates_39 : decode cX4_generates 39 = .ok (.iconst 0, 1) := by decide +kernel
theorem dX4_generates_40 : decode cX4_generates 40 = .ok (.ireturn, 1) := by decide +kernel
theorem dX4_generates_41 : decode cX4_generates 41 = .ok (.iload_n 2, 1) := by decide +kernel
theorem dX4_generates_42 : decode cX4_generates 42 = .ok (.iload_n 2, 1) := by decide +kernel
theorem dX4_generates_43 : decode cX4_generates 43 = .ok (.iload 4, 2) := by decide +kernel
theorem dX4_generates_45 : decode cX4_generates 45 = .ok (.invokestatic 27, 3) := by decide +kernel
theorem dX4_generates_48 : decode cX4_generates 48 = .ok (.idiv, 1) := by decide +kernel
theorem dX4_generates_49 : decode cX4_generates 49 = .ok (.istore_n 2, 1) := by decide +kernel
theorem dX4_generates_50 : decode cX4_generates 50 = .ok (.iinc 3 1, 3) := by decide +kernel
theorem dX4_generates_53 : decode cX4_generates 53 = .ok (.goto (-47), 3) := by decide +kernel
theorem dX4_generates_56 : decode cX4_generates 56 = .ok (.iconst 1, 1) := by decide +kernel
theorem dX4_generates_57 : decode cX4_generates 57 = .ok (.ireturn, 1) := by decide +kernel
set_option maxRecDepth 20000 in
theorem ggX4_orderModulo_X4_commonPart : GoodIn wsX4_orderModulo wsX4_commonPart := goodIn_r _ [4] (by decide +kernel) (by decide +kernel)
set_option maxRecDepth 20000 in
theorem gX4_orderModulo_X4_commonPart : GoodIn wsX4_orderModulo (va_wsS RX4 31 yX4_commonPart wsX4_commonPart) := goodIn_app (goodIn_of _ (by decide +kernel)) ggX4_orderModulo_X4_commonPart
theorem dX4_orderModulo_0 : decode cX4_orderModulo 0 = .ok (.iload_n 1, 1) := by decide +kernel
theorem dX4_orderModulo_1 : decode cX4_orderModulo 1 = .ok (.iload_n 0, 1) := by decide +kernel
theorem dX4_orderModulo_2 : decode cX4_orderModulo 2 = .ok (.invokestatic 31, 3) := by decide +kernel
theorem dX4_orderModulo_5 : decode cX4_orderModulo 5 = .ok (.iconst 1, 1) := by decide +kernel
theorem dX4_orderModulo_6 : decode cX4_orderModulo 6 = .ok (.if_icmp .eq 5, 3) := by decide +kernel
theorem dX4_orderModulo_9 : decode cX4_orderModulo 9 = .ok (.iconst (-1), 1) := by decide +kernel
theorem dX4_orderModulo_10 : decode cX4_orderModulo 10 = .ok (.ireturn, 1) := by decide +kernel
theorem dX4_orderModulo_11 : decode cX4_orderModulo 11 = .ok (.iload_n 0, 1) := by decide +kernel
theorem dX4_orderModulo_12 : decode cX4_orderModulo 12 = .ok (.istore_n 2, 1) := by decide +kernel
theorem dX4_orderModulo_13 : decode cX4_orderModulo 13 = .ok (.iconst 1, 1) := by decide +kernel
theorem dX4_orderModulo_14 : decode cX4_orderModulo 14 = .ok (.istore_n 3, 1) := by decide +kernel
theorem dX4_orderModulo_15 : decode cX4_orderModulo 15 = .ok (.iload_n 3, 1) := by decide +kernel
theorem dX4_orderModulo_16 : decode cX4_orderModulo 16 = .ok (.iload_n 1, 1) := by decide +kernel
theorem dX4_orderModulo_17 : decode cX4_orderModulo 17 = .ok (.if_icmp .ge 22, 3) := by decide +kernel
theorem dX4_orderModulo_20 : decode cX4_orderModulo 20 = .ok (.iload_n 2, 1) := by decide +kernel
theorem dX4_orderModulo_21 : decode cX4_orderModulo 21 = .ok (.iconst 1, 1) := by decide +kernel
theorem dX4_orderModulo_22 : decode cX4_orderModulo 22 = .ok (.if_icmp .ne 5, 3) := by decide +kernel
theorem dX4_orderModulo_25 : decode cX4_orderModulo 25 = .ok (.iload_n 3, 1) := by decide +kernel
theorem dX4_orderModulo_26 : decode cX4_orderModulo 26 = .ok (.ireturn, 1) := by decide +kernel
theorem dX4_orderModulo_27 : decode cX4_orderModulo 27 = .ok (.iload_n 2, 1) := by decide +kernel
theorem dX4_orderModulo_28 : decode cX4_orderModulo 28 = .ok (.iload_n 0, 1) := by decide +kernel
theorem dX4_orderModulo_29 : decode cX4_orderModulo 29 = .ok (.imul, 1) := by decide +kernel
theorem dX4_orderModulo_30 : decode cX4_orderModulo 30 = .ok (.iload_n 1, 1) := by decide +kernel
theorem dX4_orderModulo_31 : decode cX4_orderModulo 31 = .ok (.irem, 1) := by decide +kernel
theorem dX4_orderModulo_32 : decode cX4_orderModulo 32 = .ok (.istore_n 2, 1) := by decide +kernel
theorem dX4_orderModulo_33 : decode cX4_orderModulo 33 = .ok (.iinc 3 1, 3) := by decide +kernel
theorem dX4_orderModulo_36 : decode cX4_orderModulo 36 = .ok (.goto (-21), 3) := by decide +kernel
theorem dX4_orderModulo_39 : decode cX4_orderModulo 39 = .ok (.iconst (-1), 1) := by decide +kernel
theorem dX4_orderModulo_40 : decode cX4_orderModulo 40 = .ok (.ireturn, 1) := by decide +kernel
set_option maxRecDepth 20000 in
theorem ggX5_told_X5_at : GoodIn wsX5_told wsX5_at := goodIn_r _ [8, 9, 10, 56, 57, 58] (by decide +kernel) (by decide +kernel)
set_option maxRecDepth 20000 in
theorem gX5_told_X5_at : GoodIn wsX5_told (wsV RX5 47 RX5 yX5_at wsX5_at) := goodIn_app (goodIn_of _ (by decide +kernel)) ggX5_told_X5_at
set_option maxRecDepth 20000 in
theorem ggX5_told_X0_invariant : GoodIn wsX5_told wsX0_invariant := goodIn_r _ [15, 16, 17, 18, 19, 20, 21, 22, 23, 24, 25, 44, 45, 46, 47, 48, 49, 50, 51, 52, 53, 54, 55] (by decide +kernel) (by decide +kernel)
set_option maxRecDepth 20000 in
theorem gX5_told_X0_invariant : GoodIn wsX5_told (wsV RX5 60 RX0 yX0_invariant wsX0_invariant) := goodIn_app (goodIn_of _ (by decide +kernel)) ggX5_told_X0_invariant
set_option maxRecDepth 20000 in
theorem ggX5_told_X4_cubicMark : GoodIn wsX5_told wsX4_cubicMark := goodIn_r _ [22] (by decide +kernel) (by decide +kernel)
set_option maxRecDepth 20000 in
theorem gX5_told_X4_cubicMark : GoodIn wsX5_told (va_wsS RX5 36 yX4_cubicMark wsX4_cubicMark) := goodIn_app (goodIn_of _ (by decide +kernel)) ggX5_told_X4_cubicMark
set_option maxRecDepth 20000 in
theorem ggX5_told_J9_floorMod_7cf53 : GoodIn wsX5_told wsJ9_floorMod_7cf53 := goodIn_r _ [30] (by decide +kernel) (by decide +kernel)
set_option maxRecDepth 20000 in
theorem gX5_told_J9_floorMod_7cf53 : GoodIn wsX5_told (va_wsS RX5 64 yJ9_floorMod_7cf53 wsJ9_floorMod_7cf53) := goodIn_app (goodIn_of _ (by decide +kernel)) ggX5_told_J9_floorMod_7cf53
set_option maxRecDepth 20000 in
theorem ggX5_told_X4_leastNoSquare : GoodIn wsX5_told wsX4_leastNoSquare := goodIn_r _ [33, 34, 35, 21, 36] (by decide +kernel) (by decide +kernel)
set_option maxRecDepth 20000 in
theorem gX5_told_X4_leastNoSquare : GoodIn wsX5_told (va_wsS RX5 70 yX4_leastNoSquare wsX4_leastNoSquare) := goodIn_app (goodIn_of _ (by decide +kernel)) ggX5_told_X4_leastNoSquare
set_option maxRecDepth 20000 in
theorem ggX5_told_X0_selfMaps : GoodIn wsX5_told wsX0_selfMaps := goodIn_r _ [40, 16, 17, 18, 41, 42, 21, 43, 44, 45, 46, 47, 48, 49, 50, 51, 52, 53, 54, 55] (by decide +kernel) (by decide +kernel)
set_option maxRecDepth 20000 in
theorem gX5_told_X0_selfMaps : GoodIn wsX5_told (wsV RX5 74 RX0 yX0_selfMaps wsX0_selfMaps) := goodIn_app (goodIn_of _ (by decide +kernel)) ggX5_told_X0_selfMaps
theorem dX5_told_13 : decode cX5_told 13 = .ok (.iload_n 2, 1) := by decide +kernel
theorem dX5_told_14 : decode cX5_told 14 = .ok (.tableswitch 101 0 6 #[42, 47, 52, 57, 62, 88, 96], 42) := by decide +kernel
theorem dX5_told_56 : decode cX5_told 56 = .ok (.aload_n 3, 1) := by decide +kernel
theorem dX5_told_57 : decode cX5_told 57 = .ok (.getfield 51, 3) := by decide +kernel
theorem dX5_told_60 : decode cX5_told 60 = .ok (.ireturn, 1) := by decide +kernel
theorem dX5_told_61 : decode cX5_told 61 = .ok (.aload_n 3, 1) := by decide +kernel
theorem dX5_told_62 : decode cX5_told 62 = .ok (.getfield 54, 3) := by decide +kernel
theorem dX5_told_65 : decode cX5_told 65 = .ok (.ireturn, 1) := by decide +kernel
theorem dX5_told_66 : decode cX5_told 66 = .ok (.aload_n 3, 1) := by decide +kernel
theorem dX5_told_67 : decode cX5_told 67 = .ok (.getfield 57, 3) := by decide +kernel
theorem dX5_told_70 : decode cX5_told 70 = .ok (.ireturn, 1) := by decide +kernel
theorem dX5_told_71 : decode cX5_told 71 = .ok (.aload_n 3, 1) := by decide +kernel
theorem dX5_told_72 : decode cX5_told 72 = .ok (.invokevirtual 60, 3) := by decide +kernel
theorem dX5_told_75 : decode cX5_told 75 = .ok (.ireturn, 1) := by decide +kernel
theorem dX5_told_76 : decode cX5_told 76 = .ok (.bipush (-16), 2) := by decide +kernel
theorem dX5_told_78 : decode cX5_told 78 = .ok (.aload_n 3, 1) := by decide +kernel
theorem dX5_told_79 : decode cX5_told 79 = .ok (.getfield 54, 3) := by decide +kernel
theorem dX5_told_82 : decode cX5_told 82 = .ok (.aload_n 3, 1) := by decide +kernel
theorem dX5_told_83 : decode cX5_told 83 = .ok (.getfield 57, 3) := by decide +kernel
theorem dX5_told_86 : decode cX5_told 86 = .ok (.aload_n 3, 1) := by decide +kernel
theorem dX5_told_87 : decode cX5_told 87 = .ok (.getfield 51, 3) := by decide +kernel
theorem dX5_told_90 : decode cX5_told 90 = .ok (.invokestatic 36, 3) := by decide +kernel
theorem dX5_told_93 : decode cX5_told 93 = .ok (.imul, 1) := by decide +kernel
theorem dX5_told_94 : decode cX5_told 94 = .ok (.aload_n 3, 1) := by decide +kernel
theorem dX5_told_95 : decode cX5_told 95 = .ok (.getfield 51, 3) := by decide +kernel
theorem dX5_told_98 : decode cX5_told 98 = .ok (.invokestatic 64, 3) := by decide +kernel
theorem dX5_told_101 : decode cX5_told 101 = .ok (.ireturn, 1) := by decide +kernel
theorem dX5_told_102 : decode cX5_told 102 = .ok (.aload_n 3, 1) := by decide +kernel
theorem dX5_told_103 : decode cX5_told 103 = .ok (.getfield 51, 3) := by decide +kernel
theorem dX5_told_106 : decode cX5_told 106 = .ok (.invokestatic 70, 3) := by decide +kernel
theorem dX5_told_109 : decode cX5_told 109 = .ok (.ireturn, 1) := by decide +kernel
theorem dX5_told_110 : decode cX5_told 110 = .ok (.aload_n 3, 1) := by decide +kernel
theorem dX5_told_111 : decode cX5_told 111 = .ok (.invokevirtual 74, 3) := by decide +kernel
theorem dX5_told_114 : decode cX5_told 114 = .ok (.ireturn, 1) := by decide +kernel
theorem dX5_told_115 : decode cX5_told 115 = .ok (.bipush (-2), 2) := by decide +kernel
theorem dX5_told_117 : decode cX5_told 117 = .ok (.ireturn, 1) := by decide +kernel
set_option maxRecDepth 20000 in
theorem ggX5_twist_X5_at : GoodIn wsX5_twist wsX5_at := goodIn_r _ [5, 6, 7, 37, 38, 39] (by decide +kernel) (by decide +kernel)
set_option maxRecDepth 20000 in
theorem gX5_twist_X5_at : GoodIn wsX5_twist (wsV RX5 47 RX5 yX5_at wsX5_at) := goodIn_app (goodIn_of _ (by decide +kernel)) ggX5_twist_X5_at
set_option maxRecDepth 20000 in
theorem ggX5_twist_X0_twisted : GoodIn wsX5_twist wsX0_twisted := goodIn_r _ [12, 13, 14, 15, 11, 16, 17, 18, 19, 20, 21, 22, 23, 24, 25, 26, 27, 28, 29, 30, 31, 32, 40, 41, 42, 43, 44, 45, 46, 47, 48, 49, 50, 51] (by decide +kernel) (by decide +kernel)
set_option maxRecDepth 20000 in
theorem gX5_twist_X0_twisted : GoodIn wsX5_twist (wsV RX5 77 RX0 yX0_twisted wsX0_twisted) := goodIn_app (goodIn_of _ (by decide +kernel)) ggX5_twist_X0_twisted
set_option maxRecDepth 20000 in
theorem ggX5_twist_X5_keep : GoodIn wsX5_twist wsX5_keep := goodIn_r _ [36, 6, 7, 37, 38, 39] (by decide +kernel) (by decide +kernel)
set_option maxRecDepth 20000 in
theorem gX5_twist_X5_keep : GoodIn wsX5_twist (wsV RX5 43 RX5 yX5_keep wsX5_keep) := goodIn_app (goodIn_of _ (by decide +kernel)) ggX5_twist_X5_keep
theorem dX5_twist_15 : decode cX5_twist 15 = .ok (.aload_n 0, 1) := by decide +kernel
theorem dX5_twist_16 : decode cX5_twist 16 = .ok (.aload_n 2, 1) := by decide +kernel
theorem dX5_twist_17 : decode cX5_twist 17 = .ok (.invokevirtual 77, 3) := by decide +kernel
theorem dX5_twist_20 : decode cX5_twist 20 = .ok (.invokevirtual 43, 3) := by decide +kernel
set_option maxRecDepth 20000 in
theorem ggX5_map_X5_at : GoodIn wsX5_map wsX5_at := goodIn_r _ [5, 6, 7, 16, 17, 18] (by decide +kernel) (by decide +kernel)
set_option maxRecDepth 20000 in
theorem gX5_map_X5_at : GoodIn wsX5_map (wsV RX5 47 RX5 yX5_at wsX5_at) := goodIn_app (goodIn_of _ (by decide +kernel)) ggX5_map_X5_at
set_option maxRecDepth 20000 in
theorem ggX5_map_X0_leastMapTo : GoodIn wsX5_map wsX0_leastMapTo := goodIn_r _ [12, 13, 14, 15, 19, 20, 21, 22, 23, 24, 25, 26, 27, 28, 29, 30] (by decide +kernel) (by decide +kernel)
set_option maxRecDepth 20000 in
theorem gX5_map_X0_leastMapTo : GoodIn wsX5_map (wsV RX5 81 RX0 yX0_leastMapTo wsX0_leastMapTo) := goodIn_app (goodIn_of _ (by decide +kernel)) ggX5_map_X0_leastMapTo
theorem dX5_map_17 : decode cX5_map 17 = .ok (.aload 4, 2) := by decide +kernel
theorem dX5_map_19 : decode cX5_map 19 = .ok (.ifnonnull 6, 3) := by decide +kernel
theorem dX5_map_25 : decode cX5_map 25 = .ok (.aload_n 3, 1) := by decide +kernel
theorem dX5_map_26 : decode cX5_map 26 = .ok (.aload 4, 2) := by decide +kernel
theorem dX5_map_28 : decode cX5_map 28 = .ok (.invokevirtual 81, 3) := by decide +kernel
theorem dX5_map_31 : decode cX5_map 31 = .ok (.ireturn, 1) := by decide +kernel
set_option maxRecDepth 20000 in
theorem ggX5_mapped_X5_at : GoodIn wsX5_mapped wsX5_at := goodIn_r _ [6, 7, 8, 47, 48, 49] (by decide +kernel) (by decide +kernel)
set_option maxRecDepth 20000 in
theorem gX5_mapped_X5_at : GoodIn wsX5_mapped (wsV RX5 47 RX5 yX5_at wsX5_at) := goodIn_app (goodIn_of _ (by decide +kernel)) ggX5_mapped_X5_at
set_option maxRecDepth 20000 in
theorem ggX5_mapped_X4_isBelow : GoodIn wsX5_mapped wsX4_isBelow := goodIn_r _ [12] (by decide +kernel) (by decide +kernel)
set_option maxRecDepth 20000 in
theorem gX5_mapped_X4_isBelow : GoodIn wsX5_mapped (va_wsS RX5 32 yX4_isBelow wsX4_isBelow) := goodIn_app (goodIn_of _ (by decide +kernel)) ggX5_mapped_X4_isBelow
set_option maxRecDepth 20000 in
theorem ggX5_mapped_X0_holds : GoodIn wsX5_mapped wsX0_holds := goodIn_r _ [17, 18, 19, 5, 20, 21, 22, 23, 10, 11, 12, 24, 25, 26, 16, 27, 28, 29, 35, 36, 37, 38, 39, 40, 41, 42, 43, 44, 45, 46] (by decide +kernel) (by decide +kernel)
set_option maxRecDepth 20000 in
theorem gX5_mapped_X0_holds : GoodIn wsX5_mapped (wsV RX5 84 RX0 yX0_holds wsX0_holds) := goodIn_app (goodIn_of _ (by decide +kernel)) ggX5_mapped_X0_holds
set_option maxRecDepth 20000 in
theorem ggX5_mapped_X5_xOf : GoodIn wsX5_mapped wsX5_xOf := goodIn_r _ [20] (by decide +kernel) (by decide +kernel)
set_option maxRecDepth 20000 in
theorem gX5_mapped_X5_xOf : GoodIn wsX5_mapped (va_wsS RX5 87 yX5_xOf wsX5_xOf) := goodIn_app (goodIn_of _ (by decide +kernel)) ggX5_mapped_X5_xOf
set_option maxRecDepth 20000 in
theorem ggX5_mapped_X5_yOf : GoodIn wsX5_mapped wsX5_yOf := goodIn_r _ [22] (by decide +kernel) (by decide +kernel)
set_option maxRecDepth 20000 in
theorem gX5_mapped_X5_yOf : GoodIn wsX5_mapped (va_wsS RX5 90 yX5_yOf wsX5_yOf) := goodIn_app (goodIn_of _ (by decide +kernel)) ggX5_mapped_X5_yOf
set_option maxRecDepth 20000 in
theorem ggX5_mapped_X5_pair : GoodIn wsX5_mapped wsX5_pair := goodIn_r _ [34] (by decide +kernel) (by decide +kernel)
set_option maxRecDepth 20000 in
theorem gX5_mapped_X5_pair : GoodIn wsX5_mapped (va_wsS RX5 93 yX5_pair wsX5_pair) := goodIn_app (goodIn_of _ (by decide +kernel)) ggX5_mapped_X5_pair
theorem dX5_mapped_12 : decode cX5_mapped 12 = .ok (.iload_n 2, 1) := by decide +kernel
theorem dX5_mapped_13 : decode cX5_mapped 13 = .ok (.ifCond .eq 24, 3) := by decide +kernel
theorem dX5_mapped_16 : decode cX5_mapped 16 = .ok (.iload_n 2, 1) := by decide +kernel
theorem dX5_mapped_17 : decode cX5_mapped 17 = .ok (.aload 4, 2) := by decide +kernel
theorem dX5_mapped_19 : decode cX5_mapped 19 = .ok (.getfield 51, 3) := by decide +kernel
theorem dX5_mapped_22 : decode cX5_mapped 22 = .ok (.invokestatic 32, 3) := by decide +kernel
theorem dX5_mapped_25 : decode cX5_mapped 25 = .ok (.ifCond .eq 12, 3) := by decide +kernel
theorem dX5_mapped_28 : decode cX5_mapped 28 = .ok (.aload 4, 2) := by decide +kernel
theorem dX5_mapped_30 : decode cX5_mapped 30 = .ok (.iload_n 3, 1) := by decide +kernel
theorem dX5_mapped_31 : decode cX5_mapped 31 = .ok (.invokevirtual 84, 3) := by decide +kernel
theorem dX5_mapped_34 : decode cX5_mapped 34 = .ok (.ifCond .ne 6, 3) := by decide +kernel
theorem dX5_mapped_40 : decode cX5_mapped 40 = .ok (.iload_n 3, 1) := by decide +kernel
theorem dX5_mapped_41 : decode cX5_mapped 41 = .ok (.iconst (-1), 1) := by decide +kernel
theorem dX5_mapped_42 : decode cX5_mapped 42 = .ok (.if_icmp .ne 5, 3) := by decide +kernel
theorem dX5_mapped_45 : decode cX5_mapped 45 = .ok (.iconst (-1), 1) := by decide +kernel
theorem dX5_mapped_46 : decode cX5_mapped 46 = .ok (.ireturn, 1) := by decide +kernel
theorem dX5_mapped_47 : decode cX5_mapped 47 = .ok (.iload_n 2, 1) := by decide +kernel
theorem dX5_mapped_48 : decode cX5_mapped 48 = .ok (.iload_n 2, 1) := by decide +kernel
theorem dX5_mapped_49 : decode cX5_mapped 49 = .ok (.imul, 1) := by decide +kernel
theorem dX5_mapped_50 : decode cX5_mapped 50 = .ok (.aload 4, 2) := by decide +kernel
theorem dX5_mapped_52 : decode cX5_mapped 52 = .ok (.getfield 51, 3) := by decide +kernel
theorem dX5_mapped_55 : decode cX5_mapped 55 = .ok (.irem, 1) := by decide +kernel
theorem dX5_mapped_56 : decode cX5_mapped 56 = .ok (.istore 5, 2) := by decide +kernel
theorem dX5_mapped_58 : decode cX5_mapped 58 = .ok (.iload 5, 2) := by decide +kernel
theorem dX5_mapped_60 : decode cX5_mapped 60 = .ok (.iload_n 2, 1) := by decide +kernel
theorem dX5_mapped_61 : decode cX5_mapped 61 = .ok (.imul, 1) := by decide +kernel
theorem dX5_mapped_62 : decode cX5_mapped 62 = .ok (.aload 4, 2) := by decide +kernel
theorem dX5_mapped_64 : decode cX5_mapped 64 = .ok (.getfield 51, 3) := by decide +kernel
theorem dX5_mapped_67 : decode cX5_mapped 67 = .ok (.irem, 1) := by decide +kernel
theorem dX5_mapped_68 : decode cX5_mapped 68 = .ok (.istore 6, 2) := by decide +kernel
theorem dX5_mapped_70 : decode cX5_mapped 70 = .ok (.iload_n 3, 1) := by decide +kernel
theorem dX5_mapped_71 : decode cX5_mapped 71 = .ok (.invokestatic 87, 3) := by decide +kernel
theorem dX5_mapped_74 : decode cX5_mapped 74 = .ok (.iload 5, 2) := by decide +kernel
theorem dX5_mapped_76 : decode cX5_mapped 76 = .ok (.imul, 1) := by decide +kernel
theorem dX5_mapped_77 : decode cX5_mapped 77 = .ok (.aload 4, 2) := by decide +kernel
theorem dX5_mapped_79 : decode cX5_mapped 79 = .ok (.getfield 51, 3) := by decide +kernel
theorem dX5_mapped_82 : decode cX5_mapped 82 = .ok (.irem, 1) := by decide +kernel
theorem dX5_mapped_83 : decode cX5_mapped 83 = .ok (.iload_n 3, 1) := by decide +kernel
theorem dX5_mapped_84 : decode cX5_mapped 84 = .ok (.invokestatic 90, 3) := by decide +kernel
theorem dX5_mapped_87 : decode cX5_mapped 87 = .ok (.iload 6, 2) := by decide +kernel
theorem dX5_mapped_89 : decode cX5_mapped 89 = .ok (.imul, 1) := by decide +kernel
theorem dX5_mapped_90 : decode cX5_mapped 90 = .ok (.aload 4, 2) := by decide +kernel
theorem dX5_mapped_92 : decode cX5_mapped 92 = .ok (.getfield 51, 3) := by decide +kernel
theorem dX5_mapped_95 : decode cX5_mapped 95 = .ok (.irem, 1) := by decide +kernel
theorem dX5_mapped_96 : decode cX5_mapped 96 = .ok (.invokestatic 93, 3) := by decide +kernel
theorem dX5_mapped_99 : decode cX5_mapped 99 = .ok (.ireturn, 1) := by decide +kernel
set_option maxRecDepth 20000 in
theorem ggX5_root_X5_at : GoodIn wsX5_root wsX5_at := goodIn_r _ [7, 8, 9, 31, 32, 33] (by decide +kernel) (by decide +kernel)
set_option maxRecDepth 20000 in
theorem gX5_root_X5_at : GoodIn wsX5_root (wsV RX5 47 RX5 yX5_at wsX5_at) := goodIn_app (goodIn_of _ (by decide +kernel)) ggX5_root_X5_at
set_option maxRecDepth 20000 in
theorem ggX5_root_J9_floorMod_7cf53 : GoodIn wsX5_root wsJ9_floorMod_7cf53 := goodIn_r _ [13] (by decide +kernel) (by decide +kernel)
set_option maxRecDepth 20000 in
theorem gX5_root_J9_floorMod_7cf53 : GoodIn wsX5_root (va_wsS RX5 64 yJ9_floorMod_7cf53 wsJ9_floorMod_7cf53) := goodIn_app (goodIn_of _ (by decide +kernel)) ggX5_root_J9_floorMod_7cf53
set_option maxRecDepth 20000 in
theorem ggX5_root_X3_leastRoot : GoodIn wsX5_root wsX3_leastRoot := goodIn_r _ [18, 19, 20, 21, 22, 23, 24, 25, 26, 27, 28, 29, 30, 46, 47, 48, 49, 50] (by decide +kernel) (by decide +kernel)
set_option maxRecDepth 20000 in
theorem gX5_root_X3_leastRoot : GoodIn wsX5_root (wsV RX5 96 RX3 yX3_leastRoot wsX3_leastRoot) := goodIn_app (goodIn_of _ (by decide +kernel)) ggX5_root_X3_leastRoot
theorem dX5_root_15 : decode cX5_root 15 = .ok (.aload_n 0, 1) := by decide +kernel
theorem dX5_root_16 : decode cX5_root 16 = .ok (.getfield 22, 3) := by decide +kernel
theorem dX5_root_19 : decode cX5_root 19 = .ok (.iload_n 2, 1) := by decide +kernel
theorem dX5_root_20 : decode cX5_root 20 = .ok (.aload_n 3, 1) := by decide +kernel
theorem dX5_root_21 : decode cX5_root 21 = .ok (.getfield 51, 3) := by decide +kernel
theorem dX5_root_24 : decode cX5_root 24 = .ok (.invokestatic 64, 3) := by decide +kernel
theorem dX5_root_27 : decode cX5_root 27 = .ok (.aload_n 3, 1) := by decide +kernel
theorem dX5_root_28 : decode cX5_root 28 = .ok (.getfield 51, 3) := by decide +kernel
theorem dX5_root_31 : decode cX5_root 31 = .ok (.invokevirtual 96, 3) := by decide +kernel
set_option maxRecDepth 20000 in
theorem ggX5_inverse_X5_at : GoodIn wsX5_inverse wsX5_at := goodIn_r _ [6, 7, 8, 29, 30, 31] (by decide +kernel) (by decide +kernel)
set_option maxRecDepth 20000 in
theorem gX5_inverse_X5_at : GoodIn wsX5_inverse (wsV RX5 47 RX5 yX5_at wsX5_at) := goodIn_app (goodIn_of _ (by decide +kernel)) ggX5_inverse_X5_at
set_option maxRecDepth 20000 in
theorem ggX5_inverse_J9_floorMod_7cf53 : GoodIn wsX5_inverse wsJ9_floorMod_7cf53 := goodIn_r _ [12] (by decide +kernel) (by decide +kernel)
set_option maxRecDepth 20000 in
theorem gX5_inverse_J9_floorMod_7cf53 : GoodIn wsX5_inverse (va_wsS RX5 64 yJ9_floorMod_7cf53 wsJ9_floorMod_7cf53) := goodIn_app (goodIn_of _ (by decide +kernel)) ggX5_inverse_J9_floorMod_7cf53
set_option maxRecDepth 20000 in
theorem ggX5_inverse_X4_inverted : GoodIn wsX5_inverse wsX4_inverted := goodIn_r _ [16] (by decide +kernel) (by decide +kernel)
set_option maxRecDepth 20000 in
theorem gX5_inverse_X4_inverted : GoodIn wsX5_inverse (va_wsS RX5 99 yX4_inverted wsX4_inverted) := goodIn_app (goodIn_of _ (by decide +kernel)) ggX5_inverse_X4_inverted
theorem dX5_inverse_13 : decode cX5_inverse 13 = .ok (.iload_n 2, 1) := by decide +kernel
theorem dX5_inverse_14 : decode cX5_inverse 14 = .ok (.aload_n 3, 1) := by decide +kernel
theorem dX5_inverse_15 : decode cX5_inverse 15 = .ok (.getfield 51, 3) := by decide +kernel
theorem dX5_inverse_18 : decode cX5_inverse 18 = .ok (.invokestatic 64, 3) := by decide +kernel
theorem dX5_inverse_21 : decode cX5_inverse 21 = .ok (.istore 4, 2) := by decide +kernel
theorem dX5_inverse_23 : decode cX5_inverse 23 = .ok (.iload 4, 2) := by decide +kernel
theorem dX5_inverse_25 : decode cX5_inverse 25 = .ok (.ifCond .ne 7, 3) := by decide +kernel
theorem dX5_inverse_28 : decode cX5_inverse 28 = .ok (.iconst (-1), 1) := by decide +kernel
theorem dX5_inverse_29 : decode cX5_inverse 29 = .ok (.goto 12, 3) := by decide +kernel
theorem dX5_inverse_32 : decode cX5_inverse 32 = .ok (.iload 4, 2) := by decide +kernel
theorem dX5_inverse_34 : decode cX5_inverse 34 = .ok (.aload_n 3, 1) := by decide +kernel
theorem dX5_inverse_35 : decode cX5_inverse 35 = .ok (.getfield 51, 3) := by decide +kernel
theorem dX5_inverse_38 : decode cX5_inverse 38 = .ok (.invokestatic 99, 3) := by decide +kernel
theorem dX5_inverse_41 : decode cX5_inverse 41 = .ok (.ireturn, 1) := by decide +kernel
set_option maxRecDepth 20000 in
theorem ggX5_power_X5_at : GoodIn wsX5_power wsX5_at := goodIn_r _ [6, 7, 8, 29, 30, 31] (by decide +kernel) (by decide +kernel)
set_option maxRecDepth 20000 in
theorem gX5_power_X5_at : GoodIn wsX5_power (wsV RX5 47 RX5 yX5_at wsX5_at) := goodIn_app (goodIn_of _ (by decide +kernel)) ggX5_power_X5_at
set_option maxRecDepth 20000 in
theorem ggX5_power_J9_floorMod_7cf53 : GoodIn wsX5_power wsJ9_floorMod_7cf53 := goodIn_r _ [12] (by decide +kernel) (by decide +kernel)
set_option maxRecDepth 20000 in
theorem gX5_power_J9_floorMod_7cf53 : GoodIn wsX5_power (va_wsS RX5 64 yJ9_floorMod_7cf53 wsJ9_floorMod_7cf53) := goodIn_app (goodIn_of _ (by decide +kernel)) ggX5_power_J9_floorMod_7cf53
set_option maxRecDepth 20000 in
theorem ggX5_power_X4_raised : GoodIn wsX5_power wsX4_raised := goodIn_r _ [16] (by decide +kernel) (by decide +kernel)
set_option maxRecDepth 20000 in
theorem gX5_power_X4_raised : GoodIn wsX5_power (va_wsS RX5 102 yX4_raised wsX4_raised) := goodIn_app (goodIn_of _ (by decide +kernel)) ggX5_power_X4_raised
theorem dX5_power_12 : decode cX5_power 12 = .ok (.lload_n 3, 1) := by decide +kernel
theorem dX5_power_13 : decode cX5_power 13 = .ok (.lconst 0, 1) := by decide +kernel
theorem dX5_power_14 : decode cX5_power 14 = .ok (.lcmp, 1) := by decide +kernel
theorem dX5_power_15 : decode cX5_power 15 = .ok (.ifCond .ge 6, 3) := by decide +kernel
theorem dX5_power_21 : decode cX5_power 21 = .ok (.iload_n 2, 1) := by decide +kernel
theorem dX5_power_22 : decode cX5_power 22 = .ok (.aload 5, 2) := by decide +kernel
theorem dX5_power_24 : decode cX5_power 24 = .ok (.getfield 51, 3) := by decide +kernel
theorem dX5_power_27 : decode cX5_power 27 = .ok (.invokestatic 64, 3) := by decide +kernel
theorem dX5_power_30 : decode cX5_power 30 = .ok (.lload_n 3, 1) := by decide +kernel
theorem dX5_power_31 : decode cX5_power 31 = .ok (.aload 5, 2) := by decide +kernel
theorem dX5_power_33 : decode cX5_power 33 = .ok (.getfield 51, 3) := by decide +kernel
theorem dX5_power_36 : decode cX5_power 36 = .ok (.invokestatic 102, 3) := by decide +kernel
theorem dX5_power_39 : decode cX5_power 39 = .ok (.ireturn, 1) := by decide +kernel
set_option maxRecDepth 20000 in
theorem ggX5_generator_X5_at : GoodIn wsX5_generator wsX5_at := goodIn_r _ [6, 7, 8, 37, 38, 39] (by decide +kernel) (by decide +kernel)
set_option maxRecDepth 20000 in
theorem gX5_generator_X5_at : GoodIn wsX5_generator (wsV RX5 47 RX5 yX5_at wsX5_at) := goodIn_app (goodIn_of _ (by decide +kernel)) ggX5_generator_X5_at
set_option maxRecDepth 20000 in
theorem ggX5_generator_X4_leastGenerator : GoodIn wsX5_generator wsX4_leastGenerator := goodIn_r _ [12, 13, 14, 11, 15, 16, 17, 18, 19, 20, 21, 22, 23, 24] (by decide +kernel) (by decide +kernel)
set_option maxRecDepth 20000 in
theorem gX5_generator_X4_leastGenerator : GoodIn wsX5_generator (va_wsS RX5 106 yX4_leastGenerator wsX4_leastGenerator) := goodIn_app (goodIn_of _ (by decide +kernel)) ggX5_generator_X4_leastGenerator
theorem dX5_generator_15 : decode cX5_generator 15 = .ok (.aload_n 2, 1) := by decide +kernel
theorem dX5_generator_16 : decode cX5_generator 16 = .ok (.getfield 51, 3) := by decide +kernel
theorem dX5_generator_19 : decode cX5_generator 19 = .ok (.invokestatic 106, 3) := by decide +kernel
set_option maxRecDepth 20000 in
theorem ggX5_point_X5_at : GoodIn wsX5_point wsX5_at := goodIn_r _ [6, 7, 8, 36, 37, 38] (by decide +kernel) (by decide +kernel)
set_option maxRecDepth 20000 in
theorem gX5_point_X5_at : GoodIn wsX5_point (wsV RX5 47 RX5 yX5_at wsX5_at) := goodIn_app (goodIn_of _ (by decide +kernel)) ggX5_point_X5_at
set_option maxRecDepth 20000 in
theorem ggX5_point_X4_isBelow : GoodIn wsX5_point wsX4_isBelow := goodIn_r _ [12] (by decide +kernel) (by decide +kernel)
set_option maxRecDepth 20000 in
theorem gX5_point_X4_isBelow : GoodIn wsX5_point (va_wsS RX5 32 yX4_isBelow wsX4_isBelow) := goodIn_app (goodIn_of _ (by decide +kernel)) ggX5_point_X4_isBelow
set_option maxRecDepth 20000 in
theorem ggX5_point_X0_cubic : GoodIn wsX5_point wsX0_cubic := goodIn_r _ [17, 18, 19, 20, 24, 25, 26, 27, 28, 29, 30, 31, 32, 33, 34, 35] (by decide +kernel) (by decide +kernel)
set_option maxRecDepth 20000 in
theorem gX5_point_X0_cubic : GoodIn wsX5_point (wsV RX5 109 RX0 yX0_cubic wsX0_cubic) := goodIn_app (goodIn_of _ (by decide +kernel)) ggX5_point_X0_cubic
set_option maxRecDepth 20000 in
theorem ggX5_point_X5_pair : GoodIn wsX5_point wsX5_pair := goodIn_r _ [23] (by decide +kernel) (by decide +kernel)
set_option maxRecDepth 20000 in
theorem gX5_point_X5_pair : GoodIn wsX5_point (va_wsS RX5 93 yX5_pair wsX5_pair) := goodIn_app (goodIn_of _ (by decide +kernel)) ggX5_point_X5_pair
theorem dX5_point_12 : decode cX5_point 12 = .ok (.iload_n 2, 1) := by decide +kernel
theorem dX5_point_13 : decode cX5_point 13 = .ok (.aload 4, 2) := by decide +kernel
theorem dX5_point_15 : decode cX5_point 15 = .ok (.getfield 51, 3) := by decide +kernel
theorem dX5_point_18 : decode cX5_point 18 = .ok (.invokestatic 32, 3) := by decide +kernel
theorem dX5_point_21 : decode cX5_point 21 = .ok (.ifCond .eq 15, 3) := by decide +kernel
theorem dX5_point_24 : decode cX5_point 24 = .ok (.iload_n 3, 1) := by decide +kernel
theorem dX5_point_25 : decode cX5_point 25 = .ok (.aload 4, 2) := by decide +kernel
theorem dX5_point_27 : decode cX5_point 27 = .ok (.getfield 51, 3) := by decide +kernel
theorem dX5_point_30 : decode cX5_point 30 = .ok (.invokestatic 32, 3) := by decide +kernel
theorem dX5_point_33 : decode cX5_point 33 = .ok (.ifCond .ne 6, 3) := by decide +kernel
theorem dX5_point_39 : decode cX5_point 39 = .ok (.iload_n 3, 1) := by decide +kernel
theorem dX5_point_40 : decode cX5_point 40 = .ok (.iload_n 3, 1) := by decide +kernel
theorem dX5_point_41 : decode cX5_point 41 = .ok (.imul, 1) := by decide +kernel
theorem dX5_point_42 : decode cX5_point 42 = .ok (.aload 4, 2) := by decide +kernel
theorem dX5_point_44 : decode cX5_point 44 = .ok (.getfield 51, 3) := by decide +kernel
theorem dX5_point_47 : decode cX5_point 47 = .ok (.irem, 1) := by decide +kernel
theorem dX5_point_48 : decode cX5_point 48 = .ok (.aload 4, 2) := by decide +kernel
theorem dX5_point_50 : decode cX5_point 50 = .ok (.iload_n 2, 1) := by decide +kernel
theorem dX5_point_51 : decode cX5_point 51 = .ok (.invokevirtual 109, 3) := by decide +kernel
theorem dX5_point_54 : decode cX5_point 54 = .ok (.if_icmp .ne 11, 3) := by decide +kernel
theorem dX5_point_57 : decode cX5_point 57 = .ok (.iload_n 2, 1) := by decide +kernel
theorem dX5_point_58 : decode cX5_point 58 = .ok (.iload_n 3, 1) := by decide +kernel
theorem dX5_point_59 : decode cX5_point 59 = .ok (.invokestatic 93, 3) := by decide +kernel
theorem dX5_point_62 : decode cX5_point 62 = .ok (.goto 4, 3) := by decide +kernel
theorem dX5_point_65 : decode cX5_point 65 = .ok (.iconst (-1), 1) := by decide +kernel
theorem dX5_point_66 : decode cX5_point 66 = .ok (.ireturn, 1) := by decide +kernel
set_option maxRecDepth 20000 in
theorem ggX5_lift_X5_at : GoodIn wsX5_lift wsX5_at := goodIn_r _ [7, 8, 9, 63, 64, 65] (by decide +kernel) (by decide +kernel)
set_option maxRecDepth 20000 in
theorem gX5_lift_X5_at : GoodIn wsX5_lift (wsV RX5 47 RX5 yX5_at wsX5_at) := goodIn_app (goodIn_of _ (by decide +kernel)) ggX5_lift_X5_at
set_option maxRecDepth 20000 in
theorem ggX5_lift_X4_isBelow : GoodIn wsX5_lift wsX4_isBelow := goodIn_r _ [13] (by decide +kernel) (by decide +kernel)
set_option maxRecDepth 20000 in
theorem gX5_lift_X4_isBelow : GoodIn wsX5_lift (va_wsS RX5 32 yX4_isBelow wsX4_isBelow) := goodIn_app (goodIn_of _ (by decide +kernel)) ggX5_lift_X4_isBelow
set_option maxRecDepth 20000 in
theorem ggX5_lift_X3_lesserAt : GoodIn wsX5_lift wsX3_lesserAt := goodIn_r _ [18, 19, 20, 21, 22, 23, 24, 25, 26, 27, 28, 29, 30, 31, 32, 33, 34, 35, 36, 37, 38, 39, 40, 6, 41, 66, 67, 68, 51, 52, 53, 54, 55, 56, 57, 58, 59, 60, 61, 62, 69, 70] (by decide +kernel) (by decide +kernel)
set_option maxRecDepth 20000 in
theorem gX5_lift_X3_lesserAt : GoodIn wsX5_lift (wsV RX5 112 RX3 yX3_lesserAt wsX3_lesserAt) := goodIn_app (goodIn_of _ (by decide +kernel)) ggX5_lift_X3_lesserAt
set_option maxRecDepth 20000 in
theorem ggX5_lift_X5_yOf : GoodIn wsX5_lift wsX5_yOf := goodIn_r _ [44] (by decide +kernel) (by decide +kernel)
set_option maxRecDepth 20000 in
theorem gX5_lift_X5_yOf : GoodIn wsX5_lift (va_wsS RX5 90 yX5_yOf wsX5_yOf) := goodIn_app (goodIn_of _ (by decide +kernel)) ggX5_lift_X5_yOf
set_option maxRecDepth 20000 in
theorem ggX5_lift_X0_opposite : GoodIn wsX5_lift wsX0_opposite := goodIn_r _ [48, 27, 43, 6, 44, 49, 50, 40, 41, 51, 52, 53, 54, 55, 56, 57, 58, 59, 60, 61, 62] (by decide +kernel) (by decide +kernel)
set_option maxRecDepth 20000 in
theorem gX5_lift_X0_opposite : GoodIn wsX5_lift (wsV RX5 116 RX0 yX0_opposite wsX0_opposite) := goodIn_app (goodIn_of _ (by decide +kernel)) ggX5_lift_X0_opposite
theorem dX5_lift_12 : decode cX5_lift 12 = .ok (.iload_n 2, 1) := by decide +kernel
theorem dX5_lift_13 : decode cX5_lift 13 = .ok (.aload 4, 2) := by decide +kernel
theorem dX5_lift_15 : decode cX5_lift 15 = .ok (.getfield 51, 3) := by decide +kernel
theorem dX5_lift_18 : decode cX5_lift 18 = .ok (.invokestatic 32, 3) := by decide +kernel
theorem dX5_lift_21 : decode cX5_lift 21 = .ok (.ifCond .ne 6, 3) := by decide +kernel
theorem dX5_lift_27 : decode cX5_lift 27 = .ok (.aload_n 0, 1) := by decide +kernel
theorem dX5_lift_28 : decode cX5_lift 28 = .ok (.getfield 22, 3) := by decide +kernel
theorem dX5_lift_31 : decode cX5_lift 31 = .ok (.aload 4, 2) := by decide +kernel
theorem dX5_lift_33 : decode cX5_lift 33 = .ok (.iload_n 2, 1) := by decide +kernel
theorem dX5_lift_34 : decode cX5_lift 34 = .ok (.invokevirtual 112, 3) := by decide +kernel
theorem dX5_lift_37 : decode cX5_lift 37 = .ok (.istore 5, 2) := by decide +kernel
theorem dX5_lift_39 : decode cX5_lift 39 = .ok (.iload 5, 2) := by decide +kernel
theorem dX5_lift_41 : decode cX5_lift 41 = .ok (.iconst (-1), 1) := by decide +kernel
theorem dX5_lift_42 : decode cX5_lift 42 = .ok (.if_icmp .eq 15, 3) := by decide +kernel
theorem dX5_lift_45 : decode cX5_lift 45 = .ok (.iload 5, 2) := by decide +kernel
theorem dX5_lift_47 : decode cX5_lift 47 = .ok (.invokestatic 90, 3) := by decide +kernel
theorem dX5_lift_50 : decode cX5_lift 50 = .ok (.ifCond .ne 9, 3) := by decide +kernel
theorem dX5_lift_53 : decode cX5_lift 53 = .ok (.iload_n 3, 1) := by decide +kernel
theorem dX5_lift_54 : decode cX5_lift 54 = .ok (.ifCond .eq 5, 3) := by decide +kernel
theorem dX5_lift_57 : decode cX5_lift 57 = .ok (.iconst (-1), 1) := by decide +kernel
theorem dX5_lift_58 : decode cX5_lift 58 = .ok (.ireturn, 1) := by decide +kernel
theorem dX5_lift_59 : decode cX5_lift 59 = .ok (.iload 5, 2) := by decide +kernel
theorem dX5_lift_61 : decode cX5_lift 61 = .ok (.invokestatic 90, 3) := by decide +kernel
theorem dX5_lift_64 : decode cX5_lift 64 = .ok (.iconst 2, 1) := by decide +kernel
theorem dX5_lift_65 : decode cX5_lift 65 = .ok (.irem, 1) := by decide +kernel
theorem dX5_lift_66 : decode cX5_lift 66 = .ok (.iconst 1, 1) := by decide +kernel
theorem dX5_lift_67 : decode cX5_lift 67 = .ok (.if_icmp .ne 7, 3) := by decide +kernel
theorem dX5_lift_70 : decode cX5_lift 70 = .ok (.iconst 1, 1) := by decide +kernel
theorem dX5_lift_71 : decode cX5_lift 71 = .ok (.goto 4, 3) := by decide +kernel
theorem dX5_lift_74 : decode cX5_lift 74 = .ok (.iconst 0, 1) := by decide +kernel
theorem dX5_lift_75 : decode cX5_lift 75 = .ok (.iload_n 3, 1) := by decide +kernel
theorem dX5_lift_76 : decode cX5_lift 76 = .ok (.if_icmp .ne 8, 3) := by decide +kernel
theorem dX5_lift_79 : decode cX5_lift 79 = .ok (.iload 5, 2) := by decide +kernel
theorem dX5_lift_81 : decode cX5_lift 81 = .ok (.goto 10, 3) := by decide +kernel
theorem dX5_lift_84 : decode cX5_lift 84 = .ok (.aload 4, 2) := by decide +kernel
theorem dX5_lift_86 : decode cX5_lift 86 = .ok (.iload 5, 2) := by decide +kernel
theorem dX5_lift_88 : decode cX5_lift 88 = .ok (.invokevirtual 116, 3) := by decide +kernel
theorem dX5_lift_91 : decode cX5_lift 91 = .ok (.ireturn, 1) := by decide +kernel
set_option maxRecDepth 20000 in
theorem ggX5_near_X5_at : GoodIn wsX5_near wsX5_at := goodIn_r _ [7, 8, 9, 54, 55, 56] (by decide +kernel) (by decide +kernel)
set_option maxRecDepth 20000 in
theorem gX5_near_X5_at : GoodIn wsX5_near (wsV RX5 47 RX5 yX5_at wsX5_at) := goodIn_app (goodIn_of _ (by decide +kernel)) ggX5_near_X5_at
set_option maxRecDepth 20000 in
theorem ggX5_near_J9_floorMod_7cf53 : GoodIn wsX5_near wsJ9_floorMod_7cf53 := goodIn_r _ [13] (by decide +kernel) (by decide +kernel)
