theorem goodIn_ca {big a b : List Cond} {c : Cond} (ha : GoodIn big (c :: a)) (hb : GoodIn big b) : GoodIn big (c :: (a ++ b)) := fun w h => (List.mem_cons.mp h).elim (fun e => ha w (List.mem_cons.mpr (Or.inl e))) (fun h => (List.mem_append.mp h).elim (fun h => ha w (List.mem_cons.mpr (Or.inr h))) (hb w))
def RL : String := "PointRingsLaw"
abbrev cL_law : ByteArray := code
set_option maxRecDepth 20000 in
theorem gW_wsX5_curve : GoodIn lw_tbl wsX5_curve := goodIn_p _ [130, 133, 136, 139, 142, 145, 149, 56, 209] rfl (by decide +kernel)
set_option maxRecDepth 20000 in
theorem gL1_X5_curve : GoodIn lw_tbl (wsV R_law 13 RX5 yX5_curve wsX5_curve) := goodIn_app (goodIn_of _ (by decide +kernel)) gW_wsX5_curve
set_option maxRecDepth 20000 in
theorem gW_wsX6_curve : GoodIn lw_tbl wsX6_curve := goodIn_p _ [692, 695, 700, 703, 707, 711, 715, 720, 725, 729] rfl (by decide +kernel)
set_option maxRecDepth 20000 in
theorem gL1_X6_curve : GoodIn lw_tbl (wsV R_law 17 RX6 yX6_curve wsX6_curve) := goodIn_app (goodIn_of _ (by decide +kernel)) gW_wsX6_curve
set_option maxRecDepth 20000 in
theorem gW_wsX5_at : GoodIn lw_tbl wsX5_at := goodIn_p _ [217] rfl (by decide +kernel)
set_option maxRecDepth 20000 in
theorem gV_3 : GoodIn lw_tbl (wsV RX5 56 RX5 yX5_at wsX5_at) := goodIn_app (goodIn_of _ (by decide +kernel)) gW_wsX5_at
set_option maxRecDepth 20000 in
theorem gW_wsX5_told_n : GoodIn lw_tbl wsX5_told_n := goodIn_ca (show GoodIn lw_tbl (.code yX5_told cX5_told 4 (some .int) :: ([] : List Cond)) from goodIn_p _ [213] rfl (by decide +kernel)) (gV_3)
set_option maxRecDepth 20000 in
theorem gL1_X5_told_n : GoodIn lw_tbl (wsV R_law 18 RX5 yX5_told wsX5_told_n) := goodIn_app (goodIn_of _ (by decide +kernel)) gW_wsX5_told_n
set_option maxRecDepth 20000 in
theorem gU_wsX60 : GoodIn lw_tbl wsX60 := goodIn_of _ (by decide +kernel)
set_option maxRecDepth 20000 in
theorem gW_wsX6_in : GoodIn lw_tbl wsX6_in := goodIn_p _ [700] rfl (by decide +kernel)
set_option maxRecDepth 20000 in
theorem gV_7 : GoodIn lw_tbl (va_wsS RX6 100 yX6_in wsX6_in) := goodIn_app (goodIn_of _ (by decide +kernel)) gW_wsX6_in
set_option maxRecDepth 20000 in
theorem gW_wsX6_has_n : GoodIn lw_tbl wsX6_has_n := goodIn_ca (show GoodIn lw_tbl (.code yX6_has cX6_has 2 (some .boolean) :: ([.fieldLink RX6 112 "PointRingsModel" "curves" "I"] : List Cond)) from goodIn_p _ [737] rfl (by decide +kernel)) (goodIn_app gU_wsX60 (gV_7))
set_option maxRecDepth 20000 in
theorem gV_9 : GoodIn lw_tbl (wsV RX6 132 RX6 yX6_has wsX6_has_n) := goodIn_app (goodIn_of _ (by decide +kernel)) gW_wsX6_has_n
set_option maxRecDepth 20000 in
theorem gW_wsX6_told_n : GoodIn lw_tbl wsX6_told_n := goodIn_ca (show GoodIn lw_tbl (.code yX6_told cX6_told 5 (some .int) :: ([] : List Cond)) from goodIn_p _ [733] rfl (by decide +kernel)) (gV_9)
set_option maxRecDepth 20000 in
theorem gL1_X6_told_n : GoodIn lw_tbl (wsV R_law 22 RX6 yX6_told wsX6_told_n) := goodIn_app (goodIn_of _ (by decide +kernel)) gW_wsX6_told_n
set_option maxRecDepth 20000 in
theorem gW_wsX5_twist_n : GoodIn lw_tbl wsX5_twist_n := goodIn_ca (show GoodIn lw_tbl (.code yX5_twist cX5_twist 3 (some .int) :: ([] : List Cond)) from goodIn_p _ [245] rfl (by decide +kernel)) (gV_3)
set_option maxRecDepth 20000 in
theorem gL1_X5_twist_n : GoodIn lw_tbl (wsV R_law 23 RX5 yX5_twist wsX5_twist_n) := goodIn_app (goodIn_of _ (by decide +kernel)) gW_wsX5_twist_n
set_option maxRecDepth 20000 in
theorem gW_wsX6_twist_n : GoodIn lw_tbl wsX6_twist_n := goodIn_ca (show GoodIn lw_tbl (.code yX6_twist cX6_twist 2 (some .int) :: ([] : List Cond)) from goodIn_p _ [756] rfl (by decide +kernel)) (gV_9)
set_option maxRecDepth 20000 in
theorem gL1_X6_twist_n : GoodIn lw_tbl (wsV R_law 27 RX6 yX6_twist wsX6_twist_n) := goodIn_app (goodIn_of _ (by decide +kernel)) gW_wsX6_twist_n
set_option maxRecDepth 20000 in
theorem gW_wsX5_map_n : GoodIn lw_tbl wsX5_map_n := goodIn_ca (show GoodIn lw_tbl (.code yX5_map cX5_map 5 (some .int) :: ([] : List Cond)) from goodIn_p _ [256] rfl (by decide +kernel)) (gV_3)
set_option maxRecDepth 20000 in
theorem gL1_X5_map_n : GoodIn lw_tbl (wsV R_law 28 RX5 yX5_map wsX5_map_n) := goodIn_app (goodIn_of _ (by decide +kernel)) gW_wsX5_map_n
set_option maxRecDepth 20000 in
theorem gW_wsX6_map_n : GoodIn lw_tbl wsX6_map_n := goodIn_ca (show GoodIn lw_tbl (.code yX6_map cX6_map 4 (some .int) :: ([] : List Cond)) from goodIn_p _ [764] rfl (by decide +kernel)) (gV_9)
set_option maxRecDepth 20000 in
theorem gL1_X6_map_n : GoodIn lw_tbl (wsV R_law 31 RX6 yX6_map wsX6_map_n) := goodIn_app (goodIn_of _ (by decide +kernel)) gW_wsX6_map_n
set_option maxRecDepth 20000 in
theorem gW_wsX5_mapped_n : GoodIn lw_tbl wsX5_mapped_n := goodIn_ca (show GoodIn lw_tbl (.code yX5_mapped cX5_mapped 7 (some .int) :: ([] : List Cond)) from goodIn_p _ [264] rfl (by decide +kernel)) (gV_3)
set_option maxRecDepth 20000 in
theorem gL1_X5_mapped_n : GoodIn lw_tbl (wsV R_law 32 RX5 yX5_mapped wsX5_mapped_n) := goodIn_app (goodIn_of _ (by decide +kernel)) gW_wsX5_mapped_n
set_option maxRecDepth 20000 in
theorem gW_wsX6_mapped_n : GoodIn lw_tbl wsX6_mapped_n := goodIn_ca (show GoodIn lw_tbl (.code yX6_mapped cX6_mapped 4 (some .int) :: ([] : List Cond)) from goodIn_p _ [768] rfl (by decide +kernel)) (gV_9)
set_option maxRecDepth 20000 in
theorem gL1_X6_mapped_n : GoodIn lw_tbl (wsV R_law 35 RX6 yX6_mapped wsX6_mapped_n) := goodIn_app (goodIn_of _ (by decide +kernel)) gW_wsX6_mapped_n
set_option maxRecDepth 20000 in
theorem gW_wsX5_root_n : GoodIn lw_tbl wsX5_root_n := goodIn_ca (show GoodIn lw_tbl (.code yX5_root cX5_root 4 (some .int) :: ([] : List Cond)) from goodIn_p _ [288] rfl (by decide +kernel)) (gV_3)
set_option maxRecDepth 20000 in
theorem gL1_X5_root_n : GoodIn lw_tbl (wsV R_law 36 RX5 yX5_root wsX5_root_n) := goodIn_app (goodIn_of _ (by decide +kernel)) gW_wsX5_root_n
set_option maxRecDepth 20000 in
theorem gW_wsX6_root_n : GoodIn lw_tbl wsX6_root_n := goodIn_ca (show GoodIn lw_tbl (.code yX6_root cX6_root 3 (some .int) :: ([] : List Cond)) from goodIn_p _ [780] rfl (by decide +kernel)) (gV_9)
set_option maxRecDepth 20000 in
theorem gL1_X6_root_n : GoodIn lw_tbl (wsV R_law 39 RX6 yX6_root wsX6_root_n) := goodIn_app (goodIn_of _ (by decide +kernel)) gW_wsX6_root_n
set_option maxRecDepth 20000 in
theorem gW_wsX5_inverse_n : GoodIn lw_tbl wsX5_inverse_n := goodIn_ca (show GoodIn lw_tbl (.code yX5_inverse cX5_inverse 5 (some .int) :: ([] : List Cond)) from goodIn_p _ [300] rfl (by decide +kernel)) (gV_3)
set_option maxRecDepth 20000 in
theorem gL1_X5_inverse_n : GoodIn lw_tbl (wsV R_law 40 RX5 yX5_inverse wsX5_inverse_n) := goodIn_app (goodIn_of _ (by decide +kernel)) gW_wsX5_inverse_n
set_option maxRecDepth 20000 in
theorem gW_wsX6_inverse_n : GoodIn lw_tbl wsX6_inverse_n := goodIn_ca (show GoodIn lw_tbl (.code yX6_inverse cX6_inverse 3 (some .int) :: ([] : List Cond)) from goodIn_p _ [784] rfl (by decide +kernel)) (gV_9)
set_option maxRecDepth 20000 in
theorem gL1_X6_inverse_n : GoodIn lw_tbl (wsV R_law 43 RX6 yX6_inverse wsX6_inverse_n) := goodIn_app (goodIn_of _ (by decide +kernel)) gW_wsX6_inverse_n
set_option maxRecDepth 20000 in
theorem gW_wsX5_power_n : GoodIn lw_tbl wsX5_power_n := goodIn_ca (show GoodIn lw_tbl (.code yX5_power cX5_power 6 (some .int) :: ([] : List Cond)) from goodIn_p _ [305] rfl (by decide +kernel)) (gV_3)
set_option maxRecDepth 20000 in
theorem gL1_X5_power_n : GoodIn lw_tbl (wsV R_law 46 RX5 yX5_power wsX5_power_n) := goodIn_app (goodIn_of _ (by decide +kernel)) gW_wsX5_power_n
set_option maxRecDepth 20000 in
theorem gW_wsX6_power_n : GoodIn lw_tbl wsX6_power_n := goodIn_ca (show GoodIn lw_tbl (.code yX6_power cX6_power 5 (some .int) :: ([] : List Cond)) from goodIn_p _ [788] rfl (by decide +kernel)) (gV_9)
set_option maxRecDepth 20000 in
theorem gL1_X6_power_n : GoodIn lw_tbl (wsV R_law 50 RX6 yX6_power wsX6_power_n) := goodIn_app (goodIn_of _ (by decide +kernel)) gW_wsX6_power_n
set_option maxRecDepth 20000 in
theorem gW_wsX5_generator_n : GoodIn lw_tbl wsX5_generator_n := goodIn_ca (show GoodIn lw_tbl (.code yX5_generator cX5_generator 3 (some .int) :: ([] : List Cond)) from goodIn_p _ [310] rfl (by decide +kernel)) (gV_3)
set_option maxRecDepth 20000 in
theorem gL1_X5_generator_n : GoodIn lw_tbl (wsV R_law 51 RX5 yX5_generator wsX5_generator_n) := goodIn_app (goodIn_of _ (by decide +kernel)) gW_wsX5_generator_n
set_option maxRecDepth 20000 in
theorem gW_wsX6_generator_n : GoodIn lw_tbl wsX6_generator_n := goodIn_ca (show GoodIn lw_tbl (.code yX6_generator cX6_generator 5 (some .int) :: ([] : List Cond)) from goodIn_p _ [792] rfl (by decide +kernel)) (gV_9)
set_option maxRecDepth 20000 in
theorem gL1_X6_generator_n : GoodIn lw_tbl (wsV R_law 54 RX6 yX6_generator wsX6_generator_n) := goodIn_app (goodIn_of _ (by decide +kernel)) gW_wsX6_generator_n
set_option maxRecDepth 20000 in
theorem gW_wsX5_point_n : GoodIn lw_tbl wsX5_point_n := goodIn_ca (show GoodIn lw_tbl (.code yX5_point cX5_point 5 (some .int) :: ([] : List Cond)) from goodIn_p _ [323] rfl (by decide +kernel)) (gV_3)
set_option maxRecDepth 20000 in
theorem gL1_X5_point_n : GoodIn lw_tbl (wsV R_law 55 RX5 yX5_point wsX5_point_n) := goodIn_app (goodIn_of _ (by decide +kernel)) gW_wsX5_point_n
set_option maxRecDepth 20000 in
theorem gW_wsX6_point_n : GoodIn lw_tbl wsX6_point_n := goodIn_ca (show GoodIn lw_tbl (.code yX6_point cX6_point 4 (some .int) :: ([] : List Cond)) from goodIn_p _ [796] rfl (by decide +kernel)) (gV_9)
set_option maxRecDepth 20000 in
theorem gL1_X6_point_n : GoodIn lw_tbl (wsV R_law 58 RX6 yX6_point wsX6_point_n) := goodIn_app (goodIn_of _ (by decide +kernel)) gW_wsX6_point_n
set_option maxRecDepth 20000 in
theorem gW_wsX5_lift_n : GoodIn lw_tbl wsX5_lift_n := goodIn_ca (show GoodIn lw_tbl (.code yX5_lift cX5_lift 6 (some .int) :: ([] : List Cond)) from goodIn_p _ [328] rfl (by decide +kernel)) (gV_3)
set_option maxRecDepth 20000 in
theorem gL1_X5_lift_n : GoodIn lw_tbl (wsV R_law 59 RX5 yX5_lift wsX5_lift_n) := goodIn_app (goodIn_of _ (by decide +kernel)) gW_wsX5_lift_n
set_option maxRecDepth 20000 in
theorem gW_wsX6_lift_n : GoodIn lw_tbl wsX6_lift_n := goodIn_ca (show GoodIn lw_tbl (.code yX6_lift cX6_lift 6 (some .int) :: ([] : List Cond)) from goodIn_p _ [800] rfl (by decide +kernel)) (gV_9)
set_option maxRecDepth 20000 in
theorem gL1_X6_lift_n : GoodIn lw_tbl (wsV R_law 63 RX6 yX6_lift wsX6_lift_n) := goodIn_app (goodIn_of _ (by decide +kernel)) gW_wsX6_lift_n
set_option maxRecDepth 20000 in
theorem gW_wsX5_near_n : GoodIn lw_tbl wsX5_near_n := goodIn_ca (show GoodIn lw_tbl (.code yX5_near cX5_near 7 (some .int) :: ([] : List Cond)) from goodIn_p _ [332] rfl (by decide +kernel)) (gV_3)
set_option maxRecDepth 20000 in
theorem gL1_X5_near_n : GoodIn lw_tbl (wsV R_law 64 RX5 yX5_near wsX5_near_n) := goodIn_app (goodIn_of _ (by decide +kernel)) gW_wsX5_near_n
set_option maxRecDepth 20000 in
theorem gW_wsX6_near_n : GoodIn lw_tbl wsX6_near_n := goodIn_ca (show GoodIn lw_tbl (.code yX6_near cX6_near 5 (some .int) :: ([] : List Cond)) from goodIn_p _ [804] rfl (by decide +kernel)) (gV_9)
set_option maxRecDepth 20000 in
theorem gL1_X6_near_n : GoodIn lw_tbl (wsV R_law 67 RX6 yX6_near wsX6_near_n) := goodIn_app (goodIn_of _ (by decide +kernel)) gW_wsX6_near_n
set_option maxRecDepth 20000 in
theorem gW_wsX5_nth_n : GoodIn lw_tbl wsX5_nth_n := goodIn_ca (show GoodIn lw_tbl (.code yX5_nth cX5_nth 4 (some .int) :: ([] : List Cond)) from goodIn_p _ [343] rfl (by decide +kernel)) (gV_3)
set_option maxRecDepth 20000 in
theorem gL1_X5_nth_n : GoodIn lw_tbl (wsV R_law 68 RX5 yX5_nth wsX5_nth_n) := goodIn_app (goodIn_of _ (by decide +kernel)) gW_wsX5_nth_n
set_option maxRecDepth 20000 in
theorem gW_wsX6_nth_n : GoodIn lw_tbl wsX6_nth_n := goodIn_ca (show GoodIn lw_tbl (.code yX6_nth cX6_nth 3 (some .int) :: ([] : List Cond)) from goodIn_p _ [808] rfl (by decide +kernel)) (gV_9)
set_option maxRecDepth 20000 in
theorem gL1_X6_nth_n : GoodIn lw_tbl (wsV R_law 71 RX6 yX6_nth wsX6_nth_n) := goodIn_app (goodIn_of _ (by decide +kernel)) gW_wsX6_nth_n
set_option maxRecDepth 20000 in
theorem gW_wsX5_rank_n : GoodIn lw_tbl wsX5_rank_n := goodIn_ca (show GoodIn lw_tbl (.code yX5_rank cX5_rank 4 (some .int) :: ([] : List Cond)) from goodIn_p _ [361] rfl (by decide +kernel)) (gV_3)
set_option maxRecDepth 20000 in
theorem gL1_X5_rank_n : GoodIn lw_tbl (wsV R_law 72 RX5 yX5_rank wsX5_rank_n) := goodIn_app (goodIn_of _ (by decide +kernel)) gW_wsX5_rank_n
set_option maxRecDepth 20000 in
theorem gW_wsX6_rank_n : GoodIn lw_tbl wsX6_rank_n := goodIn_ca (show GoodIn lw_tbl (.code yX6_rank cX6_rank 4 (some .int) :: ([] : List Cond)) from goodIn_p _ [816] rfl (by decide +kernel)) (gV_9)
set_option maxRecDepth 20000 in
theorem gL1_X6_rank_n : GoodIn lw_tbl (wsV R_law 75 RX6 yX6_rank wsX6_rank_n) := goodIn_app (goodIn_of _ (by decide +kernel)) gW_wsX6_rank_n
set_option maxRecDepth 20000 in
theorem gW_wsX5_add_n : GoodIn lw_tbl wsX5_add_n := goodIn_ca (show GoodIn lw_tbl (.code yX5_add cX5_add 5 (some .int) :: ([] : List Cond)) from goodIn_p _ [370] rfl (by decide +kernel)) (gV_3)
set_option maxRecDepth 20000 in
theorem gL1_X5_add_n : GoodIn lw_tbl (wsV R_law 76 RX5 yX5_add wsX5_add_n) := goodIn_app (goodIn_of _ (by decide +kernel)) gW_wsX5_add_n
set_option maxRecDepth 20000 in
theorem gW_wsX6_add_n : GoodIn lw_tbl wsX6_add_n := goodIn_ca (show GoodIn lw_tbl (.code yX6_add cX6_add 4 (some .int) :: ([] : List Cond)) from goodIn_p _ [820] rfl (by decide +kernel)) (gV_9)
set_option maxRecDepth 20000 in
theorem gL1_X6_add_n : GoodIn lw_tbl (wsV R_law 79 RX6 yX6_add wsX6_add_n) := goodIn_app (goodIn_of _ (by decide +kernel)) gW_wsX6_add_n
set_option maxRecDepth 20000 in
theorem gW_wsX5_negative_n : GoodIn lw_tbl wsX5_negative_n := goodIn_ca (show GoodIn lw_tbl (.code yX5_negative cX5_negative 4 (some .int) :: ([] : List Cond)) from goodIn_p _ [378] rfl (by decide +kernel)) (gV_3)
set_option maxRecDepth 20000 in
theorem gL1_X5_negative_n : GoodIn lw_tbl (wsV R_law 80 RX5 yX5_negative wsX5_negative_n) := goodIn_app (goodIn_of _ (by decide +kernel)) gW_wsX5_negative_n
set_option maxRecDepth 20000 in
theorem gW_wsX6_negative_n : GoodIn lw_tbl wsX6_negative_n := goodIn_ca (show GoodIn lw_tbl (.code yX6_negative cX6_negative 3 (some .int) :: ([] : List Cond)) from goodIn_p _ [830] rfl (by decide +kernel)) (gV_9)
set_option maxRecDepth 20000 in
theorem gL1_X6_negative_n : GoodIn lw_tbl (wsV R_law 83 RX6 yX6_negative wsX6_negative_n) := goodIn_app (goodIn_of _ (by decide +kernel)) gW_wsX6_negative_n
set_option maxRecDepth 20000 in
theorem gW_wsX5_times_n : GoodIn lw_tbl wsX5_times_n := goodIn_ca (show GoodIn lw_tbl (.code yX5_times cX5_times 6 (some .int) :: ([] : List Cond)) from goodIn_p _ [383] rfl (by decide +kernel)) (gV_3)
set_option maxRecDepth 20000 in
theorem gL1_X5_times_n : GoodIn lw_tbl (wsV R_law 84 RX5 yX5_times wsX5_times_n) := goodIn_app (goodIn_of _ (by decide +kernel)) gW_wsX5_times_n
set_option maxRecDepth 20000 in
theorem gW_wsX6_times_n : GoodIn lw_tbl wsX6_times_n := goodIn_ca (show GoodIn lw_tbl (.code yX6_times cX6_times 5 (some .int) :: ([] : List Cond)) from goodIn_p _ [838] rfl (by decide +kernel)) (gV_9)
set_option maxRecDepth 20000 in
theorem gL1_X6_times_n : GoodIn lw_tbl (wsV R_law 87 RX6 yX6_times wsX6_times_n) := goodIn_app (goodIn_of _ (by decide +kernel)) gW_wsX6_times_n
set_option maxRecDepth 20000 in
theorem gW_wsX5_alone_n : GoodIn lw_tbl wsX5_alone_n := goodIn_ca (show GoodIn lw_tbl (.code yX5_alone cX5_alone 10 (some .int) :: ([] : List Cond)) from goodIn_p _ [393] rfl (by decide +kernel)) (gV_3)
set_option maxRecDepth 20000 in
theorem gL1_X5_alone_n : GoodIn lw_tbl (wsV R_law 88 RX5 yX5_alone wsX5_alone_n) := goodIn_app (goodIn_of _ (by decide +kernel)) gW_wsX5_alone_n
set_option maxRecDepth 20000 in
theorem gW_wsX6_alone_n : GoodIn lw_tbl wsX6_alone_n := goodIn_ca (show GoodIn lw_tbl (.code yX6_alone cX6_alone 8 (some .int) :: ([] : List Cond)) from goodIn_p _ [846] rfl (by decide +kernel)) (gV_9)
set_option maxRecDepth 20000 in
theorem gL1_X6_alone_n : GoodIn lw_tbl (wsV R_law 91 RX6 yX6_alone wsX6_alone_n) := goodIn_app (goodIn_of _ (by decide +kernel)) gW_wsX6_alone_n
set_option maxRecDepth 20000 in
theorem gW_wsX5_count_n : GoodIn lw_tbl wsX5_count_n := goodIn_ca (show GoodIn lw_tbl (.code yX5_count cX5_count 3 (some .int) :: ([] : List Cond)) from goodIn_p _ [397] rfl (by decide +kernel)) (gV_3)
set_option maxRecDepth 20000 in
theorem gL1_X5_count_n : GoodIn lw_tbl (wsV R_law 92 RX5 yX5_count wsX5_count_n) := goodIn_app (goodIn_of _ (by decide +kernel)) gW_wsX5_count_n
set_option maxRecDepth 20000 in
theorem gW_wsX6_count_n : GoodIn lw_tbl wsX6_count_n := goodIn_ca (show GoodIn lw_tbl (.code yX6_count cX6_count 2 (some .int) :: ([] : List Cond)) from goodIn_p _ [850] rfl (by decide +kernel)) (gV_9)
set_option maxRecDepth 20000 in
theorem gL1_X6_count_n : GoodIn lw_tbl (wsV R_law 95 RX6 yX6_count wsX6_count_n) := goodIn_app (goodIn_of _ (by decide +kernel)) gW_wsX6_count_n
set_option maxRecDepth 20000 in
theorem gW_wsX5_countOver_n : GoodIn lw_tbl wsX5_countOver_n := goodIn_ca (show GoodIn lw_tbl (.code yX5_countOver cX5_countOver 15 (some .long) :: ([.constantLong RX5 144 (-2)] : List Cond)) from goodIn_p _ [409] rfl (by decide +kernel)) (gV_3)
set_option maxRecDepth 20000 in
theorem gL1_X5_countOver_n : GoodIn lw_tbl (wsV R_law 96 RX5 yX5_countOver wsX5_countOver_n) := goodIn_app (goodIn_of _ (by decide +kernel)) gW_wsX5_countOver_n
set_option maxRecDepth 20000 in
theorem gW_wsX6_countOver_n : GoodIn lw_tbl wsX6_countOver_n := goodIn_ca (show GoodIn lw_tbl (.code yX6_countOver cX6_countOver 14 (some .long) :: ([.constantLong RX6 154 (-2)] : List Cond)) from goodIn_p _ [854] rfl (by decide +kernel)) (gV_9)
set_option maxRecDepth 20000 in
theorem gL1_X6_countOver_n : GoodIn lw_tbl (wsV R_law 100 RX6 yX6_countOver wsX6_countOver_n) := goodIn_app (goodIn_of _ (by decide +kernel)) gW_wsX6_countOver_n
set_option maxRecDepth 20000 in
theorem gW_wsX5_bound_n : GoodIn lw_tbl wsX5_bound_n := goodIn_ca (show GoodIn lw_tbl (.code yX5_bound cX5_bound 5 (some .int) :: ([] : List Cond)) from goodIn_p _ [415] rfl (by decide +kernel)) (gV_3)
set_option maxRecDepth 20000 in
theorem gL1_X5_bound_n : GoodIn lw_tbl (wsV R_law 101 RX5 yX5_bound wsX5_bound_n) := goodIn_app (goodIn_of _ (by decide +kernel)) gW_wsX5_bound_n
set_option maxRecDepth 20000 in
theorem gW_wsX6_bound_n : GoodIn lw_tbl wsX6_bound_n := goodIn_ca (show GoodIn lw_tbl (.code yX6_bound cX6_bound 3 (some .int) :: ([] : List Cond)) from goodIn_p _ [859] rfl (by decide +kernel)) (gV_9)
set_option maxRecDepth 20000 in
theorem gL1_X6_bound_n : GoodIn lw_tbl (wsV R_law 104 RX6 yX6_bound wsX6_bound_n) := goodIn_app (goodIn_of _ (by decide +kernel)) gW_wsX6_bound_n
set_option maxRecDepth 20000 in
theorem gW_wsX5_proof_n : GoodIn lw_tbl wsX5_proof_n := goodIn_ca (show GoodIn lw_tbl (.code yX5_proof cX5_proof 5 (some .int) :: ([] : List Cond)) from goodIn_p _ [422] rfl (by decide +kernel)) (gV_3)
set_option maxRecDepth 20000 in
theorem gL1_X5_proof_n : GoodIn lw_tbl (wsV R_law 105 RX5 yX5_proof wsX5_proof_n) := goodIn_app (goodIn_of _ (by decide +kernel)) gW_wsX5_proof_n
set_option maxRecDepth 20000 in
theorem gW_wsX6_proof_n : GoodIn lw_tbl wsX6_proof_n := goodIn_ca (show GoodIn lw_tbl (.code yX6_proof cX6_proof 4 (some .int) :: ([] : List Cond)) from goodIn_p _ [871] rfl (by decide +kernel)) (gV_9)
set_option maxRecDepth 20000 in
theorem gL1_X6_proof_n : GoodIn lw_tbl (wsV R_law 108 RX6 yX6_proof wsX6_proof_n) := goodIn_app (goodIn_of _ (by decide +kernel)) gW_wsX6_proof_n
set_option maxRecDepth 20000 in
theorem gW_wsX5_supersingular_n : GoodIn lw_tbl wsX5_supersingular_n := goodIn_ca (show GoodIn lw_tbl (.code yX5_supersingular cX5_supersingular 3 (some .int) :: ([] : List Cond)) from goodIn_p _ [481] rfl (by decide +kernel)) (gV_3)
set_option maxRecDepth 20000 in
theorem gL1_X5_supersingular_n : GoodIn lw_tbl (wsV R_law 109 RX5 yX5_supersingular wsX5_supersingular_n) := goodIn_app (goodIn_of _ (by decide +kernel)) gW_wsX5_supersingular_n
set_option maxRecDepth 20000 in
theorem gW_wsX6_supersingular_n : GoodIn lw_tbl wsX6_supersingular_n := goodIn_ca (show GoodIn lw_tbl (.code yX6_supersingular cX6_supersingular 2 (some .int) :: ([] : List Cond)) from goodIn_p _ [883] rfl (by decide +kernel)) (gV_9)
set_option maxRecDepth 20000 in
theorem gL1_X6_supersingular_n : GoodIn lw_tbl (wsV R_law 112 RX6 yX6_supersingular wsX6_supersingular_n) := goodIn_app (goodIn_of _ (by decide +kernel)) gW_wsX6_supersingular_n
set_option maxRecDepth 20000 in
theorem gW_wsX5_order_n : GoodIn lw_tbl wsX5_order_n := goodIn_ca (show GoodIn lw_tbl (.code yX5_order cX5_order 4 (some .int) :: ([] : List Cond)) from goodIn_p _ [485] rfl (by decide +kernel)) (gV_3)
set_option maxRecDepth 20000 in
theorem gL1_X5_order_n : GoodIn lw_tbl (wsV R_law 113 RX5 yX5_order wsX5_order_n) := goodIn_app (goodIn_of _ (by decide +kernel)) gW_wsX5_order_n
set_option maxRecDepth 20000 in
theorem gW_wsX6_order_n : GoodIn lw_tbl wsX6_order_n := goodIn_ca (show GoodIn lw_tbl (.code yX6_order cX6_order 3 (some .int) :: ([] : List Cond)) from goodIn_p _ [887] rfl (by decide +kernel)) (gV_9)
set_option maxRecDepth 20000 in
theorem gL1_X6_order_n : GoodIn lw_tbl (wsV R_law 116 RX6 yX6_order wsX6_order_n) := goodIn_app (goodIn_of _ (by decide +kernel)) gW_wsX6_order_n
set_option maxRecDepth 20000 in
theorem gW_wsX5_ofOrder_n : GoodIn lw_tbl wsX5_ofOrder_n := goodIn_ca (show GoodIn lw_tbl (.code yX5_ofOrder cX5_ofOrder 4 (some .int) :: ([] : List Cond)) from goodIn_p _ [490] rfl (by decide +kernel)) (gV_3)
set_option maxRecDepth 20000 in
theorem gL1_X5_ofOrder_n : GoodIn lw_tbl (wsV R_law 117 RX5 yX5_ofOrder wsX5_ofOrder_n) := goodIn_app (goodIn_of _ (by decide +kernel)) gW_wsX5_ofOrder_n
set_option maxRecDepth 20000 in
theorem gW_wsX6_ofOrder_n : GoodIn lw_tbl wsX6_ofOrder_n := goodIn_ca (show GoodIn lw_tbl (.code yX6_ofOrder cX6_ofOrder 5 (some .int) :: ([] : List Cond)) from goodIn_p _ [891] rfl (by decide +kernel)) (gV_9)
set_option maxRecDepth 20000 in
theorem gL1_X6_ofOrder_n : GoodIn lw_tbl (wsV R_law 120 RX6 yX6_ofOrder wsX6_ofOrder_n) := goodIn_app (goodIn_of _ (by decide +kernel)) gW_wsX6_ofOrder_n
set_option maxRecDepth 20000 in
theorem gW_wsX5_torsion_n : GoodIn lw_tbl wsX5_torsion_n := goodIn_ca (show GoodIn lw_tbl (.code yX5_torsion cX5_torsion 4 (some .int) :: ([] : List Cond)) from goodIn_p _ [503] rfl (by decide +kernel)) (gV_3)
set_option maxRecDepth 20000 in
theorem gL1_X5_torsion_n : GoodIn lw_tbl (wsV R_law 121 RX5 yX5_torsion wsX5_torsion_n) := goodIn_app (goodIn_of _ (by decide +kernel)) gW_wsX5_torsion_n
set_option maxRecDepth 20000 in
theorem gW_wsX6_torsion_n : GoodIn lw_tbl wsX6_torsion_n := goodIn_ca (show GoodIn lw_tbl (.code yX6_torsion cX6_torsion 5 (some .int) :: ([] : List Cond)) from goodIn_p _ [895] rfl (by decide +kernel)) (gV_9)
set_option maxRecDepth 20000 in
theorem gL1_X6_torsion_n : GoodIn lw_tbl (wsV R_law 124 RX6 yX6_torsion wsX6_torsion_n) := goodIn_app (goodIn_of _ (by decide +kernel)) gW_wsX6_torsion_n
set_option maxRecDepth 20000 in
theorem gW_wsX5_made_n : GoodIn lw_tbl wsX5_made_n := goodIn_ca (show GoodIn lw_tbl (.code yX5_made cX5_made 4 (some .int) :: ([] : List Cond)) from goodIn_p _ [508] rfl (by decide +kernel)) (gV_3)
set_option maxRecDepth 20000 in
theorem gL1_X5_made_n : GoodIn lw_tbl (wsV R_law 125 RX5 yX5_made wsX5_made_n) := goodIn_app (goodIn_of _ (by decide +kernel)) gW_wsX5_made_n
set_option maxRecDepth 20000 in
theorem gW_wsX6_made_n : GoodIn lw_tbl wsX6_made_n := goodIn_ca (show GoodIn lw_tbl (.code yX6_made cX6_made 8 (some .int) :: ([] : List Cond)) from goodIn_p _ [899] rfl (by decide +kernel)) (gV_9)
set_option maxRecDepth 20000 in
theorem gL1_X6_made_n : GoodIn lw_tbl (wsV R_law 128 RX6 yX6_made wsX6_made_n) := goodIn_app (goodIn_of _ (by decide +kernel)) gW_wsX6_made_n
set_option maxRecDepth 20000 in
theorem gW_wsX5_halves_n : GoodIn lw_tbl wsX5_halves_n := goodIn_ca (show GoodIn lw_tbl (.code yX5_halves cX5_halves 4 (some .int) :: ([] : List Cond)) from goodIn_p _ [520] rfl (by decide +kernel)) (gV_3)
set_option maxRecDepth 20000 in
theorem gL1_X5_halves_n : GoodIn lw_tbl (wsV R_law 129 RX5 yX5_halves wsX5_halves_n) := goodIn_app (goodIn_of _ (by decide +kernel)) gW_wsX5_halves_n
set_option maxRecDepth 20000 in
theorem gW_wsX6_halves_n : GoodIn lw_tbl wsX6_halves_n := goodIn_ca (show GoodIn lw_tbl (.code yX6_halves cX6_halves 5 (some .int) :: ([] : List Cond)) from goodIn_p _ [911] rfl (by decide +kernel)) (gV_9)
set_option maxRecDepth 20000 in
theorem gL1_X6_halves_n : GoodIn lw_tbl (wsV R_law 132 RX6 yX6_halves wsX6_halves_n) := goodIn_app (goodIn_of _ (by decide +kernel)) gW_wsX6_halves_n
set_option maxRecDepth 20000 in
theorem gW_wsX5_half_n : GoodIn lw_tbl wsX5_half_n := goodIn_ca (show GoodIn lw_tbl (.code yX5_half cX5_half 5 (some .int) :: ([] : List Cond)) from goodIn_p _ [536] rfl (by decide +kernel)) (gV_3)
set_option maxRecDepth 20000 in
theorem gL1_X5_half_n : GoodIn lw_tbl (wsV R_law 133 RX5 yX5_half wsX5_half_n) := goodIn_app (goodIn_of _ (by decide +kernel)) gW_wsX5_half_n
set_option maxRecDepth 20000 in
theorem gW_wsX6_half_n : GoodIn lw_tbl wsX6_half_n := goodIn_ca (show GoodIn lw_tbl (.code yX6_half cX6_half 6 (some .int) :: ([] : List Cond)) from goodIn_p _ [915] rfl (by decide +kernel)) (gV_9)
set_option maxRecDepth 20000 in
theorem gL1_X6_half_n : GoodIn lw_tbl (wsV R_law 136 RX6 yX6_half wsX6_half_n) := goodIn_app (goodIn_of _ (by decide +kernel)) gW_wsX6_half_n
set_option maxRecDepth 20000 in
theorem gW_wsX5_log_n : GoodIn lw_tbl wsX5_log_n := goodIn_ca (show GoodIn lw_tbl (.code yX5_log cX5_log 5 (some .int) :: ([] : List Cond)) from goodIn_p _ [544] rfl (by decide +kernel)) (gV_3)
set_option maxRecDepth 20000 in
theorem gL1_X5_log_n : GoodIn lw_tbl (wsV R_law 137 RX5 yX5_log wsX5_log_n) := goodIn_app (goodIn_of _ (by decide +kernel)) gW_wsX5_log_n
set_option maxRecDepth 20000 in
theorem gW_wsX6_log_n : GoodIn lw_tbl wsX6_log_n := goodIn_ca (show GoodIn lw_tbl (.code yX6_log cX6_log 6 (some .int) :: ([] : List Cond)) from goodIn_p _ [919] rfl (by decide +kernel)) (gV_9)
set_option maxRecDepth 20000 in
theorem gL1_X6_log_n : GoodIn lw_tbl (wsV R_law 140 RX6 yX6_log wsX6_log_n) := goodIn_app (goodIn_of _ (by decide +kernel)) gW_wsX6_log_n
set_option maxRecDepth 20000 in
theorem gW_wsX5_embedding_n : GoodIn lw_tbl wsX5_embedding_n := goodIn_ca (show GoodIn lw_tbl (.code yX5_embedding cX5_embedding 4 (some .int) :: ([] : List Cond)) from goodIn_p _ [552] rfl (by decide +kernel)) (gV_3)
set_option maxRecDepth 20000 in
theorem gL1_X5_embedding_n : GoodIn lw_tbl (wsV R_law 141 RX5 yX5_embedding wsX5_embedding_n) := goodIn_app (goodIn_of _ (by decide +kernel)) gW_wsX5_embedding_n
set_option maxRecDepth 20000 in
theorem gW_wsX6_embedding_n : GoodIn lw_tbl wsX6_embedding_n := goodIn_ca (show GoodIn lw_tbl (.code yX6_embedding cX6_embedding 5 (some .int) :: ([] : List Cond)) from goodIn_p _ [923] rfl (by decide +kernel)) (gV_9)
set_option maxRecDepth 20000 in
theorem gL1_X6_embedding_n : GoodIn lw_tbl (wsV R_law 144 RX6 yX6_embedding wsX6_embedding_n) := goodIn_app (goodIn_of _ (by decide +kernel)) gW_wsX6_embedding_n
set_option maxRecDepth 20000 in
theorem gW_wsX5_quotient_n : GoodIn lw_tbl wsX5_quotient_n := goodIn_ca (show GoodIn lw_tbl (.code yX5_quotient cX5_quotient 5 (some .int) :: ([] : List Cond)) from goodIn_p _ [560] rfl (by decide +kernel)) (gV_3)
set_option maxRecDepth 20000 in
theorem gL1_X5_quotient_n : GoodIn lw_tbl (wsV R_law 145 RX5 yX5_quotient wsX5_quotient_n) := goodIn_app (goodIn_of _ (by decide +kernel)) gW_wsX5_quotient_n
set_option maxRecDepth 20000 in
theorem gW_wsX6_quotient_n : GoodIn lw_tbl wsX6_quotient_n := goodIn_ca (show GoodIn lw_tbl (.code yX6_quotient cX6_quotient 12 (some .int) :: ([] : List Cond)) from goodIn_p _ [928] rfl (by decide +kernel)) (gV_9)
set_option maxRecDepth 20000 in
theorem gL1_X6_quotient_n : GoodIn lw_tbl (wsV R_law 148 RX6 yX6_quotient wsX6_quotient_n) := goodIn_app (goodIn_of _ (by decide +kernel)) gW_wsX6_quotient_n
set_option maxRecDepth 20000 in
theorem gW_wsX5_madeByKernel_n : GoodIn lw_tbl wsX5_madeByKernel_n := goodIn_ca (show GoodIn lw_tbl (.code yX5_madeByKernel cX5_madeByKernel 3 (some (.object "PointRings$Curve")) :: ([] : List Cond)) from goodIn_p _ [573] rfl (by decide +kernel)) (gV_3)
set_option maxRecDepth 20000 in
theorem gV_72 : GoodIn lw_tbl (wsV RX5 202 RX5 yX5_madeByKernel wsX5_madeByKernel_n) := goodIn_app (goodIn_of _ (by decide +kernel)) gW_wsX5_madeByKernel_n
set_option maxRecDepth 20000 in
theorem gW_wsX5_image_n : GoodIn lw_tbl wsX5_image_n := goodIn_ca (show GoodIn lw_tbl (.code yX5_image cX5_image 5 (some .int) :: ([] : List Cond)) from goodIn_p _ [569] rfl (by decide +kernel)) (gV_72)
set_option maxRecDepth 20000 in
theorem gL1_X5_image_n : GoodIn lw_tbl (wsV R_law 149 RX5 yX5_image wsX5_image_n) := goodIn_app (goodIn_of _ (by decide +kernel)) gW_wsX5_image_n
set_option maxRecDepth 20000 in
theorem gW_wsX6_image_n : GoodIn lw_tbl wsX6_image_n := goodIn_ca (show GoodIn lw_tbl (.code yX6_image cX6_image 10 (some .int) :: ([.fieldLink RX6 112 "PointRingsModel" "curves" "I"] : List Cond)) from goodIn_p _ [933] rfl (by decide +kernel)) (goodIn_app gU_wsX60 (gV_7))
set_option maxRecDepth 20000 in
theorem gL1_X6_image_n : GoodIn lw_tbl (wsV R_law 152 RX6 yX6_image wsX6_image_n) := goodIn_app (goodIn_of _ (by decide +kernel)) gW_wsX6_image_n
set_option maxRecDepth 20000 in
theorem gW_wsX5_kernel_n : GoodIn lw_tbl wsX5_kernel_n := goodIn_ca (show GoodIn lw_tbl (.code yX5_kernel cX5_kernel 4 (some .int) :: ([] : List Cond)) from goodIn_p _ [581] rfl (by decide +kernel)) (gV_72)
set_option maxRecDepth 20000 in
theorem gL1_X5_kernel_n : GoodIn lw_tbl (wsV R_law 153 RX5 yX5_kernel wsX5_kernel_n) := goodIn_app (goodIn_of _ (by decide +kernel)) gW_wsX5_kernel_n
set_option maxRecDepth 20000 in
theorem gW_wsX6_kernel_n : GoodIn lw_tbl wsX6_kernel_n := goodIn_ca (show GoodIn lw_tbl (.code yX6_kernel cX6_kernel 3 (some .int) :: ([.fieldLink RX6 112 "PointRingsModel" "curves" "I"] : List Cond)) from goodIn_p _ [937] rfl (by decide +kernel)) (goodIn_app gU_wsX60 (gV_7))
set_option maxRecDepth 20000 in
theorem gL1_X6_kernel_n : GoodIn lw_tbl (wsV R_law 156 RX6 yX6_kernel wsX6_kernel_n) := goodIn_app (goodIn_of _ (by decide +kernel)) gW_wsX6_kernel_n
set_option maxRecDepth 20000 in
theorem gW_wsX5_primeOrder_n : GoodIn lw_tbl wsX5_primeOrder_n := goodIn_p _ [589] rfl (by decide +kernel)
set_option maxRecDepth 20000 in
theorem gV_78 : GoodIn lw_tbl (wsV RX5 217 RX5 yX5_primeOrder wsX5_primeOrder_n) := goodIn_app (goodIn_of _ (by decide +kernel)) gW_wsX5_primeOrder_n
set_option maxRecDepth 20000 in
theorem gW_wsX5_sign_n : GoodIn lw_tbl wsX5_sign_n := goodIn_ca (show GoodIn lw_tbl (.code yX5_sign cX5_sign 12 (some .int) :: ([] : List Cond)) from goodIn_p _ [585] rfl (by decide +kernel)) (goodIn_app gV_3 (gV_78))
set_option maxRecDepth 20000 in
theorem gL1_X5_sign_n : GoodIn lw_tbl (wsV R_law 157 RX5 yX5_sign wsX5_sign_n) := goodIn_app (goodIn_of _ (by decide +kernel)) gW_wsX5_sign_n
set_option maxRecDepth 20000 in
theorem gW_wsX6_sign_n : GoodIn lw_tbl wsX6_sign_n := goodIn_ca (show GoodIn lw_tbl (.code yX6_sign cX6_sign 10 (some .int) :: ([] : List Cond)) from goodIn_p _ [941] rfl (by decide +kernel)) (gV_9)
set_option maxRecDepth 20000 in
theorem gL1_X6_sign_n : GoodIn lw_tbl (wsV R_law 161 RX6 yX6_sign wsX6_sign_n) := goodIn_app (goodIn_of _ (by decide +kernel)) gW_wsX6_sign_n
set_option maxRecDepth 20000 in
theorem gW_wsX5_good_n : GoodIn lw_tbl wsX5_good_n := goodIn_ca (show GoodIn lw_tbl (.code yX5_good cX5_good 11 (some .int) :: ([] : List Cond)) from goodIn_p _ [594] rfl (by decide +kernel)) (goodIn_app gV_3 (gV_78))
set_option maxRecDepth 20000 in
theorem gL1_X5_good_n : GoodIn lw_tbl (wsV R_law 162 RX5 yX5_good wsX5_good_n) := goodIn_app (goodIn_of _ (by decide +kernel)) gW_wsX5_good_n
set_option maxRecDepth 20000 in
theorem gW_wsX6_good_n : GoodIn lw_tbl wsX6_good_n := goodIn_ca (show GoodIn lw_tbl (.code yX6_good cX6_good 11 (some .int) :: ([] : List Cond)) from goodIn_p _ [948] rfl (by decide +kernel)) (gV_9)
set_option maxRecDepth 20000 in
theorem gL1_X6_good_n : GoodIn lw_tbl (wsV R_law 165 RX6 yX6_good wsX6_good_n) := goodIn_app (goodIn_of _ (by decide +kernel)) gW_wsX6_good_n
set_option maxRecDepth 20000 in
theorem gW_wsX5_census : GoodIn lw_tbl wsX5_census := goodIn_p _ [598, 133, 136, 139, 602, 606, 405, 351, 292, 296, 610] rfl (by decide +kernel)
set_option maxRecDepth 20000 in
theorem gL1_X5_census : GoodIn lw_tbl (wsV R_law 166 RX5 yX5_census wsX5_census) := goodIn_app (goodIn_of _ (by decide +kernel)) gW_wsX5_census
set_option maxRecDepth 20000 in
theorem gW_wsX6_census : GoodIn lw_tbl wsX6_census := goodIn_p _ [952, 956, 700, 703, 711, 707, 715, 720, 725, 776, 741] rfl (by decide +kernel)
set_option maxRecDepth 20000 in
theorem gL1_X6_census : GoodIn lw_tbl (wsV R_law 169 RX6 yX6_census wsX6_census) := goodIn_app (goodIn_of _ (by decide +kernel)) gW_wsX6_census
set_option maxRecDepth 20000 in
theorem gW_wsX5_kinds : GoodIn lw_tbl wsX5_kinds := goodIn_p _ [614, 133, 136, 139, 618, 606, 405, 351, 292, 296, 610] rfl (by decide +kernel)
set_option maxRecDepth 20000 in
theorem gL1_X5_kinds : GoodIn lw_tbl (wsV R_law 170 RX5 yX5_kinds wsX5_kinds) := goodIn_app (goodIn_of _ (by decide +kernel)) gW_wsX5_kinds
set_option maxRecDepth 20000 in
theorem gW_wsX6_kinds : GoodIn lw_tbl wsX6_kinds := goodIn_p _ [961, 956, 700, 703, 711, 707, 715, 720, 725, 776, 741] rfl (by decide +kernel)
set_option maxRecDepth 20000 in
theorem gL1_X6_kinds : GoodIn lw_tbl (wsV R_law 173 RX6 yX6_kinds wsX6_kinds) := goodIn_app (goodIn_of _ (by decide +kernel)) gW_wsX6_kinds
set_option maxRecDepth 20000 in
theorem gW_wsX5_curves : GoodIn lw_tbl wsX5_curves := goodIn_p _ [622] rfl (by decide +kernel)
set_option maxRecDepth 20000 in
theorem gL1_X5_curves : GoodIn lw_tbl (wsV R_law 174 RX5 yX5_curves wsX5_curves) := goodIn_app (goodIn_of _ (by decide +kernel)) gW_wsX5_curves
set_option maxRecDepth 20000 in
theorem gW_wsX6_curves : GoodIn lw_tbl wsX6_curves := goodIn_p _ [965] rfl (by decide +kernel)
set_option maxRecDepth 20000 in
theorem gL1_X6_curves : GoodIn lw_tbl (wsV R_law 178 RX6 yX6_curves wsX6_curves) := goodIn_app (goodIn_of _ (by decide +kernel)) gW_wsX6_curves
set_option maxRecDepth 20000 in
theorem gW_wsX5_drop : GoodIn lw_tbl wsX5_drop := goodIn_p _ [626] rfl (by decide +kernel)
set_option maxRecDepth 20000 in
theorem gL1_X5_drop_e : GoodIn lw_tbl (wsV R_law 179 RX5 yX5_drop wsX5_drop) := goodIn_app (goodIn_of _ (by decide +kernel)) gW_wsX5_drop
set_option maxRecDepth 20000 in
theorem gW_wsX6_drop : GoodIn lw_tbl wsX6_drop := goodIn_p _ [969] rfl (by decide +kernel)
set_option maxRecDepth 20000 in
theorem gL1_X6_drop : GoodIn lw_tbl (wsV R_law 182 RX6 yX6_drop wsX6_drop) := goodIn_app (goodIn_of _ (by decide +kernel)) gW_wsX6_drop
set_option maxRecDepth 20000 in
theorem gW_wsX5_init : GoodIn lw_tbl wsX5_init := goodIn_p _ [53, 56, 63, 77, 83] rfl (by decide +kernel)
set_option maxRecDepth 20000 in
theorem gL1_X5_init : GoodIn lw_tbl (wsX5_init) := gW_wsX5_init
set_option maxRecDepth 20000 in
theorem gW_wsX6_init : GoodIn lw_tbl wsX6_init := goodIn_p _ [631, 56] rfl (by decide +kernel)
set_option maxRecDepth 20000 in
theorem gL1_X6_init : GoodIn lw_tbl (wsX6_init) := gW_wsX6_init
