set_option maxRecDepth 20000 in
theorem gW_wsX5_curve : GoodIn lw_tbl wsX5_curve := goodIn_p _ [127, 130, 133, 136, 139, 142, 146, 56, 206] rfl (by decide +kernel)
set_option maxRecDepth 20000 in
theorem gL_X5_curve : GoodIn lw_tbl (wsV R_law 13 RX5 yX5_curve wsX5_curve) := goodIn_app (goodIn_of _ (by decide +kernel)) gW_wsX5_curve
set_option maxRecDepth 20000 in
theorem gW_wsX6_curve : GoodIn lw_tbl wsX6_curve := goodIn_p _ [692, 695, 700, 703, 707, 711, 715, 720, 725, 729] rfl (by decide +kernel)
set_option maxRecDepth 20000 in
theorem gL_X6_curve : GoodIn lw_tbl (wsV R_law 17 RX6 yX6_curve wsX6_curve) := goodIn_app (goodIn_of _ (by decide +kernel)) gW_wsX6_curve
set_option maxRecDepth 20000 in
theorem gW_wsX5_at : GoodIn lw_tbl wsX5_at := goodIn_p _ [214] rfl (by decide +kernel)
set_option maxRecDepth 20000 in
theorem gV_3 : GoodIn lw_tbl (wsV RX5 47 RX5 yX5_at wsX5_at) := goodIn_app (goodIn_of _ (by decide +kernel)) gW_wsX5_at
set_option maxRecDepth 20000 in
theorem gW_wsX5_told_n : GoodIn lw_tbl wsX5_told_n := goodIn_ca (show GoodIn lw_tbl (.code yX5_told cX5_told 4 (some .int) :: ([] : List Cond)) from goodIn_p _ [210] rfl (by decide +kernel)) (gV_3)
set_option maxRecDepth 20000 in
theorem gL_X5_told_n : GoodIn lw_tbl (wsV R_law 18 RX5 yX5_told wsX5_told_n) := goodIn_app (goodIn_of _ (by decide +kernel)) gW_wsX5_told_n
set_option maxRecDepth 20000 in
theorem gW_wsX6_told : GoodIn lw_tbl wsX6_told := goodIn_p _ [733, 737, 700, 707, 711, 741, 720, 725, 715, 747, 751] rfl (by decide +kernel)
set_option maxRecDepth 20000 in
theorem gL_X6_told : GoodIn lw_tbl (wsV R_law 22 RX6 yX6_told wsX6_told) := goodIn_app (goodIn_of _ (by decide +kernel)) gW_wsX6_told
set_option maxRecDepth 20000 in
theorem gW_wsX5_told : GoodIn lw_tbl wsX5_told := goodIn_p _ [210, 214, 218, 142, 222, 225, 228, 231, 235, 238] rfl (by decide +kernel)
set_option maxRecDepth 20000 in
theorem gL_X5_told : GoodIn lw_tbl (wsV R_law 18 RX5 yX5_told wsX5_told) := goodIn_app (goodIn_of _ (by decide +kernel)) gW_wsX5_told
set_option maxRecDepth 20000 in
theorem gW_wsX5_twist_n : GoodIn lw_tbl wsX5_twist_n := goodIn_ca (show GoodIn lw_tbl (.code yX5_twist cX5_twist 3 (some .int) :: ([] : List Cond)) from goodIn_p _ [242] rfl (by decide +kernel)) (gV_3)
set_option maxRecDepth 20000 in
theorem gL_X5_twist_n : GoodIn lw_tbl (wsV R_law 23 RX5 yX5_twist wsX5_twist_n) := goodIn_app (goodIn_of _ (by decide +kernel)) gW_wsX5_twist_n
set_option maxRecDepth 20000 in
theorem gW_wsX6_twist : GoodIn lw_tbl wsX6_twist := goodIn_p _ [756, 737, 700, 707, 711, 760, 747, 720, 729] rfl (by decide +kernel)
set_option maxRecDepth 20000 in
theorem gL_X6_twist : GoodIn lw_tbl (wsV R_law 27 RX6 yX6_twist wsX6_twist) := goodIn_app (goodIn_of _ (by decide +kernel)) gW_wsX6_twist
set_option maxRecDepth 20000 in
theorem gW_wsX5_twist : GoodIn lw_tbl wsX5_twist := goodIn_p _ [242, 214, 246, 228, 231, 146, 56, 206] rfl (by decide +kernel)
set_option maxRecDepth 20000 in
theorem gL_X5_twist : GoodIn lw_tbl (wsV R_law 23 RX5 yX5_twist wsX5_twist) := goodIn_app (goodIn_of _ (by decide +kernel)) gW_wsX5_twist
set_option maxRecDepth 20000 in
theorem gW_wsX5_map_n : GoodIn lw_tbl wsX5_map_n := goodIn_ca (show GoodIn lw_tbl (.code yX5_map cX5_map 5 (some .int) :: ([] : List Cond)) from goodIn_p _ [253] rfl (by decide +kernel)) (gV_3)
set_option maxRecDepth 20000 in
theorem gL_X5_map_n : GoodIn lw_tbl (wsV R_law 28 RX5 yX5_map wsX5_map_n) := goodIn_app (goodIn_of _ (by decide +kernel)) gW_wsX5_map_n
set_option maxRecDepth 20000 in
theorem gW_wsX6_map : GoodIn lw_tbl wsX6_map := goodIn_p _ [764, 737, 700, 707, 711, 751, 720] rfl (by decide +kernel)
set_option maxRecDepth 20000 in
theorem gL_X6_map : GoodIn lw_tbl (wsV R_law 31 RX6 yX6_map wsX6_map) := goodIn_app (goodIn_of _ (by decide +kernel)) gW_wsX6_map
set_option maxRecDepth 20000 in
theorem gW_wsX5_map : GoodIn lw_tbl wsX5_map := goodIn_p _ [253, 214, 257] rfl (by decide +kernel)
set_option maxRecDepth 20000 in
theorem gL_X5_map : GoodIn lw_tbl (wsV R_law 28 RX5 yX5_map wsX5_map) := goodIn_app (goodIn_of _ (by decide +kernel)) gW_wsX5_map
set_option maxRecDepth 20000 in
theorem gW_wsX5_mapped_n : GoodIn lw_tbl wsX5_mapped_n := goodIn_ca (show GoodIn lw_tbl (.code yX5_mapped cX5_mapped 7 (some .int) :: ([] : List Cond)) from goodIn_p _ [261] rfl (by decide +kernel)) (gV_3)
set_option maxRecDepth 20000 in
theorem gL_X5_mapped_n : GoodIn lw_tbl (wsV R_law 32 RX5 yX5_mapped wsX5_mapped_n) := goodIn_app (goodIn_of _ (by decide +kernel)) gW_wsX5_mapped_n
set_option maxRecDepth 20000 in
theorem gW_wsX6_mapped : GoodIn lw_tbl wsX6_mapped := goodIn_p _ [768, 737, 700, 707, 711, 772, 720, 776, 725] rfl (by decide +kernel)
set_option maxRecDepth 20000 in
theorem gL_X6_mapped : GoodIn lw_tbl (wsV R_law 35 RX6 yX6_mapped wsX6_mapped) := goodIn_app (goodIn_of _ (by decide +kernel)) gW_wsX6_mapped
set_option maxRecDepth 20000 in
theorem gW_wsX5_mapped : GoodIn lw_tbl wsX5_mapped := goodIn_p _ [261, 214, 139, 265, 268, 271, 276, 281] rfl (by decide +kernel)
set_option maxRecDepth 20000 in
theorem gL_X5_mapped : GoodIn lw_tbl (wsV R_law 32 RX5 yX5_mapped wsX5_mapped) := goodIn_app (goodIn_of _ (by decide +kernel)) gW_wsX5_mapped
set_option maxRecDepth 20000 in
theorem gW_wsX5_root_n : GoodIn lw_tbl wsX5_root_n := goodIn_ca (show GoodIn lw_tbl (.code yX5_root cX5_root 4 (some .int) :: ([] : List Cond)) from goodIn_p _ [285] rfl (by decide +kernel)) (gV_3)
set_option maxRecDepth 20000 in
theorem gL_X5_root_n : GoodIn lw_tbl (wsV R_law 36 RX5 yX5_root wsX5_root_n) := goodIn_app (goodIn_of _ (by decide +kernel)) gW_wsX5_root_n
set_option maxRecDepth 20000 in
theorem gW_wsX6_root : GoodIn lw_tbl wsX6_root := goodIn_p _ [780, 737, 700, 707, 711, 725] rfl (by decide +kernel)
set_option maxRecDepth 20000 in
theorem gL_X6_root : GoodIn lw_tbl (wsV R_law 39 RX6 yX6_root wsX6_root) := goodIn_app (goodIn_of _ (by decide +kernel)) gW_wsX6_root
set_option maxRecDepth 20000 in
theorem gW_wsX5_root : GoodIn lw_tbl wsX5_root := goodIn_p _ [285, 214, 225, 289, 293, 297] rfl (by decide +kernel)
set_option maxRecDepth 20000 in
theorem gL_X5_root : GoodIn lw_tbl (wsV R_law 36 RX5 yX5_root wsX5_root) := goodIn_app (goodIn_of _ (by decide +kernel)) gW_wsX5_root
set_option maxRecDepth 20000 in
theorem gW_wsX5_inverse_n : GoodIn lw_tbl wsX5_inverse_n := goodIn_ca (show GoodIn lw_tbl (.code yX5_inverse cX5_inverse 5 (some .int) :: ([] : List Cond)) from goodIn_p _ [301] rfl (by decide +kernel)) (gV_3)
set_option maxRecDepth 20000 in
theorem gL_X5_inverse_n : GoodIn lw_tbl (wsV R_law 40 RX5 yX5_inverse wsX5_inverse_n) := goodIn_app (goodIn_of _ (by decide +kernel)) gW_wsX5_inverse_n
set_option maxRecDepth 20000 in
theorem gW_wsX6_inverse : GoodIn lw_tbl wsX6_inverse := goodIn_p _ [784, 737, 700, 707, 711, 725] rfl (by decide +kernel)
set_option maxRecDepth 20000 in
theorem gL_X6_inverse : GoodIn lw_tbl (wsV R_law 43 RX6 yX6_inverse wsX6_inverse) := goodIn_app (goodIn_of _ (by decide +kernel)) gW_wsX6_inverse
set_option maxRecDepth 20000 in
theorem gW_wsX5_inverse : GoodIn lw_tbl wsX5_inverse := goodIn_p _ [301, 214, 225, 222] rfl (by decide +kernel)
set_option maxRecDepth 20000 in
theorem gL_X5_inverse : GoodIn lw_tbl (wsV R_law 40 RX5 yX5_inverse wsX5_inverse) := goodIn_app (goodIn_of _ (by decide +kernel)) gW_wsX5_inverse
set_option maxRecDepth 20000 in
theorem gW_wsX5_power_n : GoodIn lw_tbl wsX5_power_n := goodIn_ca (show GoodIn lw_tbl (.code yX5_power cX5_power 6 (some .int) :: ([] : List Cond)) from goodIn_p _ [306] rfl (by decide +kernel)) (gV_3)
set_option maxRecDepth 20000 in
theorem gL_X5_power_n : GoodIn lw_tbl (wsV R_law 46 RX5 yX5_power wsX5_power_n) := goodIn_app (goodIn_of _ (by decide +kernel)) gW_wsX5_power_n
set_option maxRecDepth 20000 in
theorem gW_wsX6_power : GoodIn lw_tbl wsX6_power := goodIn_p _ [788, 737, 700, 707, 711, 725, 751, 720] rfl (by decide +kernel)
set_option maxRecDepth 20000 in
theorem gL_X6_power : GoodIn lw_tbl (wsV R_law 50 RX6 yX6_power wsX6_power) := goodIn_app (goodIn_of _ (by decide +kernel)) gW_wsX6_power
set_option maxRecDepth 20000 in
theorem gW_wsX5_power : GoodIn lw_tbl wsX5_power := goodIn_p _ [306, 214, 225, 231] rfl (by decide +kernel)
set_option maxRecDepth 20000 in
theorem gL_X5_power : GoodIn lw_tbl (wsV R_law 46 RX5 yX5_power wsX5_power) := goodIn_app (goodIn_of _ (by decide +kernel)) gW_wsX5_power
set_option maxRecDepth 20000 in
theorem gW_wsX5_generator_n : GoodIn lw_tbl wsX5_generator_n := goodIn_ca (show GoodIn lw_tbl (.code yX5_generator cX5_generator 3 (some .int) :: ([] : List Cond)) from goodIn_p _ [311] rfl (by decide +kernel)) (gV_3)
set_option maxRecDepth 20000 in
theorem gL_X5_generator_n : GoodIn lw_tbl (wsV R_law 51 RX5 yX5_generator wsX5_generator_n) := goodIn_app (goodIn_of _ (by decide +kernel)) gW_wsX5_generator_n
set_option maxRecDepth 20000 in
theorem gW_wsX6_generator : GoodIn lw_tbl wsX6_generator := goodIn_p _ [792, 737, 700, 707, 711, 720] rfl (by decide +kernel)
set_option maxRecDepth 20000 in
theorem gL_X6_generator : GoodIn lw_tbl (wsV R_law 54 RX6 yX6_generator wsX6_generator) := goodIn_app (goodIn_of _ (by decide +kernel)) gW_wsX6_generator
set_option maxRecDepth 20000 in
theorem gW_wsX5_generator : GoodIn lw_tbl wsX5_generator := goodIn_p _ [311, 214, 314, 317, 136, 231, 320] rfl (by decide +kernel)
set_option maxRecDepth 20000 in
theorem gL_X5_generator : GoodIn lw_tbl (wsV R_law 51 RX5 yX5_generator wsX5_generator) := goodIn_app (goodIn_of _ (by decide +kernel)) gW_wsX5_generator
set_option maxRecDepth 20000 in
theorem gW_wsX5_point_n : GoodIn lw_tbl wsX5_point_n := goodIn_ca (show GoodIn lw_tbl (.code yX5_point cX5_point 5 (some .int) :: ([] : List Cond)) from goodIn_p _ [324] rfl (by decide +kernel)) (gV_3)
set_option maxRecDepth 20000 in
theorem gL_X5_point_n : GoodIn lw_tbl (wsV R_law 55 RX5 yX5_point wsX5_point_n) := goodIn_app (goodIn_of _ (by decide +kernel)) gW_wsX5_point_n
set_option maxRecDepth 20000 in
theorem gW_wsX6_point : GoodIn lw_tbl wsX6_point := goodIn_p _ [796, 737, 700, 707, 711, 772, 720, 776, 725] rfl (by decide +kernel)
set_option maxRecDepth 20000 in
theorem gL_X6_point : GoodIn lw_tbl (wsV R_law 58 RX6 yX6_point wsX6_point) := goodIn_app (goodIn_of _ (by decide +kernel)) gW_wsX6_point
set_option maxRecDepth 20000 in
theorem gW_wsX5_point : GoodIn lw_tbl wsX5_point := goodIn_p _ [324, 214, 139, 276, 281] rfl (by decide +kernel)
set_option maxRecDepth 20000 in
theorem gL_X5_point : GoodIn lw_tbl (wsV R_law 55 RX5 yX5_point wsX5_point) := goodIn_app (goodIn_of _ (by decide +kernel)) gW_wsX5_point
set_option maxRecDepth 20000 in
theorem gW_wsX5_lift_n : GoodIn lw_tbl wsX5_lift_n := goodIn_ca (show GoodIn lw_tbl (.code yX5_lift cX5_lift 6 (some .int) :: ([] : List Cond)) from goodIn_p _ [329] rfl (by decide +kernel)) (gV_3)
set_option maxRecDepth 20000 in
theorem gL_X5_lift_n : GoodIn lw_tbl (wsV R_law 59 RX5 yX5_lift wsX5_lift_n) := goodIn_app (goodIn_of _ (by decide +kernel)) gW_wsX5_lift_n
set_option maxRecDepth 20000 in
theorem gW_wsX6_lift : GoodIn lw_tbl wsX6_lift := goodIn_p _ [800, 737, 700, 707, 711, 776, 720, 725] rfl (by decide +kernel)
set_option maxRecDepth 20000 in
theorem gL_X6_lift : GoodIn lw_tbl (wsV R_law 63 RX6 yX6_lift wsX6_lift) := goodIn_app (goodIn_of _ (by decide +kernel)) gW_wsX6_lift
set_option maxRecDepth 20000 in
theorem gW_wsX5_lift : GoodIn lw_tbl wsX5_lift := goodIn_p _ [329, 214, 139, 333, 276, 293, 297, 281, 271, 339, 268] rfl (by decide +kernel)
set_option maxRecDepth 20000 in
theorem gL_X5_lift : GoodIn lw_tbl (wsV R_law 59 RX5 yX5_lift wsX5_lift) := goodIn_app (goodIn_of _ (by decide +kernel)) gW_wsX5_lift
set_option maxRecDepth 20000 in
theorem gW_wsX5_near_n : GoodIn lw_tbl wsX5_near_n := goodIn_ca (show GoodIn lw_tbl (.code yX5_near cX5_near 7 (some .int) :: ([] : List Cond)) from goodIn_p _ [344] rfl (by decide +kernel)) (gV_3)
set_option maxRecDepth 20000 in
theorem gL_X5_near_n : GoodIn lw_tbl (wsV R_law 64 RX5 yX5_near wsX5_near_n) := goodIn_app (goodIn_of _ (by decide +kernel)) gW_wsX5_near_n
set_option maxRecDepth 20000 in
theorem gW_wsX6_near : GoodIn lw_tbl wsX6_near := goodIn_p _ [804, 737, 700, 707, 711, 725, 776, 720] rfl (by decide +kernel)
set_option maxRecDepth 20000 in
theorem gL_X6_near : GoodIn lw_tbl (wsV R_law 67 RX6 yX6_near wsX6_near) := goodIn_app (goodIn_of _ (by decide +kernel)) gW_wsX6_near
set_option maxRecDepth 20000 in
theorem gW_wsX5_near : GoodIn lw_tbl wsX5_near := goodIn_p _ [344, 214, 225, 333, 276, 293, 297, 281] rfl (by decide +kernel)
set_option maxRecDepth 20000 in
theorem gL_X5_near : GoodIn lw_tbl (wsV R_law 64 RX5 yX5_near wsX5_near) := goodIn_app (goodIn_of _ (by decide +kernel)) gW_wsX5_near
set_option maxRecDepth 20000 in
theorem gW_wsX5_nth_n : GoodIn lw_tbl wsX5_nth_n := goodIn_ca (show GoodIn lw_tbl (.code yX5_nth cX5_nth 4 (some .int) :: ([] : List Cond)) from goodIn_p _ [348] rfl (by decide +kernel)) (gV_3)
set_option maxRecDepth 20000 in
theorem gL_X5_nth_n : GoodIn lw_tbl (wsV R_law 68 RX5 yX5_nth wsX5_nth_n) := goodIn_app (goodIn_of _ (by decide +kernel)) gW_wsX5_nth_n
set_option maxRecDepth 20000 in
theorem gW_wsX6_nth : GoodIn lw_tbl wsX6_nth := goodIn_p _ [808, 737, 700, 707, 711, 812, 776, 720, 725] rfl (by decide +kernel)
set_option maxRecDepth 20000 in
theorem gL_X6_nth : GoodIn lw_tbl (wsV R_law 71 RX6 yX6_nth wsX6_nth) := goodIn_app (goodIn_of _ (by decide +kernel)) gW_wsX6_nth
set_option maxRecDepth 20000 in
theorem gW_wsX5_nth : GoodIn lw_tbl wsX5_nth := goodIn_p _ [348, 214, 352, 276, 356, 293, 297, 333, 281, 339, 271, 268] rfl (by decide +kernel)
set_option maxRecDepth 20000 in
theorem gL_X5_nth : GoodIn lw_tbl (wsV R_law 68 RX5 yX5_nth wsX5_nth) := goodIn_app (goodIn_of _ (by decide +kernel)) gW_wsX5_nth
set_option maxRecDepth 20000 in
theorem gW_wsX5_rank_n : GoodIn lw_tbl wsX5_rank_n := goodIn_ca (show GoodIn lw_tbl (.code yX5_rank cX5_rank 4 (some .int) :: ([] : List Cond)) from goodIn_p _ [362] rfl (by decide +kernel)) (gV_3)
set_option maxRecDepth 20000 in
theorem gL_X5_rank_n : GoodIn lw_tbl (wsV R_law 72 RX5 yX5_rank wsX5_rank_n) := goodIn_app (goodIn_of _ (by decide +kernel)) gW_wsX5_rank_n
set_option maxRecDepth 20000 in
theorem gW_wsX6_rank : GoodIn lw_tbl wsX6_rank := goodIn_p _ [816, 737, 700, 707, 711, 772, 720, 776, 725, 812] rfl (by decide +kernel)
set_option maxRecDepth 20000 in
theorem gL_X6_rank : GoodIn lw_tbl (wsV R_law 75 RX6 yX6_rank wsX6_rank) := goodIn_app (goodIn_of _ (by decide +kernel)) gW_wsX6_rank
set_option maxRecDepth 20000 in
theorem gW_wsX5_rank : GoodIn lw_tbl wsX5_rank := goodIn_p _ [362, 214, 265, 268, 271, 139, 276, 366, 356, 293, 297, 333, 281] rfl (by decide +kernel)
set_option maxRecDepth 20000 in
theorem gL_X5_rank : GoodIn lw_tbl (wsV R_law 72 RX5 yX5_rank wsX5_rank) := goodIn_app (goodIn_of _ (by decide +kernel)) gW_wsX5_rank
set_option maxRecDepth 20000 in
theorem gW_wsX5_add_n : GoodIn lw_tbl wsX5_add_n := goodIn_ca (show GoodIn lw_tbl (.code yX5_add cX5_add 5 (some .int) :: ([] : List Cond)) from goodIn_p _ [371] rfl (by decide +kernel)) (gV_3)
set_option maxRecDepth 20000 in
theorem gL_X5_add_n : GoodIn lw_tbl (wsV R_law 76 RX5 yX5_add wsX5_add_n) := goodIn_app (goodIn_of _ (by decide +kernel)) gW_wsX5_add_n
set_option maxRecDepth 20000 in
theorem gW_wsX6_add : GoodIn lw_tbl wsX6_add := goodIn_p _ [820, 737, 700, 707, 711, 772, 720, 776, 725, 824] rfl (by decide +kernel)
set_option maxRecDepth 20000 in
theorem gL_X6_add : GoodIn lw_tbl (wsV R_law 79 RX6 yX6_add wsX6_add) := goodIn_app (goodIn_of _ (by decide +kernel)) gW_wsX6_add
set_option maxRecDepth 20000 in
theorem gW_wsX5_add : GoodIn lw_tbl wsX5_add := goodIn_p _ [371, 214, 265, 268, 271, 139, 276, 375, 222, 281] rfl (by decide +kernel)
set_option maxRecDepth 20000 in
theorem gL_X5_add : GoodIn lw_tbl (wsV R_law 76 RX5 yX5_add wsX5_add) := goodIn_app (goodIn_of _ (by decide +kernel)) gW_wsX5_add
set_option maxRecDepth 20000 in
theorem gW_wsX5_negative_n : GoodIn lw_tbl wsX5_negative_n := goodIn_ca (show GoodIn lw_tbl (.code yX5_negative cX5_negative 4 (some .int) :: ([] : List Cond)) from goodIn_p _ [379] rfl (by decide +kernel)) (gV_3)
set_option maxRecDepth 20000 in
theorem gL_X5_negative_n : GoodIn lw_tbl (wsV R_law 80 RX5 yX5_negative wsX5_negative_n) := goodIn_app (goodIn_of _ (by decide +kernel)) gW_wsX5_negative_n
set_option maxRecDepth 20000 in
theorem gW_wsX6_negative : GoodIn lw_tbl wsX6_negative := goodIn_p _ [830, 737, 700, 707, 711, 772, 720, 776, 725, 834] rfl (by decide +kernel)
set_option maxRecDepth 20000 in
theorem gL_X6_negative : GoodIn lw_tbl (wsV R_law 83 RX6 yX6_negative wsX6_negative) := goodIn_app (goodIn_of _ (by decide +kernel)) gW_wsX6_negative
set_option maxRecDepth 20000 in
theorem gW_wsX5_negative : GoodIn lw_tbl wsX5_negative := goodIn_p _ [379, 214, 265, 268, 271, 139, 276, 339, 281] rfl (by decide +kernel)
set_option maxRecDepth 20000 in
theorem gL_X5_negative : GoodIn lw_tbl (wsV R_law 80 RX5 yX5_negative wsX5_negative) := goodIn_app (goodIn_of _ (by decide +kernel)) gW_wsX5_negative
set_option maxRecDepth 20000 in
theorem gW_wsX5_times_n : GoodIn lw_tbl wsX5_times_n := goodIn_ca (show GoodIn lw_tbl (.code yX5_times cX5_times 6 (some .int) :: ([] : List Cond)) from goodIn_p _ [383] rfl (by decide +kernel)) (gV_3)
set_option maxRecDepth 20000 in
theorem gL_X5_times_n : GoodIn lw_tbl (wsV R_law 84 RX5 yX5_times wsX5_times_n) := goodIn_app (goodIn_of _ (by decide +kernel)) gW_wsX5_times_n
set_option maxRecDepth 20000 in
theorem gW_wsX6_times : GoodIn lw_tbl wsX6_times := goodIn_p _ [838, 737, 700, 707, 711, 772, 720, 776, 725, 842, 834, 824] rfl (by decide +kernel)
set_option maxRecDepth 20000 in
theorem gL_X6_times : GoodIn lw_tbl (wsV R_law 87 RX6 yX6_times wsX6_times) := goodIn_app (goodIn_of _ (by decide +kernel)) gW_wsX6_times
set_option maxRecDepth 20000 in
theorem gW_wsX5_times : GoodIn lw_tbl wsX5_times := goodIn_p _ [383, 214, 265, 268, 271, 139, 276, 387, 339, 281, 375, 222] rfl (by decide +kernel)
set_option maxRecDepth 20000 in
theorem gL_X5_times : GoodIn lw_tbl (wsV R_law 84 RX5 yX5_times wsX5_times) := goodIn_app (goodIn_of _ (by decide +kernel)) gW_wsX5_times
set_option maxRecDepth 20000 in
theorem gW_wsX5_alone_n : GoodIn lw_tbl wsX5_alone_n := goodIn_ca (show GoodIn lw_tbl (.code yX5_alone cX5_alone 10 (some .int) :: ([] : List Cond)) from goodIn_p _ [393] rfl (by decide +kernel)) (gV_3)
set_option maxRecDepth 20000 in
theorem gL_X5_alone_n : GoodIn lw_tbl (wsV R_law 88 RX5 yX5_alone wsX5_alone_n) := goodIn_app (goodIn_of _ (by decide +kernel)) gW_wsX5_alone_n
set_option maxRecDepth 20000 in
theorem gW_wsX6_alone : GoodIn lw_tbl wsX6_alone := goodIn_p _ [846, 737, 700, 707, 711, 776, 720, 725, 842, 834, 824, 747, 760] rfl (by decide +kernel)
set_option maxRecDepth 20000 in
theorem gL_X6_alone : GoodIn lw_tbl (wsV R_law 91 RX6 yX6_alone wsX6_alone) := goodIn_app (goodIn_of _ (by decide +kernel)) gW_wsX6_alone
set_option maxRecDepth 20000 in
theorem gW_wsX5_alone : GoodIn lw_tbl wsX5_alone := goodIn_p _ [393, 214, 139, 333, 276, 293, 297, 281, 387, 339, 271, 268, 375, 222, 228, 231, 246, 146, 56] rfl (by decide +kernel)
set_option maxRecDepth 20000 in
theorem gL_X5_alone : GoodIn lw_tbl (wsV R_law 88 RX5 yX5_alone wsX5_alone) := goodIn_app (goodIn_of _ (by decide +kernel)) gW_wsX5_alone
set_option maxRecDepth 20000 in
theorem gW_wsX5_count_n : GoodIn lw_tbl wsX5_count_n := goodIn_ca (show GoodIn lw_tbl (.code yX5_count cX5_count 3 (some .int) :: ([] : List Cond)) from goodIn_p _ [397] rfl (by decide +kernel)) (gV_3)
set_option maxRecDepth 20000 in
theorem gL_X5_count_n : GoodIn lw_tbl (wsV R_law 92 RX5 yX5_count wsX5_count_n) := goodIn_app (goodIn_of _ (by decide +kernel)) gW_wsX5_count_n
set_option maxRecDepth 20000 in
theorem gW_wsX6_count : GoodIn lw_tbl wsX6_count := goodIn_p _ [850, 737, 700, 707, 711, 812, 776, 720, 725] rfl (by decide +kernel)
set_option maxRecDepth 20000 in
theorem gL_X6_count : GoodIn lw_tbl (wsV R_law 95 RX6 yX6_count wsX6_count) := goodIn_app (goodIn_of _ (by decide +kernel)) gW_wsX6_count
set_option maxRecDepth 20000 in
theorem gW_wsX5_count : GoodIn lw_tbl wsX5_count := goodIn_p _ [397, 214, 401, 405, 356, 293, 297] rfl (by decide +kernel)
set_option maxRecDepth 20000 in
theorem gL_X5_count : GoodIn lw_tbl (wsV R_law 92 RX5 yX5_count wsX5_count) := goodIn_app (goodIn_of _ (by decide +kernel)) gW_wsX5_count
set_option maxRecDepth 20000 in
theorem gW_wsX5_countOver_n : GoodIn lw_tbl wsX5_countOver_n := goodIn_ca (show GoodIn lw_tbl (.code yX5_countOver cX5_countOver 15 (some .long) :: ([.constantLong RX5 135 (-2)] : List Cond)) from goodIn_p _ [409] rfl (by decide +kernel)) (gV_3)
set_option maxRecDepth 20000 in
theorem gL_X5_countOver_n : GoodIn lw_tbl (wsV R_law 96 RX5 yX5_countOver wsX5_countOver_n) := goodIn_app (goodIn_of _ (by decide +kernel)) gW_wsX5_countOver_n
set_option maxRecDepth 20000 in
theorem gW_wsX6_countOver : GoodIn lw_tbl wsX6_countOver := goodIn_p _ [854, 737, 700, 707, 711, 812, 776, 720, 725] rfl (by decide +kernel)
set_option maxRecDepth 20000 in
theorem gL_X6_countOver : GoodIn lw_tbl (wsV R_law 100 RX6 yX6_countOver wsX6_countOver) := goodIn_app (goodIn_of _ (by decide +kernel)) gW_wsX6_countOver
set_option maxRecDepth 20000 in
theorem gW_wsX5_countOver : GoodIn lw_tbl wsX5_countOver := goodIn_p _ [409, 214, 401, 405, 356, 293, 297] rfl (by decide +kernel)
set_option maxRecDepth 20000 in
theorem gL_X5_countOver : GoodIn lw_tbl (wsV R_law 96 RX5 yX5_countOver wsX5_countOver) := goodIn_app (goodIn_of _ (by decide +kernel)) gW_wsX5_countOver
set_option maxRecDepth 20000 in
theorem gW_wsX5_bound_n : GoodIn lw_tbl wsX5_bound_n := goodIn_ca (show GoodIn lw_tbl (.code yX5_bound cX5_bound 5 (some .int) :: ([] : List Cond)) from goodIn_p _ [415] rfl (by decide +kernel)) (gV_3)
set_option maxRecDepth 20000 in
theorem gL_X5_bound_n : GoodIn lw_tbl (wsV R_law 101 RX5 yX5_bound wsX5_bound_n) := goodIn_app (goodIn_of _ (by decide +kernel)) gW_wsX5_bound_n
set_option maxRecDepth 20000 in
theorem gW_wsX6_bound : GoodIn lw_tbl wsX6_bound := goodIn_p _ [859, 737, 700, 707, 711, 863, 867] rfl (by decide +kernel)
set_option maxRecDepth 20000 in
theorem gL_X6_bound : GoodIn lw_tbl (wsV R_law 104 RX6 yX6_bound wsX6_bound) := goodIn_app (goodIn_of _ (by decide +kernel)) gW_wsX6_bound
set_option maxRecDepth 20000 in
theorem gW_wsX5_bound : GoodIn lw_tbl wsX5_bound := goodIn_p _ [415, 214, 418] rfl (by decide +kernel)
set_option maxRecDepth 20000 in
theorem gL_X5_bound : GoodIn lw_tbl (wsV R_law 101 RX5 yX5_bound wsX5_bound) := goodIn_app (goodIn_of _ (by decide +kernel)) gW_wsX5_bound
set_option maxRecDepth 20000 in
theorem gW_wsX5_proof_n : GoodIn lw_tbl wsX5_proof_n := goodIn_ca (show GoodIn lw_tbl (.code yX5_proof cX5_proof 5 (some .int) :: ([] : List Cond)) from goodIn_p _ [422] rfl (by decide +kernel)) (gV_3)
set_option maxRecDepth 20000 in
theorem gL_X5_proof_n : GoodIn lw_tbl (wsV R_law 105 RX5 yX5_proof wsX5_proof_n) := goodIn_app (goodIn_of _ (by decide +kernel)) gW_wsX5_proof_n
set_option maxRecDepth 20000 in
theorem gW_wsX6_proof : GoodIn lw_tbl wsX6_proof := goodIn_p _ [871, 737, 700, 707, 711, 760, 747, 720, 812, 776, 725, 875, 879, 842, 834, 824, 863, 867] rfl (by decide +kernel)
set_option maxRecDepth 20000 in
theorem gL_X6_proof : GoodIn lw_tbl (wsV R_law 108 RX6 yX6_proof wsX6_proof) := goodIn_app (goodIn_of _ (by decide +kernel)) gW_wsX6_proof
set_option maxRecDepth 20000 in
theorem gW_wsX5_proof : GoodIn lw_tbl wsX5_proof := goodIn_p _ [422, 214, 246, 228, 231, 146, 56, 401, 405, 356, 293, 297, 426, 136, 320, 433, 437, 441, 445, 268, 375, 271, 222, 281, 339, 333, 276, 387, 453, 459, 463, 225, 468, 472, 476, 418] rfl (by decide +kernel)
set_option maxRecDepth 20000 in
theorem gL_X5_proof : GoodIn lw_tbl (wsV R_law 105 RX5 yX5_proof wsX5_proof) := goodIn_app (goodIn_of _ (by decide +kernel)) gW_wsX5_proof
set_option maxRecDepth 20000 in
theorem gW_wsX5_supersingular_n : GoodIn lw_tbl wsX5_supersingular_n := goodIn_ca (show GoodIn lw_tbl (.code yX5_supersingular cX5_supersingular 3 (some .int) :: ([] : List Cond)) from goodIn_p _ [481] rfl (by decide +kernel)) (gV_3)
set_option maxRecDepth 20000 in
theorem gL_X5_supersingular_n : GoodIn lw_tbl (wsV R_law 109 RX5 yX5_supersingular wsX5_supersingular_n) := goodIn_app (goodIn_of _ (by decide +kernel)) gW_wsX5_supersingular_n
set_option maxRecDepth 20000 in
theorem gW_wsX6_supersingular : GoodIn lw_tbl wsX6_supersingular := goodIn_p _ [883, 737, 700, 707, 711, 812, 776, 720, 725] rfl (by decide +kernel)
set_option maxRecDepth 20000 in
theorem gL_X6_supersingular : GoodIn lw_tbl (wsV R_law 112 RX6 yX6_supersingular wsX6_supersingular) := goodIn_app (goodIn_of _ (by decide +kernel)) gW_wsX6_supersingular
set_option maxRecDepth 20000 in
theorem gW_wsX5_supersingular : GoodIn lw_tbl wsX5_supersingular := goodIn_p _ [481, 214, 401, 405, 356, 293, 297] rfl (by decide +kernel)
set_option maxRecDepth 20000 in
theorem gL_X5_supersingular : GoodIn lw_tbl (wsV R_law 109 RX5 yX5_supersingular wsX5_supersingular) := goodIn_app (goodIn_of _ (by decide +kernel)) gW_wsX5_supersingular
set_option maxRecDepth 20000 in
theorem gW_wsX5_order_n : GoodIn lw_tbl wsX5_order_n := goodIn_ca (show GoodIn lw_tbl (.code yX5_order cX5_order 4 (some .int) :: ([] : List Cond)) from goodIn_p _ [485] rfl (by decide +kernel)) (gV_3)
set_option maxRecDepth 20000 in
theorem gL_X5_order_n : GoodIn lw_tbl (wsV R_law 113 RX5 yX5_order wsX5_order_n) := goodIn_app (goodIn_of _ (by decide +kernel)) gW_wsX5_order_n
set_option maxRecDepth 20000 in
theorem gW_wsX6_order : GoodIn lw_tbl wsX6_order := goodIn_p _ [887, 737, 700, 707, 711, 772, 720, 776, 725, 879, 812, 842, 834, 824] rfl (by decide +kernel)
set_option maxRecDepth 20000 in
theorem gL_X6_order : GoodIn lw_tbl (wsV R_law 116 RX6 yX6_order wsX6_order) := goodIn_app (goodIn_of _ (by decide +kernel)) gW_wsX6_order
set_option maxRecDepth 20000 in
theorem gW_wsX5_order : GoodIn lw_tbl wsX5_order := goodIn_p _ [485, 214, 265, 268, 271, 139, 276, 401, 405, 356, 293, 297, 453, 136, 387, 339, 281, 375, 222] rfl (by decide +kernel)
set_option maxRecDepth 20000 in
theorem gL_X5_order : GoodIn lw_tbl (wsV R_law 113 RX5 yX5_order wsX5_order) := goodIn_app (goodIn_of _ (by decide +kernel)) gW_wsX5_order
set_option maxRecDepth 20000 in
theorem gW_wsX5_ofOrder_n : GoodIn lw_tbl wsX5_ofOrder_n := goodIn_ca (show GoodIn lw_tbl (.code yX5_ofOrder cX5_ofOrder 4 (some .int) :: ([] : List Cond)) from goodIn_p _ [490] rfl (by decide +kernel)) (gV_3)
set_option maxRecDepth 20000 in
theorem gL_X5_ofOrder_n : GoodIn lw_tbl (wsV R_law 117 RX5 yX5_ofOrder wsX5_ofOrder_n) := goodIn_app (goodIn_of _ (by decide +kernel)) gW_wsX5_ofOrder_n
set_option maxRecDepth 20000 in
theorem gW_wsX6_ofOrder : GoodIn lw_tbl wsX6_ofOrder := goodIn_p _ [891, 737, 700, 707, 711, 812, 776, 720, 725, 879, 842, 834, 824] rfl (by decide +kernel)
set_option maxRecDepth 20000 in
theorem gL_X6_ofOrder : GoodIn lw_tbl (wsV R_law 120 RX6 yX6_ofOrder wsX6_ofOrder) := goodIn_app (goodIn_of _ (by decide +kernel)) gW_wsX6_ofOrder
set_option maxRecDepth 20000 in
theorem gW_wsX5_ofOrder : GoodIn lw_tbl wsX5_ofOrder := goodIn_p _ [490, 214, 426, 401, 405, 356, 293, 297, 136, 320, 433, 437, 441, 445, 268, 375, 271, 222, 281, 339, 333, 276, 387, 453, 459, 463, 225, 468, 494, 499, 238] rfl (by decide +kernel)
set_option maxRecDepth 20000 in
theorem gL_X5_ofOrder : GoodIn lw_tbl (wsV R_law 117 RX5 yX5_ofOrder wsX5_ofOrder) := goodIn_app (goodIn_of _ (by decide +kernel)) gW_wsX5_ofOrder
set_option maxRecDepth 20000 in
theorem gW_wsX5_torsion_n : GoodIn lw_tbl wsX5_torsion_n := goodIn_ca (show GoodIn lw_tbl (.code yX5_torsion cX5_torsion 4 (some .int) :: ([] : List Cond)) from goodIn_p _ [503] rfl (by decide +kernel)) (gV_3)
set_option maxRecDepth 20000 in
theorem gL_X5_torsion_n : GoodIn lw_tbl (wsV R_law 121 RX5 yX5_torsion wsX5_torsion_n) := goodIn_app (goodIn_of _ (by decide +kernel)) gW_wsX5_torsion_n
set_option maxRecDepth 20000 in
theorem gW_wsX6_torsion : GoodIn lw_tbl wsX6_torsion := goodIn_p _ [895, 737, 700, 707, 711, 812, 776, 720, 725, 842, 834, 824] rfl (by decide +kernel)
set_option maxRecDepth 20000 in
theorem gL_X6_torsion : GoodIn lw_tbl (wsV R_law 124 RX6 yX6_torsion wsX6_torsion) := goodIn_app (goodIn_of _ (by decide +kernel)) gW_wsX6_torsion
set_option maxRecDepth 20000 in
theorem gW_wsX5_torsion : GoodIn lw_tbl wsX5_torsion := goodIn_p _ [503, 214, 426, 401, 405, 356, 293, 297, 136, 320, 433, 437, 441, 445, 268, 375, 271, 222, 281, 339, 333, 276, 387, 453, 459, 463, 225, 468, 499, 238] rfl (by decide +kernel)
set_option maxRecDepth 20000 in
theorem gL_X5_torsion : GoodIn lw_tbl (wsV R_law 121 RX5 yX5_torsion wsX5_torsion) := goodIn_app (goodIn_of _ (by decide +kernel)) gW_wsX5_torsion
set_option maxRecDepth 20000 in
theorem gW_wsX5_made_n : GoodIn lw_tbl wsX5_made_n := goodIn_ca (show GoodIn lw_tbl (.code yX5_made cX5_made 4 (some .int) :: ([] : List Cond)) from goodIn_p _ [508] rfl (by decide +kernel)) (gV_3)
set_option maxRecDepth 20000 in
theorem gL_X5_made_n : GoodIn lw_tbl (wsV R_law 125 RX5 yX5_made wsX5_made_n) := goodIn_app (goodIn_of _ (by decide +kernel)) gW_wsX5_made_n
set_option maxRecDepth 20000 in
theorem gW_wsX6_made : GoodIn lw_tbl wsX6_made := goodIn_p _ [899, 737, 700, 707, 711, 812, 776, 720, 725, 879, 842, 834, 824, 903, 907] rfl (by decide +kernel)
set_option maxRecDepth 20000 in
theorem gL_X6_made : GoodIn lw_tbl (wsV R_law 128 RX6 yX6_made wsX6_made) := goodIn_app (goodIn_of _ (by decide +kernel)) gW_wsX6_made
set_option maxRecDepth 20000 in
theorem gW_wsX5_made : GoodIn lw_tbl wsX5_made := goodIn_p _ [508, 214, 426, 401, 405, 356, 293, 297, 136, 320, 433, 437, 441, 445, 268, 375, 271, 222, 281, 339, 333, 276, 387, 453, 459, 463, 225, 468, 512, 516] rfl (by decide +kernel)
set_option maxRecDepth 20000 in
theorem gL_X5_made : GoodIn lw_tbl (wsV R_law 125 RX5 yX5_made wsX5_made) := goodIn_app (goodIn_of _ (by decide +kernel)) gW_wsX5_made
set_option maxRecDepth 20000 in
theorem gW_wsX5_halves_n : GoodIn lw_tbl wsX5_halves_n := goodIn_ca (show GoodIn lw_tbl (.code yX5_halves cX5_halves 4 (some .int) :: ([] : List Cond)) from goodIn_p _ [520] rfl (by decide +kernel)) (gV_3)
set_option maxRecDepth 20000 in
theorem gL_X5_halves_n : GoodIn lw_tbl (wsV R_law 129 RX5 yX5_halves wsX5_halves_n) := goodIn_app (goodIn_of _ (by decide +kernel)) gW_wsX5_halves_n
set_option maxRecDepth 20000 in
theorem gW_wsX6_halves : GoodIn lw_tbl wsX6_halves := goodIn_p _ [911, 737, 700, 707, 711, 772, 720, 776, 725, 812, 824] rfl (by decide +kernel)
set_option maxRecDepth 20000 in
theorem gL_X6_halves : GoodIn lw_tbl (wsV R_law 132 RX6 yX6_halves wsX6_halves) := goodIn_app (goodIn_of _ (by decide +kernel)) gW_wsX6_halves
set_option maxRecDepth 20000 in
theorem gW_wsX5_halves : GoodIn lw_tbl wsX5_halves := goodIn_p _ [520, 214, 265, 268, 271, 139, 276, 524, 528, 531, 333, 293, 297, 281, 339, 375, 222] rfl (by decide +kernel)
set_option maxRecDepth 20000 in
theorem gL_X5_halves : GoodIn lw_tbl (wsV R_law 129 RX5 yX5_halves wsX5_halves) := goodIn_app (goodIn_of _ (by decide +kernel)) gW_wsX5_halves
set_option maxRecDepth 20000 in
theorem gW_wsX5_half_n : GoodIn lw_tbl wsX5_half_n := goodIn_ca (show GoodIn lw_tbl (.code yX5_half cX5_half 5 (some .int) :: ([] : List Cond)) from goodIn_p _ [536] rfl (by decide +kernel)) (gV_3)
set_option maxRecDepth 20000 in
theorem gL_X5_half_n : GoodIn lw_tbl (wsV R_law 133 RX5 yX5_half wsX5_half_n) := goodIn_app (goodIn_of _ (by decide +kernel)) gW_wsX5_half_n
set_option maxRecDepth 20000 in
theorem gW_wsX6_half : GoodIn lw_tbl wsX6_half := goodIn_p _ [915, 737, 700, 707, 711, 772, 720, 776, 725, 812, 824] rfl (by decide +kernel)
set_option maxRecDepth 20000 in
theorem gL_X6_half : GoodIn lw_tbl (wsV R_law 136 RX6 yX6_half wsX6_half) := goodIn_app (goodIn_of _ (by decide +kernel)) gW_wsX6_half
set_option maxRecDepth 20000 in
theorem gW_wsX5_half : GoodIn lw_tbl wsX5_half := goodIn_p _ [536, 214, 265, 268, 271, 139, 276, 524, 528, 531, 333, 293, 297, 281, 339, 375, 222, 540] rfl (by decide +kernel)
set_option maxRecDepth 20000 in
theorem gL_X5_half : GoodIn lw_tbl (wsV R_law 133 RX5 yX5_half wsX5_half) := goodIn_app (goodIn_of _ (by decide +kernel)) gW_wsX5_half
set_option maxRecDepth 20000 in
theorem gW_wsX5_log_n : GoodIn lw_tbl wsX5_log_n := goodIn_ca (show GoodIn lw_tbl (.code yX5_log cX5_log 5 (some .int) :: ([] : List Cond)) from goodIn_p _ [544] rfl (by decide +kernel)) (gV_3)
set_option maxRecDepth 20000 in
theorem gL_X5_log_n : GoodIn lw_tbl (wsV R_law 137 RX5 yX5_log wsX5_log_n) := goodIn_app (goodIn_of _ (by decide +kernel)) gW_wsX5_log_n
set_option maxRecDepth 20000 in
theorem gW_wsX6_log : GoodIn lw_tbl wsX6_log := goodIn_p _ [919, 737, 700, 707, 711, 772, 720, 776, 725, 824] rfl (by decide +kernel)
set_option maxRecDepth 20000 in
theorem gL_X6_log : GoodIn lw_tbl (wsV R_law 140 RX6 yX6_log wsX6_log) := goodIn_app (goodIn_of _ (by decide +kernel)) gW_wsX6_log
set_option maxRecDepth 20000 in
theorem gW_wsX5_log : GoodIn lw_tbl wsX5_log := goodIn_p _ [544, 214, 265, 268, 271, 139, 276, 548, 401, 405, 356, 293, 297, 453, 136, 387, 339, 281, 375, 222, 437, 441, 445, 463, 225, 468] rfl (by decide +kernel)
set_option maxRecDepth 20000 in
theorem gL_X5_log : GoodIn lw_tbl (wsV R_law 137 RX5 yX5_log wsX5_log) := goodIn_app (goodIn_of _ (by decide +kernel)) gW_wsX5_log
set_option maxRecDepth 20000 in
theorem gW_wsX5_embedding_n : GoodIn lw_tbl wsX5_embedding_n := goodIn_ca (show GoodIn lw_tbl (.code yX5_embedding cX5_embedding 4 (some .int) :: ([] : List Cond)) from goodIn_p _ [552] rfl (by decide +kernel)) (gV_3)
set_option maxRecDepth 20000 in
theorem gL_X5_embedding_n : GoodIn lw_tbl (wsV R_law 141 RX5 yX5_embedding wsX5_embedding_n) := goodIn_app (goodIn_of _ (by decide +kernel)) gW_wsX5_embedding_n
set_option maxRecDepth 20000 in
theorem gW_wsX6_embedding : GoodIn lw_tbl wsX6_embedding := goodIn_p _ [923, 737, 700, 707, 711] rfl (by decide +kernel)
set_option maxRecDepth 20000 in
theorem gL_X6_embedding : GoodIn lw_tbl (wsV R_law 144 RX6 yX6_embedding wsX6_embedding) := goodIn_app (goodIn_of _ (by decide +kernel)) gW_wsX6_embedding
set_option maxRecDepth 20000 in
theorem gW_wsX5_embedding : GoodIn lw_tbl wsX5_embedding := goodIn_p _ [552, 214, 555, 238] rfl (by decide +kernel)
set_option maxRecDepth 20000 in
theorem gL_X5_embedding : GoodIn lw_tbl (wsV R_law 141 RX5 yX5_embedding wsX5_embedding) := goodIn_app (goodIn_of _ (by decide +kernel)) gW_wsX5_embedding
set_option maxRecDepth 20000 in
theorem gW_wsX5_quotient_n : GoodIn lw_tbl wsX5_quotient_n := goodIn_ca (show GoodIn lw_tbl (.code yX5_quotient cX5_quotient 5 (some .int) :: ([] : List Cond)) from goodIn_p _ [560] rfl (by decide +kernel)) (gV_3)
set_option maxRecDepth 20000 in
theorem gL_X5_quotient_n : GoodIn lw_tbl (wsV R_law 145 RX5 yX5_quotient wsX5_quotient_n) := goodIn_app (goodIn_of _ (by decide +kernel)) gW_wsX5_quotient_n
set_option maxRecDepth 20000 in
theorem gW_wsX6_quotient : GoodIn lw_tbl wsX6_quotient := goodIn_p _ [928, 737, 700, 707, 711, 772, 720, 776, 725, 879, 812, 842, 834, 824, 729] rfl (by decide +kernel)
set_option maxRecDepth 20000 in
theorem gL_X6_quotient : GoodIn lw_tbl (wsV R_law 148 RX6 yX6_quotient wsX6_quotient) := goodIn_app (goodIn_of _ (by decide +kernel)) gW_wsX6_quotient
set_option maxRecDepth 20000 in
theorem gW_wsX5_quotient : GoodIn lw_tbl wsX5_quotient := goodIn_p _ [560, 214, 265, 268, 271, 139, 276, 564, 375, 222, 281, 225, 146, 56, 206] rfl (by decide +kernel)
set_option maxRecDepth 20000 in
theorem gL_X5_quotient : GoodIn lw_tbl (wsV R_law 145 RX5 yX5_quotient wsX5_quotient) := goodIn_app (goodIn_of _ (by decide +kernel)) gW_wsX5_quotient
set_option maxRecDepth 20000 in
theorem gW_wsX5_madeByKernel_n : GoodIn lw_tbl wsX5_madeByKernel_n := goodIn_ca (show GoodIn lw_tbl (.code yX5_madeByKernel cX5_madeByKernel 3 (some (.object "PointRings$Curve")) :: ([] : List Cond)) from goodIn_p _ [573] rfl (by decide +kernel)) (gV_3)
set_option maxRecDepth 20000 in
theorem gV_98 : GoodIn lw_tbl (wsV RX5 193 RX5 yX5_madeByKernel wsX5_madeByKernel_n) := goodIn_app (goodIn_of _ (by decide +kernel)) gW_wsX5_madeByKernel_n
set_option maxRecDepth 20000 in
theorem gW_wsX5_image_n : GoodIn lw_tbl wsX5_image_n := goodIn_ca (show GoodIn lw_tbl (.code yX5_image cX5_image 5 (some .int) :: ([] : List Cond)) from goodIn_p _ [569] rfl (by decide +kernel)) (gV_98)
set_option maxRecDepth 20000 in
theorem gL_X5_image_n : GoodIn lw_tbl (wsV R_law 149 RX5 yX5_image wsX5_image_n) := goodIn_app (goodIn_of _ (by decide +kernel)) gW_wsX5_image_n
set_option maxRecDepth 20000 in
theorem gW_wsX6_image : GoodIn lw_tbl wsX6_image := goodIn_p _ [933, 700, 737, 707, 711, 772, 720, 776, 725, 824] rfl (by decide +kernel)
set_option maxRecDepth 20000 in
theorem gL_X6_image : GoodIn lw_tbl (wsV R_law 152 RX6 yX6_image wsX6_image) := goodIn_app (goodIn_of _ (by decide +kernel)) gW_wsX6_image
set_option maxRecDepth 20000 in
theorem gW_wsX5_image : GoodIn lw_tbl wsX5_image := goodIn_p _ [569, 573, 214, 265, 268, 271, 139, 276, 577, 375, 222, 281, 225] rfl (by decide +kernel)
set_option maxRecDepth 20000 in
theorem gL_X5_image : GoodIn lw_tbl (wsV R_law 149 RX5 yX5_image wsX5_image) := goodIn_app (goodIn_of _ (by decide +kernel)) gW_wsX5_image
set_option maxRecDepth 20000 in
theorem gW_wsX5_kernel_n : GoodIn lw_tbl wsX5_kernel_n := goodIn_ca (show GoodIn lw_tbl (.code yX5_kernel cX5_kernel 4 (some .int) :: ([] : List Cond)) from goodIn_p _ [581] rfl (by decide +kernel)) (gV_98)
set_option maxRecDepth 20000 in
theorem gL_X5_kernel_n : GoodIn lw_tbl (wsV R_law 153 RX5 yX5_kernel wsX5_kernel_n) := goodIn_app (goodIn_of _ (by decide +kernel)) gW_wsX5_kernel_n
set_option maxRecDepth 20000 in
theorem gW_wsX6_kernel : GoodIn lw_tbl wsX6_kernel := goodIn_p _ [937, 700] rfl (by decide +kernel)
set_option maxRecDepth 20000 in
theorem gL_X6_kernel : GoodIn lw_tbl (wsV R_law 156 RX6 yX6_kernel wsX6_kernel) := goodIn_app (goodIn_of _ (by decide +kernel)) gW_wsX6_kernel
set_option maxRecDepth 20000 in
theorem gW_wsX5_kernel : GoodIn lw_tbl wsX5_kernel := goodIn_p _ [581, 573, 214] rfl (by decide +kernel)
set_option maxRecDepth 20000 in
theorem gL_X5_kernel : GoodIn lw_tbl (wsV R_law 153 RX5 yX5_kernel wsX5_kernel) := goodIn_app (goodIn_of _ (by decide +kernel)) gW_wsX5_kernel
set_option maxRecDepth 20000 in
theorem gW_wsX5_primeOrder_n : GoodIn lw_tbl wsX5_primeOrder_n := goodIn_p _ [589] rfl (by decide +kernel)
set_option maxRecDepth 20000 in
theorem gV_106 : GoodIn lw_tbl (wsV RX5 208 RX5 yX5_primeOrder wsX5_primeOrder_n) := goodIn_app (goodIn_of _ (by decide +kernel)) gW_wsX5_primeOrder_n
set_option maxRecDepth 20000 in
theorem gW_wsX5_sign_n : GoodIn lw_tbl wsX5_sign_n := goodIn_ca (show GoodIn lw_tbl (.code yX5_sign cX5_sign 12 (some .int) :: ([] : List Cond)) from goodIn_p _ [585] rfl (by decide +kernel)) (goodIn_app gV_3 (gV_106))
set_option maxRecDepth 20000 in
theorem gL_X5_sign_n : GoodIn lw_tbl (wsV R_law 157 RX5 yX5_sign wsX5_sign_n) := goodIn_app (goodIn_of _ (by decide +kernel)) gW_wsX5_sign_n
set_option maxRecDepth 20000 in
theorem gW_wsX6_sign : GoodIn lw_tbl wsX6_sign := goodIn_p _ [941, 737, 700, 707, 711, 772, 720, 776, 725, 879, 812, 842, 834, 824, 703, 944] rfl (by decide +kernel)
set_option maxRecDepth 20000 in
theorem gL_X6_sign : GoodIn lw_tbl (wsV R_law 161 RX6 yX6_sign wsX6_sign) := goodIn_app (goodIn_of _ (by decide +kernel)) gW_wsX6_sign
set_option maxRecDepth 20000 in
theorem gW_wsX5_sign : GoodIn lw_tbl wsX5_sign := goodIn_p _ [585, 214, 589, 265, 268, 271, 139, 276, 401, 405, 356, 293, 297, 453, 136, 387, 339, 281, 375, 222, 133] rfl (by decide +kernel)
set_option maxRecDepth 20000 in
theorem gL_X5_sign : GoodIn lw_tbl (wsV R_law 157 RX5 yX5_sign wsX5_sign) := goodIn_app (goodIn_of _ (by decide +kernel)) gW_wsX5_sign
set_option maxRecDepth 20000 in
theorem gW_wsX5_good_n : GoodIn lw_tbl wsX5_good_n := goodIn_ca (show GoodIn lw_tbl (.code yX5_good cX5_good 11 (some .int) :: ([] : List Cond)) from goodIn_p _ [594] rfl (by decide +kernel)) (goodIn_app gV_3 (gV_106))
set_option maxRecDepth 20000 in
theorem gL_X5_good_n : GoodIn lw_tbl (wsV R_law 162 RX5 yX5_good wsX5_good_n) := goodIn_app (goodIn_of _ (by decide +kernel)) gW_wsX5_good_n
set_option maxRecDepth 20000 in
theorem gW_wsX6_good : GoodIn lw_tbl wsX6_good := goodIn_p _ [948, 737, 700, 707, 711, 772, 720, 776, 725, 879, 812, 842, 834, 824, 703, 944] rfl (by decide +kernel)
set_option maxRecDepth 20000 in
theorem gL_X6_good : GoodIn lw_tbl (wsV R_law 165 RX6 yX6_good wsX6_good) := goodIn_app (goodIn_of _ (by decide +kernel)) gW_wsX6_good
set_option maxRecDepth 20000 in
theorem gW_wsX5_good : GoodIn lw_tbl wsX5_good := goodIn_p _ [594, 214, 589, 265, 268, 271, 139, 276, 401, 405, 356, 293, 297, 453, 136, 387, 339, 281, 375, 222, 133] rfl (by decide +kernel)
set_option maxRecDepth 20000 in
theorem gL_X5_good : GoodIn lw_tbl (wsV R_law 162 RX5 yX5_good wsX5_good) := goodIn_app (goodIn_of _ (by decide +kernel)) gW_wsX5_good
set_option maxRecDepth 20000 in
theorem gW_wsX5_census : GoodIn lw_tbl wsX5_census := goodIn_p _ [598, 130, 133, 136, 602, 606, 405, 356, 293, 297, 610] rfl (by decide +kernel)
set_option maxRecDepth 20000 in
theorem gL_X5_census : GoodIn lw_tbl (wsV R_law 166 RX5 yX5_census wsX5_census) := goodIn_app (goodIn_of _ (by decide +kernel)) gW_wsX5_census
set_option maxRecDepth 20000 in
theorem gW_wsX6_census : GoodIn lw_tbl wsX6_census := goodIn_p _ [952, 956, 700, 703, 711, 707, 715, 720, 725, 776, 741] rfl (by decide +kernel)
set_option maxRecDepth 20000 in
theorem gL_X6_census : GoodIn lw_tbl (wsV R_law 169 RX6 yX6_census wsX6_census) := goodIn_app (goodIn_of _ (by decide +kernel)) gW_wsX6_census
set_option maxRecDepth 20000 in
theorem gW_wsX5_kinds : GoodIn lw_tbl wsX5_kinds := goodIn_p _ [614, 130, 133, 136, 618, 606, 405, 356, 293, 297, 610] rfl (by decide +kernel)
set_option maxRecDepth 20000 in
theorem gL_X5_kinds : GoodIn lw_tbl (wsV R_law 170 RX5 yX5_kinds wsX5_kinds) := goodIn_app (goodIn_of _ (by decide +kernel)) gW_wsX5_kinds
set_option maxRecDepth 20000 in
theorem gW_wsX6_kinds : GoodIn lw_tbl wsX6_kinds := goodIn_p _ [961, 956, 700, 703, 711, 707, 715, 720, 725, 776, 741] rfl (by decide +kernel)
set_option maxRecDepth 20000 in
theorem gL_X6_kinds : GoodIn lw_tbl (wsV R_law 173 RX6 yX6_kinds wsX6_kinds) := goodIn_app (goodIn_of _ (by decide +kernel)) gW_wsX6_kinds
set_option maxRecDepth 20000 in
theorem gW_wsX5_curves : GoodIn lw_tbl wsX5_curves := goodIn_p _ [622] rfl (by decide +kernel)
set_option maxRecDepth 20000 in
theorem gL_X5_curves : GoodIn lw_tbl (wsV R_law 174 RX5 yX5_curves wsX5_curves) := goodIn_app (goodIn_of _ (by decide +kernel)) gW_wsX5_curves
set_option maxRecDepth 20000 in
theorem gW_wsX6_curves : GoodIn lw_tbl wsX6_curves := goodIn_p _ [965] rfl (by decide +kernel)
set_option maxRecDepth 20000 in
theorem gL_X6_curves : GoodIn lw_tbl (wsV R_law 178 RX6 yX6_curves wsX6_curves) := goodIn_app (goodIn_of _ (by decide +kernel)) gW_wsX6_curves
set_option maxRecDepth 20000 in
theorem gW_wsX5_drop : GoodIn lw_tbl wsX5_drop := goodIn_p _ [626] rfl (by decide +kernel)
set_option maxRecDepth 20000 in
theorem gL_X5_drop : GoodIn lw_tbl (wsV R_law 179 RX5 yX5_drop wsX5_drop) := goodIn_app (goodIn_of _ (by decide +kernel)) gW_wsX5_drop
set_option maxRecDepth 20000 in
theorem gW_wsX6_drop : GoodIn lw_tbl wsX6_drop := goodIn_p _ [969] rfl (by decide +kernel)
set_option maxRecDepth 20000 in
theorem gL_X6_drop : GoodIn lw_tbl (wsV R_law 182 RX6 yX6_drop wsX6_drop) := goodIn_app (goodIn_of _ (by decide +kernel)) gW_wsX6_drop
set_option maxRecDepth 20000 in
theorem gW_wsX5_init : GoodIn lw_tbl wsX5_init := goodIn_p _ [53, 56, 63, 69, 83] rfl (by decide +kernel)
set_option maxRecDepth 20000 in
theorem gL1_X5_init : GoodIn lw_tbl (wsX5_init) := gW_wsX5_init
set_option maxRecDepth 20000 in
theorem gW_wsX6_init : GoodIn lw_tbl wsX6_init := goodIn_p _ [631, 56] rfl (by decide +kernel)
set_option maxRecDepth 20000 in
theorem gL1_X6_init : GoodIn lw_tbl (wsX6_init) := gW_wsX6_init
