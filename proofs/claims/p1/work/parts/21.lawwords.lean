def RL : String := "PointRingsLaw"
abbrev cL_law : ByteArray := code
set_option maxRecDepth 20000 in
theorem gL1_X5_curve : GoodIn lw_tbl (wsV R_law 13 RX5 yX5_curve wsX5_curve) := goodIn_p _ [130, 133, 136, 139, 142, 145, 149, 56, 209] (by decide +kernel) (by decide +kernel)
set_option maxRecDepth 20000 in
theorem gL1_X6_curve : GoodIn lw_tbl (wsV R_law 17 RX6 yX6_curve wsX6_curve) := goodIn_p _ [692, 695, 700, 703, 707, 711, 715, 720, 725, 729] (by decide +kernel) (by decide +kernel)
set_option maxRecDepth 20000 in
theorem gL1_X5_told_n : GoodIn lw_tbl (wsV R_law 18 RX5 yX5_told wsX5_told_n) := goodIn_p _ [213, 217] (by decide +kernel) (by decide +kernel)
set_option maxRecDepth 20000 in
theorem gL1_X6_told_n : GoodIn lw_tbl (wsV R_law 22 RX6 yX6_told wsX6_told_n) := goodIn_p _ [733, 737, 700] (by decide +kernel) (by decide +kernel)
set_option maxRecDepth 20000 in
theorem gL1_X5_twist_n : GoodIn lw_tbl (wsV R_law 23 RX5 yX5_twist wsX5_twist_n) := goodIn_p _ [245, 217] (by decide +kernel) (by decide +kernel)
set_option maxRecDepth 20000 in
theorem gL1_X6_twist_n : GoodIn lw_tbl (wsV R_law 27 RX6 yX6_twist wsX6_twist_n) := goodIn_p _ [756, 737, 700] (by decide +kernel) (by decide +kernel)
set_option maxRecDepth 20000 in
theorem gL1_X5_map_n : GoodIn lw_tbl (wsV R_law 28 RX5 yX5_map wsX5_map_n) := goodIn_p _ [256, 217] (by decide +kernel) (by decide +kernel)
set_option maxRecDepth 20000 in
theorem gL1_X6_map_n : GoodIn lw_tbl (wsV R_law 31 RX6 yX6_map wsX6_map_n) := goodIn_p _ [764, 737, 700] (by decide +kernel) (by decide +kernel)
set_option maxRecDepth 20000 in
theorem gL1_X5_mapped_n : GoodIn lw_tbl (wsV R_law 32 RX5 yX5_mapped wsX5_mapped_n) := goodIn_p _ [264, 217] (by decide +kernel) (by decide +kernel)
set_option maxRecDepth 20000 in
theorem gL1_X6_mapped_n : GoodIn lw_tbl (wsV R_law 35 RX6 yX6_mapped wsX6_mapped_n) := goodIn_p _ [768, 737, 700] (by decide +kernel) (by decide +kernel)
set_option maxRecDepth 20000 in
theorem gL1_X5_root_n : GoodIn lw_tbl (wsV R_law 36 RX5 yX5_root wsX5_root_n) := goodIn_p _ [288, 217] (by decide +kernel) (by decide +kernel)
set_option maxRecDepth 20000 in
theorem gL1_X6_root_n : GoodIn lw_tbl (wsV R_law 39 RX6 yX6_root wsX6_root_n) := goodIn_p _ [780, 737, 700] (by decide +kernel) (by decide +kernel)
set_option maxRecDepth 20000 in
theorem gL1_X5_inverse_n : GoodIn lw_tbl (wsV R_law 40 RX5 yX5_inverse wsX5_inverse_n) := goodIn_p _ [300, 217] (by decide +kernel) (by decide +kernel)
set_option maxRecDepth 20000 in
theorem gL1_X6_inverse_n : GoodIn lw_tbl (wsV R_law 43 RX6 yX6_inverse wsX6_inverse_n) := goodIn_p _ [784, 737, 700] (by decide +kernel) (by decide +kernel)
set_option maxRecDepth 20000 in
theorem gL1_X5_power_n : GoodIn lw_tbl (wsV R_law 46 RX5 yX5_power wsX5_power_n) := goodIn_p _ [305, 217] (by decide +kernel) (by decide +kernel)
set_option maxRecDepth 20000 in
theorem gL1_X6_power_n : GoodIn lw_tbl (wsV R_law 50 RX6 yX6_power wsX6_power_n) := goodIn_p _ [788, 737, 700] (by decide +kernel) (by decide +kernel)
set_option maxRecDepth 20000 in
theorem gL1_X5_generator_n : GoodIn lw_tbl (wsV R_law 51 RX5 yX5_generator wsX5_generator_n) := goodIn_p _ [310, 217] (by decide +kernel) (by decide +kernel)
set_option maxRecDepth 20000 in
theorem gL1_X6_generator_n : GoodIn lw_tbl (wsV R_law 54 RX6 yX6_generator wsX6_generator_n) := goodIn_p _ [792, 737, 700] (by decide +kernel) (by decide +kernel)
set_option maxRecDepth 20000 in
theorem gL1_X5_point_n : GoodIn lw_tbl (wsV R_law 55 RX5 yX5_point wsX5_point_n) := goodIn_p _ [323, 217] (by decide +kernel) (by decide +kernel)
set_option maxRecDepth 20000 in
theorem gL1_X6_point_n : GoodIn lw_tbl (wsV R_law 58 RX6 yX6_point wsX6_point_n) := goodIn_p _ [796, 737, 700] (by decide +kernel) (by decide +kernel)
set_option maxRecDepth 20000 in
theorem gL1_X5_lift_n : GoodIn lw_tbl (wsV R_law 59 RX5 yX5_lift wsX5_lift_n) := goodIn_p _ [328, 217] (by decide +kernel) (by decide +kernel)
set_option maxRecDepth 20000 in
theorem gL1_X6_lift_n : GoodIn lw_tbl (wsV R_law 63 RX6 yX6_lift wsX6_lift_n) := goodIn_p _ [800, 737, 700] (by decide +kernel) (by decide +kernel)
set_option maxRecDepth 20000 in
theorem gL1_X5_near_n : GoodIn lw_tbl (wsV R_law 64 RX5 yX5_near wsX5_near_n) := goodIn_p _ [332, 217] (by decide +kernel) (by decide +kernel)
set_option maxRecDepth 20000 in
theorem gL1_X6_near_n : GoodIn lw_tbl (wsV R_law 67 RX6 yX6_near wsX6_near_n) := goodIn_p _ [804, 737, 700] (by decide +kernel) (by decide +kernel)
set_option maxRecDepth 20000 in
theorem gL1_X5_nth_n : GoodIn lw_tbl (wsV R_law 68 RX5 yX5_nth wsX5_nth_n) := goodIn_p _ [343, 217] (by decide +kernel) (by decide +kernel)
set_option maxRecDepth 20000 in
theorem gL1_X6_nth_n : GoodIn lw_tbl (wsV R_law 71 RX6 yX6_nth wsX6_nth_n) := goodIn_p _ [808, 737, 700] (by decide +kernel) (by decide +kernel)
set_option maxRecDepth 20000 in
theorem gL1_X5_rank_n : GoodIn lw_tbl (wsV R_law 72 RX5 yX5_rank wsX5_rank_n) := goodIn_p _ [361, 217] (by decide +kernel) (by decide +kernel)
set_option maxRecDepth 20000 in
theorem gL1_X6_rank_n : GoodIn lw_tbl (wsV R_law 75 RX6 yX6_rank wsX6_rank_n) := goodIn_p _ [816, 737, 700] (by decide +kernel) (by decide +kernel)
set_option maxRecDepth 20000 in
theorem gL1_X5_add_n : GoodIn lw_tbl (wsV R_law 76 RX5 yX5_add wsX5_add_n) := goodIn_p _ [370, 217] (by decide +kernel) (by decide +kernel)
set_option maxRecDepth 20000 in
theorem gL1_X6_add_n : GoodIn lw_tbl (wsV R_law 79 RX6 yX6_add wsX6_add_n) := goodIn_p _ [820, 737, 700] (by decide +kernel) (by decide +kernel)
set_option maxRecDepth 20000 in
theorem gL1_X5_negative_n : GoodIn lw_tbl (wsV R_law 80 RX5 yX5_negative wsX5_negative_n) := goodIn_p _ [378, 217] (by decide +kernel) (by decide +kernel)
set_option maxRecDepth 20000 in
theorem gL1_X6_negative_n : GoodIn lw_tbl (wsV R_law 83 RX6 yX6_negative wsX6_negative_n) := goodIn_p _ [830, 737, 700] (by decide +kernel) (by decide +kernel)
set_option maxRecDepth 20000 in
theorem gL1_X5_times_n : GoodIn lw_tbl (wsV R_law 84 RX5 yX5_times wsX5_times_n) := goodIn_p _ [383, 217] (by decide +kernel) (by decide +kernel)
set_option maxRecDepth 20000 in
theorem gL1_X6_times_n : GoodIn lw_tbl (wsV R_law 87 RX6 yX6_times wsX6_times_n) := goodIn_p _ [838, 737, 700] (by decide +kernel) (by decide +kernel)
set_option maxRecDepth 20000 in
theorem gL1_X5_alone_n : GoodIn lw_tbl (wsV R_law 88 RX5 yX5_alone wsX5_alone_n) := goodIn_p _ [393, 217] (by decide +kernel) (by decide +kernel)
set_option maxRecDepth 20000 in
theorem gL1_X6_alone_n : GoodIn lw_tbl (wsV R_law 91 RX6 yX6_alone wsX6_alone_n) := goodIn_p _ [846, 737, 700] (by decide +kernel) (by decide +kernel)
set_option maxRecDepth 20000 in
theorem gL1_X5_count_n : GoodIn lw_tbl (wsV R_law 92 RX5 yX5_count wsX5_count_n) := goodIn_p _ [397, 217] (by decide +kernel) (by decide +kernel)
set_option maxRecDepth 20000 in
theorem gL1_X6_count_n : GoodIn lw_tbl (wsV R_law 95 RX6 yX6_count wsX6_count_n) := goodIn_p _ [850, 737, 700] (by decide +kernel) (by decide +kernel)
set_option maxRecDepth 20000 in
theorem gL1_X5_countOver_n : GoodIn lw_tbl (wsV R_law 96 RX5 yX5_countOver wsX5_countOver_n) := goodIn_p _ [409, 217] (by decide +kernel) (by decide +kernel)
set_option maxRecDepth 20000 in
theorem gL1_X6_countOver_n : GoodIn lw_tbl (wsV R_law 100 RX6 yX6_countOver wsX6_countOver_n) := goodIn_p _ [854, 737, 700] (by decide +kernel) (by decide +kernel)
set_option maxRecDepth 20000 in
theorem gL1_X5_bound_n : GoodIn lw_tbl (wsV R_law 101 RX5 yX5_bound wsX5_bound_n) := goodIn_p _ [415, 217] (by decide +kernel) (by decide +kernel)
set_option maxRecDepth 20000 in
theorem gL1_X6_bound_n : GoodIn lw_tbl (wsV R_law 104 RX6 yX6_bound wsX6_bound_n) := goodIn_p _ [859, 737, 700] (by decide +kernel) (by decide +kernel)
set_option maxRecDepth 20000 in
theorem gL1_X5_proof_n : GoodIn lw_tbl (wsV R_law 105 RX5 yX5_proof wsX5_proof_n) := goodIn_p _ [422, 217] (by decide +kernel) (by decide +kernel)
set_option maxRecDepth 20000 in
theorem gL1_X6_proof_n : GoodIn lw_tbl (wsV R_law 108 RX6 yX6_proof wsX6_proof_n) := goodIn_p _ [871, 737, 700] (by decide +kernel) (by decide +kernel)
set_option maxRecDepth 20000 in
theorem gL1_X5_supersingular_n : GoodIn lw_tbl (wsV R_law 109 RX5 yX5_supersingular wsX5_supersingular_n) := goodIn_p _ [481, 217] (by decide +kernel) (by decide +kernel)
set_option maxRecDepth 20000 in
theorem gL1_X6_supersingular_n : GoodIn lw_tbl (wsV R_law 112 RX6 yX6_supersingular wsX6_supersingular_n) := goodIn_p _ [883, 737, 700] (by decide +kernel) (by decide +kernel)
set_option maxRecDepth 20000 in
theorem gL1_X5_order_n : GoodIn lw_tbl (wsV R_law 113 RX5 yX5_order wsX5_order_n) := goodIn_p _ [485, 217] (by decide +kernel) (by decide +kernel)
set_option maxRecDepth 20000 in
theorem gL1_X6_order_n : GoodIn lw_tbl (wsV R_law 116 RX6 yX6_order wsX6_order_n) := goodIn_p _ [887, 737, 700] (by decide +kernel) (by decide +kernel)
set_option maxRecDepth 20000 in
theorem gL1_X5_ofOrder_n : GoodIn lw_tbl (wsV R_law 117 RX5 yX5_ofOrder wsX5_ofOrder_n) := goodIn_p _ [490, 217] (by decide +kernel) (by decide +kernel)
set_option maxRecDepth 20000 in
theorem gL1_X6_ofOrder_n : GoodIn lw_tbl (wsV R_law 120 RX6 yX6_ofOrder wsX6_ofOrder_n) := goodIn_p _ [891, 737, 700] (by decide +kernel) (by decide +kernel)
set_option maxRecDepth 20000 in
theorem gL1_X5_torsion_n : GoodIn lw_tbl (wsV R_law 121 RX5 yX5_torsion wsX5_torsion_n) := goodIn_p _ [503, 217] (by decide +kernel) (by decide +kernel)
set_option maxRecDepth 20000 in
theorem gL1_X6_torsion_n : GoodIn lw_tbl (wsV R_law 124 RX6 yX6_torsion wsX6_torsion_n) := goodIn_p _ [895, 737, 700] (by decide +kernel) (by decide +kernel)
set_option maxRecDepth 20000 in
theorem gL1_X5_made_n : GoodIn lw_tbl (wsV R_law 125 RX5 yX5_made wsX5_made_n) := goodIn_p _ [508, 217] (by decide +kernel) (by decide +kernel)
set_option maxRecDepth 20000 in
theorem gL1_X6_made_n : GoodIn lw_tbl (wsV R_law 128 RX6 yX6_made wsX6_made_n) := goodIn_p _ [899, 737, 700] (by decide +kernel) (by decide +kernel)
set_option maxRecDepth 20000 in
theorem gL1_X5_halves_n : GoodIn lw_tbl (wsV R_law 129 RX5 yX5_halves wsX5_halves_n) := goodIn_p _ [520, 217] (by decide +kernel) (by decide +kernel)
set_option maxRecDepth 20000 in
theorem gL1_X6_halves_n : GoodIn lw_tbl (wsV R_law 132 RX6 yX6_halves wsX6_halves_n) := goodIn_p _ [911, 737, 700] (by decide +kernel) (by decide +kernel)
set_option maxRecDepth 20000 in
theorem gL1_X5_half_n : GoodIn lw_tbl (wsV R_law 133 RX5 yX5_half wsX5_half_n) := goodIn_p _ [536, 217] (by decide +kernel) (by decide +kernel)
set_option maxRecDepth 20000 in
theorem gL1_X6_half_n : GoodIn lw_tbl (wsV R_law 136 RX6 yX6_half wsX6_half_n) := goodIn_p _ [915, 737, 700] (by decide +kernel) (by decide +kernel)
set_option maxRecDepth 20000 in
theorem gL1_X5_log_n : GoodIn lw_tbl (wsV R_law 137 RX5 yX5_log wsX5_log_n) := goodIn_p _ [544, 217] (by decide +kernel) (by decide +kernel)
set_option maxRecDepth 20000 in
theorem gL1_X6_log_n : GoodIn lw_tbl (wsV R_law 140 RX6 yX6_log wsX6_log_n) := goodIn_p _ [919, 737, 700] (by decide +kernel) (by decide +kernel)
set_option maxRecDepth 20000 in
theorem gL1_X5_embedding_n : GoodIn lw_tbl (wsV R_law 141 RX5 yX5_embedding wsX5_embedding_n) := goodIn_p _ [552, 217] (by decide +kernel) (by decide +kernel)
set_option maxRecDepth 20000 in
theorem gL1_X6_embedding_n : GoodIn lw_tbl (wsV R_law 144 RX6 yX6_embedding wsX6_embedding_n) := goodIn_p _ [923, 737, 700] (by decide +kernel) (by decide +kernel)
set_option maxRecDepth 20000 in
theorem gL1_X5_quotient_n : GoodIn lw_tbl (wsV R_law 145 RX5 yX5_quotient wsX5_quotient_n) := goodIn_p _ [560, 217] (by decide +kernel) (by decide +kernel)
set_option maxRecDepth 20000 in
theorem gL1_X6_quotient_n : GoodIn lw_tbl (wsV R_law 148 RX6 yX6_quotient wsX6_quotient_n) := goodIn_p _ [928, 737, 700] (by decide +kernel) (by decide +kernel)
set_option maxRecDepth 20000 in
theorem gL1_X5_image_n : GoodIn lw_tbl (wsV R_law 149 RX5 yX5_image wsX5_image_n) := goodIn_p _ [569, 573, 217] (by decide +kernel) (by decide +kernel)
set_option maxRecDepth 20000 in
theorem gL1_X6_image_n : GoodIn lw_tbl (wsV R_law 152 RX6 yX6_image wsX6_image_n) := goodIn_p _ [933, 700] (by decide +kernel) (by decide +kernel)
set_option maxRecDepth 20000 in
theorem gL1_X5_kernel_n : GoodIn lw_tbl (wsV R_law 153 RX5 yX5_kernel wsX5_kernel_n) := goodIn_p _ [581, 573, 217] (by decide +kernel) (by decide +kernel)
set_option maxRecDepth 20000 in
theorem gL1_X6_kernel_n : GoodIn lw_tbl (wsV R_law 156 RX6 yX6_kernel wsX6_kernel_n) := goodIn_p _ [937, 700] (by decide +kernel) (by decide +kernel)
set_option maxRecDepth 20000 in
theorem gL1_X5_sign_n : GoodIn lw_tbl (wsV R_law 157 RX5 yX5_sign wsX5_sign_n) := goodIn_p _ [585, 217, 589] (by decide +kernel) (by decide +kernel)
set_option maxRecDepth 20000 in
theorem gL1_X6_sign_n : GoodIn lw_tbl (wsV R_law 161 RX6 yX6_sign wsX6_sign_n) := goodIn_p _ [941, 737, 700] (by decide +kernel) (by decide +kernel)
set_option maxRecDepth 20000 in
theorem gL1_X5_good_n : GoodIn lw_tbl (wsV R_law 162 RX5 yX5_good wsX5_good_n) := goodIn_p _ [594, 217, 589] (by decide +kernel) (by decide +kernel)
set_option maxRecDepth 20000 in
theorem gL1_X6_good_n : GoodIn lw_tbl (wsV R_law 165 RX6 yX6_good wsX6_good_n) := goodIn_p _ [948, 737, 700] (by decide +kernel) (by decide +kernel)
set_option maxRecDepth 20000 in
theorem gL1_X5_census : GoodIn lw_tbl (wsV R_law 166 RX5 yX5_census wsX5_census) := goodIn_p _ [598, 133, 136, 139, 602, 606, 405, 351, 292, 296, 610] (by decide +kernel) (by decide +kernel)
set_option maxRecDepth 20000 in
theorem gL1_X6_census : GoodIn lw_tbl (wsV R_law 169 RX6 yX6_census wsX6_census) := goodIn_p _ [952, 956, 700, 703, 711, 707, 715, 720, 725, 776, 741] (by decide +kernel) (by decide +kernel)
set_option maxRecDepth 20000 in
theorem gL1_X5_kinds : GoodIn lw_tbl (wsV R_law 170 RX5 yX5_kinds wsX5_kinds) := goodIn_p _ [614, 133, 136, 139, 618, 606, 405, 351, 292, 296, 610] (by decide +kernel) (by decide +kernel)
set_option maxRecDepth 20000 in
theorem gL1_X6_kinds : GoodIn lw_tbl (wsV R_law 173 RX6 yX6_kinds wsX6_kinds) := goodIn_p _ [961, 956, 700, 703, 711, 707, 715, 720, 725, 776, 741] (by decide +kernel) (by decide +kernel)
set_option maxRecDepth 20000 in
theorem gL1_X5_curves : GoodIn lw_tbl (wsV R_law 174 RX5 yX5_curves wsX5_curves) := goodIn_p _ [622] (by decide +kernel) (by decide +kernel)
set_option maxRecDepth 20000 in
theorem gL1_X6_curves : GoodIn lw_tbl (wsV R_law 178 RX6 yX6_curves wsX6_curves) := goodIn_p _ [965] (by decide +kernel) (by decide +kernel)
set_option maxRecDepth 20000 in
theorem gL1_X5_drop_e : GoodIn lw_tbl (wsV R_law 179 RX5 yX5_drop wsX5_drop) := goodIn_p _ [626] (by decide +kernel) (by decide +kernel)
set_option maxRecDepth 20000 in
theorem gL1_X6_drop : GoodIn lw_tbl (wsV R_law 182 RX6 yX6_drop wsX6_drop) := goodIn_p _ [969] (by decide +kernel) (by decide +kernel)
set_option maxRecDepth 20000 in
theorem gL1_X5_init : GoodIn lw_tbl (wsX5_init) := goodIn_p _ [53, 56, 63, 77, 83] (by decide +kernel) (by decide +kernel)
set_option maxRecDepth 20000 in
theorem gL1_X6_init : GoodIn lw_tbl (wsX6_init) := goodIn_p _ [631, 56] (by decide +kernel) (by decide +kernel)
