theorem dX5_primeOrder_0 : decode cX5_primeOrder 0 = .ok (.aload_n 1, 1) := by decide +kernel
theorem dX5_primeOrder_1 : decode cX5_primeOrder 1 = .ok (.ifnull 11, 3) := by decide +kernel
theorem dX5_primeOrder_4 : decode cX5_primeOrder 4 = .ok (.aload_n 1, 1) := by decide +kernel
theorem dX5_primeOrder_5 : decode cX5_primeOrder 5 = .ok (.iload_n 2, 1) := by decide +kernel
theorem dX5_primeOrder_6 : decode cX5_primeOrder 6 = .ok (.invokevirtual 93, 3) := by decide +kernel
theorem dX5_primeOrder_9 : decode cX5_primeOrder 9 = .ok (.ifCond .ne 5, 3) := by decide +kernel
theorem dX5_primeOrder_12 : decode cX5_primeOrder 12 = .ok (.iconst 0, 1) := by decide +kernel
theorem dX5_primeOrder_13 : decode cX5_primeOrder 13 = .ok (.ireturn, 1) := by decide +kernel
theorem dX5_primeOrder_14 : decode cX5_primeOrder 14 = .ok (.aload_n 1, 1) := by decide +kernel
theorem dX5_primeOrder_15 : decode cX5_primeOrder 15 = .ok (.iload_n 2, 1) := by decide +kernel
theorem dX5_primeOrder_16 : decode cX5_primeOrder 16 = .ok (.aload_n 0, 1) := by decide +kernel
theorem dX5_primeOrder_17 : decode cX5_primeOrder 17 = .ok (.getfield 31, 3) := by decide +kernel
theorem dX5_primeOrder_20 : decode cX5_primeOrder 20 = .ok (.aload_n 1, 1) := by decide +kernel
theorem dX5_primeOrder_21 : decode cX5_primeOrder 21 = .ok (.invokevirtual 141, 3) := by decide +kernel
theorem dX5_primeOrder_24 : decode cX5_primeOrder 24 = .ok (.invokevirtual 161, 3) := by decide +kernel
theorem dX5_primeOrder_27 : decode cX5_primeOrder 27 = .ok (.istore_n 3, 1) := by decide +kernel
theorem dX5_primeOrder_28 : decode cX5_primeOrder 28 = .ok (.iload_n 3, 1) := by decide +kernel
theorem dX5_primeOrder_29 : decode cX5_primeOrder 29 = .ok (.invokestatic 226, 3) := by decide +kernel
theorem dX5_primeOrder_32 : decode cX5_primeOrder 32 = .ok (.ifCond .eq 7, 3) := by decide +kernel
theorem dX5_primeOrder_35 : decode cX5_primeOrder 35 = .ok (.iload_n 3, 1) := by decide +kernel
theorem dX5_primeOrder_36 : decode cX5_primeOrder 36 = .ok (.goto 4, 3) := by decide +kernel
theorem dX5_primeOrder_39 : decode cX5_primeOrder 39 = .ok (.iconst 0, 1) := by decide +kernel
theorem dX5_primeOrder_40 : decode cX5_primeOrder 40 = .ok (.ireturn, 1) := by decide +kernel
theorem dX5_pair_0 : decode cX5_pair 0 = .ok (.iload_n 0, 1) := by decide +kernel
theorem dX5_pair_1 : decode cX5_pair 1 = .ok (.bipush 14, 2) := by decide +kernel
theorem dX5_pair_3 : decode cX5_pair 3 = .ok (.ishl, 1) := by decide +kernel
theorem dX5_pair_4 : decode cX5_pair 4 = .ok (.iload_n 1, 1) := by decide +kernel
theorem dX5_pair_5 : decode cX5_pair 5 = .ok (.iadd, 1) := by decide +kernel
theorem dX5_pair_6 : decode cX5_pair 6 = .ok (.ireturn, 1) := by decide +kernel
theorem dX5_xOf_0 : decode cX5_xOf 0 = .ok (.iload_n 0, 1) := by decide +kernel
theorem dX5_xOf_1 : decode cX5_xOf 1 = .ok (.bipush 14, 2) := by decide +kernel
theorem dX5_xOf_3 : decode cX5_xOf 3 = .ok (.ishr, 1) := by decide +kernel
theorem dX5_xOf_4 : decode cX5_xOf 4 = .ok (.ireturn, 1) := by decide +kernel
theorem dX5_yOf_0 : decode cX5_yOf 0 = .ok (.iload_n 0, 1) := by decide +kernel
theorem dX5_yOf_1 : decode cX5_yOf 1 = .ok (.sipush 16383, 3) := by decide +kernel
theorem dX5_yOf_4 : decode cX5_yOf 4 = .ok (.iand, 1) := by decide +kernel
theorem dX5_yOf_5 : decode cX5_yOf 5 = .ok (.ireturn, 1) := by decide +kernel
theorem dX6_init_0 : decode cX6_init 0 = .ok (.aload_n 0, 1) := by decide +kernel
theorem dX6_init_1 : decode cX6_init 1 = .ok (.invokespecial 1, 3) := by decide +kernel
theorem dX6_init_4 : decode cX6_init 4 = .ok (.aload_n 0, 1) := by decide +kernel
theorem dX6_init_5 : decode cX6_init 5 = .ok (.sipush 10008, 3) := by decide +kernel
theorem dX6_init_8 : decode cX6_init 8 = .ok (.newarray .int, 2) := by decide +kernel
theorem dX6_init_10 : decode cX6_init 10 = .ok (.putfield 7, 3) := by decide +kernel
theorem dX6_init_13 : decode cX6_init 13 = .ok (.aload_n 0, 1) := by decide +kernel
theorem dX6_init_14 : decode cX6_init 14 = .ok (.sipush 10008, 3) := by decide +kernel
theorem dX6_init_17 : decode cX6_init 17 = .ok (.newarray .int, 2) := by decide +kernel
theorem dX6_init_19 : decode cX6_init 19 = .ok (.putfield 13, 3) := by decide +kernel
theorem dX6_init_22 : decode cX6_init 22 = .ok (.aload_n 0, 1) := by decide +kernel
theorem dX6_init_23 : decode cX6_init 23 = .ok (.sipush 10300, 3) := by decide +kernel
theorem dX6_init_26 : decode cX6_init 26 = .ok (.newarray .int, 2) := by decide +kernel
theorem dX6_init_28 : decode cX6_init 28 = .ok (.putfield 16, 3) := by decide +kernel
theorem dX6_init_31 : decode cX6_init 31 = .ok (.aload_n 0, 1) := by decide +kernel
theorem dX6_init_32 : decode cX6_init 32 = .ok (.sipush 10008, 3) := by decide +kernel
theorem dX6_init_35 : decode cX6_init 35 = .ok (.newarray .int, 2) := by decide +kernel
theorem dX6_init_37 : decode cX6_init 37 = .ok (.putfield 19, 3) := by decide +kernel
theorem dX6_init_40 : decode cX6_init 40 = .ok (.aload_n 0, 1) := by decide +kernel
theorem dX6_init_41 : decode cX6_init 41 = .ok (.bipush 24, 2) := by decide +kernel
theorem dX6_init_43 : decode cX6_init 43 = .ok (.newarray .int, 2) := by decide +kernel
theorem dX6_init_45 : decode cX6_init 45 = .ok (.putfield 22, 3) := by decide +kernel
theorem dX6_init_48 : decode cX6_init 48 = .ok (.aload_n 0, 1) := by decide +kernel
theorem dX6_init_49 : decode cX6_init 49 = .ok (.bipush 24, 2) := by decide +kernel
theorem dX6_init_51 : decode cX6_init 51 = .ok (.newarray .int, 2) := by decide +kernel
theorem dX6_init_53 : decode cX6_init 53 = .ok (.putfield 25, 3) := by decide +kernel
theorem dX6_init_56 : decode cX6_init 56 = .ok (.aload_n 0, 1) := by decide +kernel
theorem dX6_init_57 : decode cX6_init 57 = .ok (.bipush 24, 2) := by decide +kernel
theorem dX6_init_59 : decode cX6_init 59 = .ok (.newarray .int, 2) := by decide +kernel
theorem dX6_init_61 : decode cX6_init 61 = .ok (.putfield 28, 3) := by decide +kernel
theorem dX6_init_64 : decode cX6_init 64 = .ok (.aload_n 0, 1) := by decide +kernel
theorem dX6_init_65 : decode cX6_init 65 = .ok (.bipush 24, 2) := by decide +kernel
theorem dX6_init_67 : decode cX6_init 67 = .ok (.newarray .int, 2) := by decide +kernel
theorem dX6_init_69 : decode cX6_init 69 = .ok (.putfield 31, 3) := by decide +kernel
theorem dX6_init_72 : decode cX6_init 72 = .ok (.aload_n 0, 1) := by decide +kernel
theorem dX6_init_73 : decode cX6_init 73 = .ok (.bipush 24, 2) := by decide +kernel
theorem dX6_init_75 : decode cX6_init 75 = .ok (.newarray .int, 2) := by decide +kernel
theorem dX6_init_77 : decode cX6_init 77 = .ok (.putfield 34, 3) := by decide +kernel
theorem dX6_init_80 : decode cX6_init 80 = .ok (.aload_n 0, 1) := by decide +kernel
theorem dX6_init_81 : decode cX6_init 81 = .ok (.bipush 24, 2) := by decide +kernel
theorem dX6_init_83 : decode cX6_init 83 = .ok (.newarray .int, 2) := by decide +kernel
theorem dX6_init_85 : decode cX6_init 85 = .ok (.putfield 37, 3) := by decide +kernel
theorem dX6_init_88 : decode cX6_init 88 = .ok (.aload_n 0, 1) := by decide +kernel
theorem dX6_init_89 : decode cX6_init 89 = .ok (.sipush 10300, 3) := by decide +kernel
theorem dX6_init_92 : decode cX6_init 92 = .ok (.newarray .boolean, 2) := by decide +kernel
theorem dX6_init_94 : decode cX6_init 94 = .ok (.putfield 40, 3) := by decide +kernel
theorem dX6_init_97 : decode cX6_init 97 = .ok (.aload_n 0, 1) := by decide +kernel
theorem dX6_init_98 : decode cX6_init 98 = .ok (.bipush 64, 2) := by decide +kernel
theorem dX6_init_100 : decode cX6_init 100 = .ok (.newarray .boolean, 2) := by decide +kernel
theorem dX6_init_102 : decode cX6_init 102 = .ok (.putfield 44, 3) := by decide +kernel
theorem dX6_init_105 : decode cX6_init 105 = .ok (.return_, 1) := by decide +kernel
theorem dX6_in_0 : decode cX6_in 0 = .ok (.lload_n 0, 1) := by decide +kernel
theorem dX6_in_1 : decode cX6_in 1 = .ok (.lload_n 2, 1) := by decide +kernel
theorem dX6_in_2 : decode cX6_in 2 = .ok (.lcmp, 1) := by decide +kernel
theorem dX6_in_3 : decode cX6_in 3 = .ok (.ifCond .lt 14, 3) := by decide +kernel
theorem dX6_in_6 : decode cX6_in 6 = .ok (.lload_n 0, 1) := by decide +kernel
theorem dX6_in_7 : decode cX6_in 7 = .ok (.lload 4, 2) := by decide +kernel
theorem dX6_in_9 : decode cX6_in 9 = .ok (.lcmp, 1) := by decide +kernel
theorem dX6_in_10 : decode cX6_in 10 = .ok (.ifCond .gt 7, 3) := by decide +kernel
theorem dX6_in_13 : decode cX6_in 13 = .ok (.iconst 1, 1) := by decide +kernel
theorem dX6_in_14 : decode cX6_in 14 = .ok (.goto 4, 3) := by decide +kernel
theorem dX6_in_17 : decode cX6_in 17 = .ok (.iconst 0, 1) := by decide +kernel
theorem dX6_in_18 : decode cX6_in 18 = .ok (.ireturn, 1) := by decide +kernel
theorem dX6_isPrime_0 : decode cX6_isPrime 0 = .ok (.iload_n 0, 1) := by decide +kernel
theorem dX6_isPrime_1 : decode cX6_isPrime 1 = .ok (.iconst 1, 1) := by decide +kernel
theorem dX6_isPrime_2 : decode cX6_isPrime 2 = .ok (.if_icmp .le 7, 3) := by decide +kernel
theorem dX6_isPrime_5 : decode cX6_isPrime 5 = .ok (.iconst 1, 1) := by decide +kernel
theorem dX6_isPrime_6 : decode cX6_isPrime 6 = .ok (.goto 4, 3) := by decide +kernel
theorem dX6_isPrime_9 : decode cX6_isPrime 9 = .ok (.iconst 0, 1) := by decide +kernel
theorem dX6_isPrime_10 : decode cX6_isPrime 10 = .ok (.istore_n 1, 1) := by decide +kernel
theorem dX6_isPrime_11 : decode cX6_isPrime 11 = .ok (.iconst 2, 1) := by decide +kernel
theorem dX6_isPrime_12 : decode cX6_isPrime 12 = .ok (.istore_n 2, 1) := by decide +kernel
theorem dX6_isPrime_13 : decode cX6_isPrime 13 = .ok (.iload_n 2, 1) := by decide +kernel
theorem dX6_isPrime_14 : decode cX6_isPrime 14 = .ok (.iload_n 2, 1) := by decide +kernel
theorem dX6_isPrime_15 : decode cX6_isPrime 15 = .ok (.imul, 1) := by decide +kernel
theorem dX6_isPrime_16 : decode cX6_isPrime 16 = .ok (.iload_n 0, 1) := by decide +kernel
theorem dX6_isPrime_17 : decode cX6_isPrime 17 = .ok (.if_icmp .gt 25, 3) := by decide +kernel
theorem dX6_isPrime_20 : decode cX6_isPrime 20 = .ok (.iload_n 1, 1) := by decide +kernel
theorem dX6_isPrime_21 : decode cX6_isPrime 21 = .ok (.ifCond .eq 21, 3) := by decide +kernel
theorem dX6_isPrime_24 : decode cX6_isPrime 24 = .ok (.iload_n 0, 1) := by decide +kernel
theorem dX6_isPrime_25 : decode cX6_isPrime 25 = .ok (.iload_n 2, 1) := by decide +kernel
theorem dX6_isPrime_26 : decode cX6_isPrime 26 = .ok (.irem, 1) := by decide +kernel
theorem dX6_isPrime_27 : decode cX6_isPrime 27 = .ok (.ifCond .eq 7, 3) := by decide +kernel
theorem dX6_isPrime_30 : decode cX6_isPrime 30 = .ok (.iconst 1, 1) := by decide +kernel
theorem dX6_isPrime_31 : decode cX6_isPrime 31 = .ok (.goto 4, 3) := by decide +kernel
theorem dX6_isPrime_34 : decode cX6_isPrime 34 = .ok (.iconst 0, 1) := by decide +kernel
theorem dX6_isPrime_35 : decode cX6_isPrime 35 = .ok (.istore_n 1, 1) := by decide +kernel
theorem dX6_isPrime_36 : decode cX6_isPrime 36 = .ok (.iinc 2 1, 3) := by decide +kernel
theorem dX6_isPrime_39 : decode cX6_isPrime 39 = .ok (.goto (-26), 3) := by decide +kernel
theorem dX6_isPrime_42 : decode cX6_isPrime 42 = .ok (.iload_n 1, 1) := by decide +kernel
theorem dX6_isPrime_43 : decode cX6_isPrime 43 = .ok (.ireturn, 1) := by decide +kernel
theorem dX6_takePrime_0 : decode cX6_takePrime 0 = .ok (.aload_n 0, 1) := by decide +kernel
theorem dX6_takePrime_1 : decode cX6_takePrime 1 = .ok (.iload_n 1, 1) := by decide +kernel
theorem dX6_takePrime_2 : decode cX6_takePrime 2 = .ok (.putfield 47, 3) := by decide +kernel
theorem dX6_takePrime_5 : decode cX6_takePrime 5 = .ok (.aload_n 0, 1) := by decide +kernel
theorem dX6_takePrime_6 : decode cX6_takePrime 6 = .ok (.getfield 51, 3) := by decide +kernel
theorem dX6_takePrime_9 : decode cX6_takePrime 9 = .ok (.iload_n 1, 1) := by decide +kernel
theorem dX6_takePrime_10 : decode cX6_takePrime 10 = .ok (.if_icmp .ne 4, 3) := by decide +kernel
theorem dX6_takePrime_13 : decode cX6_takePrime 13 = .ok (.return_, 1) := by decide +kernel
theorem dX6_takePrime_14 : decode cX6_takePrime 14 = .ok (.aload_n 0, 1) := by decide +kernel
theorem dX6_takePrime_15 : decode cX6_takePrime 15 = .ok (.iload_n 1, 1) := by decide +kernel
theorem dX6_takePrime_16 : decode cX6_takePrime 16 = .ok (.putfield 51, 3) := by decide +kernel
theorem dX6_takePrime_19 : decode cX6_takePrime 19 = .ok (.aload_n 0, 1) := by decide +kernel
theorem dX6_takePrime_20 : decode cX6_takePrime 20 = .ok (.iconst 0, 1) := by decide +kernel
theorem dX6_takePrime_21 : decode cX6_takePrime 21 = .ok (.putfield 54, 3) := by decide +kernel
theorem dX6_takePrime_24 : decode cX6_takePrime 24 = .ok (.aload_n 0, 1) := by decide +kernel
theorem dX6_takePrime_25 : decode cX6_takePrime 25 = .ok (.getfield 7, 3) := by decide +kernel
theorem dX6_takePrime_28 : decode cX6_takePrime 28 = .ok (.iconst 0, 1) := by decide +kernel
theorem dX6_takePrime_29 : decode cX6_takePrime 29 = .ok (.iconst 0, 1) := by decide +kernel
theorem dX6_takePrime_30 : decode cX6_takePrime 30 = .ok (.iastore, 1) := by decide +kernel
theorem dX6_takePrime_31 : decode cX6_takePrime 31 = .ok (.aload_n 0, 1) := by decide +kernel
theorem dX6_takePrime_32 : decode cX6_takePrime 32 = .ok (.getfield 7, 3) := by decide +kernel
theorem dX6_takePrime_35 : decode cX6_takePrime 35 = .ok (.iconst 1, 1) := by decide +kernel
theorem dX6_takePrime_36 : decode cX6_takePrime 36 = .ok (.iconst 1, 1) := by decide +kernel
theorem dX6_takePrime_37 : decode cX6_takePrime 37 = .ok (.iastore, 1) := by decide +kernel
theorem dX6_takePrime_38 : decode cX6_takePrime 38 = .ok (.iconst 2, 1) := by decide +kernel
theorem dX6_takePrime_39 : decode cX6_takePrime 39 = .ok (.istore_n 2, 1) := by decide +kernel
theorem dX6_takePrime_40 : decode cX6_takePrime 40 = .ok (.iload_n 2, 1) := by decide +kernel
theorem dX6_takePrime_41 : decode cX6_takePrime 41 = .ok (.iload_n 1, 1) := by decide +kernel
theorem dX6_takePrime_42 : decode cX6_takePrime 42 = .ok (.if_icmp .ge 39, 3) := by decide +kernel
theorem dX6_takePrime_45 : decode cX6_takePrime 45 = .ok (.aload_n 0, 1) := by decide +kernel
theorem dX6_takePrime_46 : decode cX6_takePrime 46 = .ok (.getfield 7, 3) := by decide +kernel
theorem dX6_takePrime_49 : decode cX6_takePrime 49 = .ok (.iload_n 2, 1) := by decide +kernel
theorem dX6_takePrime_50 : decode cX6_takePrime 50 = .ok (.iload_n 1, 1) := by decide +kernel
theorem dX6_takePrime_51 : decode cX6_takePrime 51 = .ok (.i2l, 1) := by decide +kernel
theorem dX6_takePrime_52 : decode cX6_takePrime 52 = .ok (.iload_n 1, 1) := by decide +kernel
theorem dX6_takePrime_53 : decode cX6_takePrime 53 = .ok (.iload_n 2, 1) := by decide +kernel
theorem dX6_takePrime_54 : decode cX6_takePrime 54 = .ok (.idiv, 1) := by decide +kernel
theorem dX6_takePrime_55 : decode cX6_takePrime 55 = .ok (.i2l, 1) := by decide +kernel
theorem dX6_takePrime_56 : decode cX6_takePrime 56 = .ok (.aload_n 0, 1) := by decide +kernel
theorem dX6_takePrime_57 : decode cX6_takePrime 57 = .ok (.getfield 7, 3) := by decide +kernel
theorem dX6_takePrime_60 : decode cX6_takePrime 60 = .ok (.iload_n 1, 1) := by decide +kernel
theorem dX6_takePrime_61 : decode cX6_takePrime 61 = .ok (.iload_n 2, 1) := by decide +kernel
theorem dX6_takePrime_62 : decode cX6_takePrime 62 = .ok (.irem, 1) := by decide +kernel
theorem dX6_takePrime_63 : decode cX6_takePrime 63 = .ok (.iaload, 1) := by decide +kernel
theorem dX6_takePrime_64 : decode cX6_takePrime 64 = .ok (.i2l, 1) := by decide +kernel
theorem dX6_takePrime_65 : decode cX6_takePrime 65 = .ok (.lmul, 1) := by decide +kernel
theorem dX6_takePrime_66 : decode cX6_takePrime 66 = .ok (.iload_n 1, 1) := by decide +kernel
theorem dX6_takePrime_67 : decode cX6_takePrime 67 = .ok (.i2l, 1) := by decide +kernel
theorem dX6_takePrime_68 : decode cX6_takePrime 68 = .ok (.lrem, 1) := by decide +kernel
theorem dX6_takePrime_69 : decode cX6_takePrime 69 = .ok (.lsub, 1) := by decide +kernel
theorem dX6_takePrime_70 : decode cX6_takePrime 70 = .ok (.iload_n 1, 1) := by decide +kernel
theorem dX6_takePrime_71 : decode cX6_takePrime 71 = .ok (.i2l, 1) := by decide +kernel
theorem dX6_takePrime_72 : decode cX6_takePrime 72 = .ok (.lrem, 1) := by decide +kernel
theorem dX6_takePrime_73 : decode cX6_takePrime 73 = .ok (.l2i, 1) := by decide +kernel
theorem dX6_takePrime_74 : decode cX6_takePrime 74 = .ok (.iastore, 1) := by decide +kernel
theorem dX6_takePrime_75 : decode cX6_takePrime 75 = .ok (.iinc 2 1, 3) := by decide +kernel
theorem dX6_takePrime_78 : decode cX6_takePrime 78 = .ok (.goto (-38), 3) := by decide +kernel
theorem dX6_takePrime_81 : decode cX6_takePrime 81 = .ok (.iconst 0, 1) := by decide +kernel
theorem dX6_takePrime_82 : decode cX6_takePrime 82 = .ok (.istore_n 2, 1) := by decide +kernel
theorem dX6_takePrime_83 : decode cX6_takePrime 83 = .ok (.iload_n 2, 1) := by decide +kernel
theorem dX6_takePrime_84 : decode cX6_takePrime 84 = .ok (.iload_n 1, 1) := by decide +kernel
theorem dX6_takePrime_85 : decode cX6_takePrime 85 = .ok (.if_icmp .ge 16, 3) := by decide +kernel
theorem dX6_takePrime_88 : decode cX6_takePrime 88 = .ok (.aload_n 0, 1) := by decide +kernel
theorem dX6_takePrime_89 : decode cX6_takePrime 89 = .ok (.getfield 13, 3) := by decide +kernel
theorem dX6_takePrime_92 : decode cX6_takePrime 92 = .ok (.iload_n 2, 1) := by decide +kernel
theorem dX6_takePrime_93 : decode cX6_takePrime 93 = .ok (.iconst (-1), 1) := by decide +kernel
theorem dX6_takePrime_94 : decode cX6_takePrime 94 = .ok (.iastore, 1) := by decide +kernel
theorem dX6_takePrime_95 : decode cX6_takePrime 95 = .ok (.iinc 2 1, 3) := by decide +kernel
theorem dX6_takePrime_98 : decode cX6_takePrime 98 = .ok (.goto (-15), 3) := by decide +kernel
theorem dX6_takePrime_101 : decode cX6_takePrime 101 = .ok (.iload_n 1, 1) := by decide +kernel
theorem dX6_takePrime_102 : decode cX6_takePrime 102 = .ok (.iconst 1, 1) := by decide +kernel
theorem dX6_takePrime_103 : decode cX6_takePrime 103 = .ok (.isub, 1) := by decide +kernel
theorem dX6_takePrime_104 : decode cX6_takePrime 104 = .ok (.istore_n 2, 1) := by decide +kernel
theorem dX6_takePrime_105 : decode cX6_takePrime 105 = .ok (.iload_n 2, 1) := by decide +kernel
theorem dX6_takePrime_106 : decode cX6_takePrime 106 = .ok (.ifCond .lt 24, 3) := by decide +kernel
theorem dX6_takePrime_109 : decode cX6_takePrime 109 = .ok (.aload_n 0, 1) := by decide +kernel
theorem dX6_takePrime_110 : decode cX6_takePrime 110 = .ok (.getfield 13, 3) := by decide +kernel
theorem dX6_takePrime_113 : decode cX6_takePrime 113 = .ok (.iload_n 2, 1) := by decide +kernel
theorem dX6_takePrime_114 : decode cX6_takePrime 114 = .ok (.i2l, 1) := by decide +kernel
theorem dX6_takePrime_115 : decode cX6_takePrime 115 = .ok (.iload_n 2, 1) := by decide +kernel
theorem dX6_takePrime_116 : decode cX6_takePrime 116 = .ok (.i2l, 1) := by decide +kernel
theorem dX6_takePrime_117 : decode cX6_takePrime 117 = .ok (.lmul, 1) := by decide +kernel
theorem dX6_takePrime_118 : decode cX6_takePrime 118 = .ok (.iload_n 1, 1) := by decide +kernel
theorem dX6_takePrime_119 : decode cX6_takePrime 119 = .ok (.i2l, 1) := by decide +kernel
theorem dX6_takePrime_120 : decode cX6_takePrime 120 = .ok (.lrem, 1) := by decide +kernel
theorem dX6_takePrime_121 : decode cX6_takePrime 121 = .ok (.l2i, 1) := by decide +kernel
theorem dX6_takePrime_122 : decode cX6_takePrime 122 = .ok (.iload_n 2, 1) := by decide +kernel
theorem dX6_takePrime_123 : decode cX6_takePrime 123 = .ok (.iastore, 1) := by decide +kernel
theorem dX6_takePrime_124 : decode cX6_takePrime 124 = .ok (.iinc 2 (-1), 3) := by decide +kernel
theorem dX6_takePrime_127 : decode cX6_takePrime 127 = .ok (.goto (-22), 3) := by decide +kernel
theorem dX6_takePrime_130 : decode cX6_takePrime 130 = .ok (.return_, 1) := by decide +kernel
theorem dX6_mod_0 : decode cX6_mod 0 = .ok (.lload_n 1, 1) := by decide +kernel
theorem dX6_mod_1 : decode cX6_mod 1 = .ok (.aload_n 0, 1) := by decide +kernel
theorem dX6_mod_2 : decode cX6_mod 2 = .ok (.getfield 47, 3) := by decide +kernel
theorem dX6_mod_5 : decode cX6_mod 5 = .ok (.i2l, 1) := by decide +kernel
theorem dX6_mod_6 : decode cX6_mod 6 = .ok (.lrem, 1) := by decide +kernel
theorem dX6_mod_7 : decode cX6_mod 7 = .ok (.l2i, 1) := by decide +kernel
theorem dX6_mod_8 : decode cX6_mod 8 = .ok (.istore_n 3, 1) := by decide +kernel
theorem dX6_mod_9 : decode cX6_mod 9 = .ok (.iload_n 3, 1) := by decide +kernel
theorem dX6_mod_10 : decode cX6_mod 10 = .ok (.ifCond .ge 12, 3) := by decide +kernel
theorem dX6_mod_13 : decode cX6_mod 13 = .ok (.iload_n 3, 1) := by decide +kernel
theorem dX6_mod_14 : decode cX6_mod 14 = .ok (.aload_n 0, 1) := by decide +kernel
theorem dX6_mod_15 : decode cX6_mod 15 = .ok (.getfield 47, 3) := by decide +kernel
theorem dX6_mod_18 : decode cX6_mod 18 = .ok (.iadd, 1) := by decide +kernel
theorem dX6_mod_19 : decode cX6_mod 19 = .ok (.goto 4, 3) := by decide +kernel
theorem dX6_mod_22 : decode cX6_mod 22 = .ok (.iload_n 3, 1) := by decide +kernel
theorem dX6_mod_23 : decode cX6_mod 23 = .ok (.ireturn, 1) := by decide +kernel
theorem dX6_mul_0 : decode cX6_mul 0 = .ok (.iload_n 1, 1) := by decide +kernel
theorem dX6_mul_1 : decode cX6_mul 1 = .ok (.i2l, 1) := by decide +kernel
theorem dX6_mul_2 : decode cX6_mul 2 = .ok (.iload_n 2, 1) := by decide +kernel
theorem dX6_mul_3 : decode cX6_mul 3 = .ok (.i2l, 1) := by decide +kernel
theorem dX6_mul_4 : decode cX6_mul 4 = .ok (.lmul, 1) := by decide +kernel
theorem dX6_mul_5 : decode cX6_mul 5 = .ok (.aload_n 0, 1) := by decide +kernel
theorem dX6_mul_6 : decode cX6_mul 6 = .ok (.getfield 47, 3) := by decide +kernel
theorem dX6_mul_9 : decode cX6_mul 9 = .ok (.i2l, 1) := by decide +kernel
theorem dX6_mul_10 : decode cX6_mul 10 = .ok (.lrem, 1) := by decide +kernel
theorem dX6_mul_11 : decode cX6_mul 11 = .ok (.l2i, 1) := by decide +kernel
theorem dX6_mul_12 : decode cX6_mul 12 = .ok (.ireturn, 1) := by decide +kernel
set_option maxRecDepth 20000 in
theorem ggX6_powered_X6_mul : GoodIn wsX6_powered wsX6_mul := goodIn_r _ [5, 6, 7, 8, 9, 10, 11, 12, 13, 14, 15, 16, 17, 18, 19, 20, 21, 22, 23, 24] (by decide +kernel) (by decide +kernel)
set_option maxRecDepth 20000 in
theorem gX6_powered_X6_mul : GoodIn wsX6_powered (wsV RX6 57 RX6 yX6_mul wsX6_mul) := goodIn_app (goodIn_of _ (by decide +kernel)) ggX6_powered_X6_mul
theorem dX6_powered_0 : decode cX6_powered 0 = .ok (.iconst 1, 1) := by decide +kernel
theorem dX6_powered_1 : decode cX6_powered 1 = .ok (.istore 4, 2) := by decide +kernel
theorem dX6_powered_3 : decode cX6_powered 3 = .ok (.iload_n 1, 1) := by decide +kernel
theorem dX6_powered_4 : decode cX6_powered 4 = .ok (.istore 5, 2) := by decide +kernel
theorem dX6_powered_6 : decode cX6_powered 6 = .ok (.lload_n 2, 1) := by decide +kernel
theorem dX6_powered_7 : decode cX6_powered 7 = .ok (.lstore 6, 2) := by decide +kernel
theorem dX6_powered_9 : decode cX6_powered 9 = .ok (.lload 6, 2) := by decide +kernel
theorem dX6_powered_11 : decode cX6_powered 11 = .ok (.lconst 0, 1) := by decide +kernel
theorem dX6_powered_12 : decode cX6_powered 12 = .ok (.lcmp, 1) := by decide +kernel
theorem dX6_powered_13 : decode cX6_powered 13 = .ok (.ifCond .le 46, 3) := by decide +kernel
theorem dX6_powered_16 : decode cX6_powered 16 = .ok (.lload 6, 2) := by decide +kernel
theorem dX6_powered_18 : decode cX6_powered 18 = .ok (.lconst 1, 1) := by decide +kernel
theorem dX6_powered_19 : decode cX6_powered 19 = .ok (.land, 1) := by decide +kernel
theorem dX6_powered_20 : decode cX6_powered 20 = .ok (.lconst 1, 1) := by decide +kernel
theorem dX6_powered_21 : decode cX6_powered 21 = .ok (.lcmp, 1) := by decide +kernel
theorem dX6_powered_22 : decode cX6_powered 22 = .ok (.ifCond .ne 14, 3) := by decide +kernel
theorem dX6_powered_25 : decode cX6_powered 25 = .ok (.aload_n 0, 1) := by decide +kernel
theorem dX6_powered_26 : decode cX6_powered 26 = .ok (.iload 4, 2) := by decide +kernel
theorem dX6_powered_28 : decode cX6_powered 28 = .ok (.iload 5, 2) := by decide +kernel
theorem dX6_powered_30 : decode cX6_powered 30 = .ok (.invokevirtual 57, 3) := by decide +kernel
theorem dX6_powered_33 : decode cX6_powered 33 = .ok (.goto 5, 3) := by decide +kernel
theorem dX6_powered_36 : decode cX6_powered 36 = .ok (.iload 4, 2) := by decide +kernel
theorem dX6_powered_38 : decode cX6_powered 38 = .ok (.istore 4, 2) := by decide +kernel
theorem dX6_powered_40 : decode cX6_powered 40 = .ok (.aload_n 0, 1) := by decide +kernel
theorem dX6_powered_41 : decode cX6_powered 41 = .ok (.iload 5, 2) := by decide +kernel
theorem dX6_powered_43 : decode cX6_powered 43 = .ok (.iload 5, 2) := by decide +kernel
theorem dX6_powered_45 : decode cX6_powered 45 = .ok (.invokevirtual 57, 3) := by decide +kernel
theorem dX6_powered_48 : decode cX6_powered 48 = .ok (.istore 5, 2) := by decide +kernel
theorem dX6_powered_50 : decode cX6_powered 50 = .ok (.lload 6, 2) := by decide +kernel
theorem dX6_powered_52 : decode cX6_powered 52 = .ok (.iconst 1, 1) := by decide +kernel
theorem dX6_powered_53 : decode cX6_powered 53 = .ok (.lshr, 1) := by decide +kernel
theorem dX6_powered_54 : decode cX6_powered 54 = .ok (.lstore 6, 2) := by decide +kernel
theorem dX6_powered_56 : decode cX6_powered 56 = .ok (.goto (-47), 3) := by decide +kernel
theorem dX6_powered_59 : decode cX6_powered 59 = .ok (.iload 4, 2) := by decide +kernel
theorem dX6_powered_61 : decode cX6_powered 61 = .ok (.ireturn, 1) := by decide +kernel
theorem dX6_noSquare_0 : decode cX6_noSquare 0 = .ok (.iconst 2, 1) := by decide +kernel
theorem dX6_noSquare_1 : decode cX6_noSquare 1 = .ok (.istore_n 1, 1) := by decide +kernel
theorem dX6_noSquare_2 : decode cX6_noSquare 2 = .ok (.aload_n 0, 1) := by decide +kernel
theorem dX6_noSquare_3 : decode cX6_noSquare 3 = .ok (.getfield 13, 3) := by decide +kernel
theorem dX6_noSquare_6 : decode cX6_noSquare 6 = .ok (.iload_n 1, 1) := by decide +kernel
theorem dX6_noSquare_7 : decode cX6_noSquare 7 = .ok (.iaload, 1) := by decide +kernel
theorem dX6_noSquare_8 : decode cX6_noSquare 8 = .ok (.iconst (-1), 1) := by decide +kernel
theorem dX6_noSquare_9 : decode cX6_noSquare 9 = .ok (.if_icmp .eq 9, 3) := by decide +kernel
theorem dX6_noSquare_12 : decode cX6_noSquare 12 = .ok (.iinc 1 1, 3) := by decide +kernel
theorem dX6_noSquare_15 : decode cX6_noSquare 15 = .ok (.goto (-13), 3) := by decide +kernel
theorem dX6_noSquare_18 : decode cX6_noSquare 18 = .ok (.iload_n 1, 1) := by decide +kernel
theorem dX6_noSquare_19 : decode cX6_noSquare 19 = .ok (.ireturn, 1) := by decide +kernel
set_option maxRecDepth 20000 in
theorem ggX6_right_X6_mul : GoodIn wsX6_right wsX6_mul := goodIn_r _ [7, 8, 13, 14, 15, 16, 17, 18, 19, 20, 21, 22, 23, 24, 25, 26, 27, 28, 29, 30] (by decide +kernel) (by decide +kernel)
set_option maxRecDepth 20000 in
theorem gX6_right_X6_mul : GoodIn wsX6_right (wsV RX6 57 RX6 yX6_mul wsX6_mul) := goodIn_app (goodIn_of _ (by decide +kernel)) ggX6_right_X6_mul
set_option maxRecDepth 20000 in
theorem ggX6_right_X6_mod : GoodIn wsX6_right wsX6_mod := goodIn_r _ [12, 8, 13, 14, 15, 16, 17, 18, 19, 20, 21, 22, 23, 24, 25, 26, 27, 28, 29, 30] (by decide +kernel) (by decide +kernel)
set_option maxRecDepth 20000 in
theorem gX6_right_X6_mod : GoodIn wsX6_right (wsV RX6 67 RX6 yX6_mod wsX6_mod) := goodIn_app (goodIn_of _ (by decide +kernel)) ggX6_right_X6_mod
theorem dX6_right_0 : decode cX6_right 0 = .ok (.aload_n 0, 1) := by decide +kernel
theorem dX6_right_1 : decode cX6_right 1 = .ok (.aload_n 0, 1) := by decide +kernel
theorem dX6_right_2 : decode cX6_right 2 = .ok (.aload_n 0, 1) := by decide +kernel
theorem dX6_right_3 : decode cX6_right 3 = .ok (.iload_n 1, 1) := by decide +kernel
theorem dX6_right_4 : decode cX6_right 4 = .ok (.iload_n 1, 1) := by decide +kernel
theorem dX6_right_5 : decode cX6_right 5 = .ok (.invokevirtual 57, 3) := by decide +kernel
theorem dX6_right_8 : decode cX6_right 8 = .ok (.iload_n 1, 1) := by decide +kernel
theorem dX6_right_9 : decode cX6_right 9 = .ok (.invokevirtual 57, 3) := by decide +kernel
theorem dX6_right_12 : decode cX6_right 12 = .ok (.i2l, 1) := by decide +kernel
theorem dX6_right_13 : decode cX6_right 13 = .ok (.aload_n 0, 1) := by decide +kernel
theorem dX6_right_14 : decode cX6_right 14 = .ok (.aload_n 0, 1) := by decide +kernel
theorem dX6_right_15 : decode cX6_right 15 = .ok (.getfield 61, 3) := by decide +kernel
theorem dX6_right_18 : decode cX6_right 18 = .ok (.iload_n 1, 1) := by decide +kernel
theorem dX6_right_19 : decode cX6_right 19 = .ok (.invokevirtual 57, 3) := by decide +kernel
theorem dX6_right_22 : decode cX6_right 22 = .ok (.i2l, 1) := by decide +kernel
theorem dX6_right_23 : decode cX6_right 23 = .ok (.ladd, 1) := by decide +kernel
theorem dX6_right_24 : decode cX6_right 24 = .ok (.aload_n 0, 1) := by decide +kernel
theorem dX6_right_25 : decode cX6_right 25 = .ok (.getfield 64, 3) := by decide +kernel
theorem dX6_right_28 : decode cX6_right 28 = .ok (.i2l, 1) := by decide +kernel
theorem dX6_right_29 : decode cX6_right 29 = .ok (.ladd, 1) := by decide +kernel
theorem dX6_right_30 : decode cX6_right 30 = .ok (.invokevirtual 67, 3) := by decide +kernel
theorem dX6_right_33 : decode cX6_right 33 = .ok (.ireturn, 1) := by decide +kernel
set_option maxRecDepth 20000 in
theorem ggX6_take_X6_takePrime : GoodIn wsX6_take wsX6_takePrime := goodIn_r _ [8, 9, 10, 3, 11, 12, 13, 14, 15, 16, 17, 18, 19, 20, 21, 22, 23, 24, 25, 26, 27, 28, 29, 30] (by decide +kernel) (by decide +kernel)
set_option maxRecDepth 20000 in
theorem gX6_take_X6_takePrime : GoodIn wsX6_take (wsV RX6 71 RX6 yX6_takePrime wsX6_takePrime) := goodIn_app (goodIn_of _ (by decide +kernel)) ggX6_take_X6_takePrime
theorem dX6_take_0 : decode cX6_take 0 = .ok (.aload_n 0, 1) := by decide +kernel
theorem dX6_take_1 : decode cX6_take 1 = .ok (.iload_n 1, 1) := by decide +kernel
theorem dX6_take_2 : decode cX6_take 2 = .ok (.invokevirtual 71, 3) := by decide +kernel
theorem dX6_take_5 : decode cX6_take 5 = .ok (.aload_n 0, 1) := by decide +kernel
theorem dX6_take_6 : decode cX6_take 6 = .ok (.getfield 61, 3) := by decide +kernel
theorem dX6_take_9 : decode cX6_take 9 = .ok (.iload_n 2, 1) := by decide +kernel
theorem dX6_take_10 : decode cX6_take 10 = .ok (.if_icmp .ne 11, 3) := by decide +kernel
theorem dX6_take_13 : decode cX6_take 13 = .ok (.aload_n 0, 1) := by decide +kernel
theorem dX6_take_14 : decode cX6_take 14 = .ok (.getfield 64, 3) := by decide +kernel
theorem dX6_take_17 : decode cX6_take 17 = .ok (.iload_n 3, 1) := by decide +kernel
theorem dX6_take_18 : decode cX6_take 18 = .ok (.if_icmp .eq 8, 3) := by decide +kernel
theorem dX6_take_21 : decode cX6_take 21 = .ok (.aload_n 0, 1) := by decide +kernel
theorem dX6_take_22 : decode cX6_take 22 = .ok (.iconst 0, 1) := by decide +kernel
theorem dX6_take_23 : decode cX6_take 23 = .ok (.putfield 54, 3) := by decide +kernel
theorem dX6_take_26 : decode cX6_take 26 = .ok (.aload_n 0, 1) := by decide +kernel
theorem dX6_take_27 : decode cX6_take 27 = .ok (.iload_n 2, 1) := by decide +kernel
theorem dX6_take_28 : decode cX6_take 28 = .ok (.putfield 61, 3) := by decide +kernel
theorem dX6_take_31 : decode cX6_take 31 = .ok (.aload_n 0, 1) := by decide +kernel
theorem dX6_take_32 : decode cX6_take 32 = .ok (.iload_n 3, 1) := by decide +kernel
theorem dX6_take_33 : decode cX6_take 33 = .ok (.putfield 64, 3) := by decide +kernel
theorem dX6_take_36 : decode cX6_take 36 = .ok (.return_, 1) := by decide +kernel
set_option maxRecDepth 20000 in
theorem ggX6_list_X6_right : GoodIn wsX6_list wsX6_right := goodIn_r _ [10, 11, 12, 13, 14, 15, 9, 16, 3, 17, 18, 19, 20, 21, 22, 23, 24, 25, 26, 27, 28, 29, 30, 31, 32, 33, 34, 35, 36, 37, 38] (by decide +kernel) (by decide +kernel)
set_option maxRecDepth 20000 in
theorem gX6_list_X6_right : GoodIn wsX6_list (wsV RX6 75 RX6 yX6_right wsX6_right) := goodIn_app (goodIn_of _ (by decide +kernel)) ggX6_list_X6_right
theorem dX6_list_0 : decode cX6_list 0 = .ok (.aload_n 0, 1) := by decide +kernel
theorem dX6_list_1 : decode cX6_list 1 = .ok (.getfield 54, 3) := by decide +kernel
theorem dX6_list_4 : decode cX6_list 4 = .ok (.ifCond .le 4, 3) := by decide +kernel
theorem dX6_list_7 : decode cX6_list 7 = .ok (.return_, 1) := by decide +kernel
theorem dX6_list_8 : decode cX6_list 8 = .ok (.aload_n 0, 1) := by decide +kernel
theorem dX6_list_9 : decode cX6_list 9 = .ok (.getfield 16, 3) := by decide +kernel
theorem dX6_list_12 : decode cX6_list 12 = .ok (.iconst 0, 1) := by decide +kernel
theorem dX6_list_13 : decode cX6_list 13 = .ok (.iconst (-1), 1) := by decide +kernel
theorem dX6_list_14 : decode cX6_list 14 = .ok (.iastore, 1) := by decide +kernel
theorem dX6_list_15 : decode cX6_list 15 = .ok (.aload_n 0, 1) := by decide +kernel
theorem dX6_list_16 : decode cX6_list 16 = .ok (.iconst 1, 1) := by decide +kernel
theorem dX6_list_17 : decode cX6_list 17 = .ok (.putfield 54, 3) := by decide +kernel
theorem dX6_list_20 : decode cX6_list 20 = .ok (.iconst 0, 1) := by decide +kernel
theorem dX6_list_21 : decode cX6_list 21 = .ok (.istore_n 1, 1) := by decide +kernel
theorem dX6_list_22 : decode cX6_list 22 = .ok (.iload_n 1, 1) := by decide +kernel
theorem dX6_list_23 : decode cX6_list 23 = .ok (.aload_n 0, 1) := by decide +kernel
theorem dX6_list_24 : decode cX6_list 24 = .ok (.getfield 47, 3) := by decide +kernel
theorem dX6_list_27 : decode cX6_list 27 = .ok (.if_icmp .ge 96, 3) := by decide +kernel
theorem dX6_list_30 : decode cX6_list 30 = .ok (.aload_n 0, 1) := by decide +kernel
theorem dX6_list_31 : decode cX6_list 31 = .ok (.getfield 19, 3) := by decide +kernel
theorem dX6_list_34 : decode cX6_list 34 = .ok (.iload_n 1, 1) := by decide +kernel
theorem dX6_list_35 : decode cX6_list 35 = .ok (.aload_n 0, 1) := by decide +kernel
theorem dX6_list_36 : decode cX6_list 36 = .ok (.getfield 54, 3) := by decide +kernel
theorem dX6_list_39 : decode cX6_list 39 = .ok (.iastore, 1) := by decide +kernel
theorem dX6_list_40 : decode cX6_list 40 = .ok (.aload_n 0, 1) := by decide +kernel
theorem dX6_list_41 : decode cX6_list 41 = .ok (.getfield 13, 3) := by decide +kernel
theorem dX6_list_44 : decode cX6_list 44 = .ok (.aload_n 0, 1) := by decide +kernel
theorem dX6_list_45 : decode cX6_list 45 = .ok (.iload_n 1, 1) := by decide +kernel
theorem dX6_list_46 : decode cX6_list 46 = .ok (.invokevirtual 75, 3) := by decide +kernel
theorem dX6_list_49 : decode cX6_list 49 = .ok (.iaload, 1) := by decide +kernel
theorem dX6_list_50 : decode cX6_list 50 = .ok (.istore_n 2, 1) := by decide +kernel
theorem dX6_list_51 : decode cX6_list 51 = .ok (.iload_n 2, 1) := by decide +kernel
theorem dX6_list_52 : decode cX6_list 52 = .ok (.iconst (-1), 1) := by decide +kernel
theorem dX6_list_53 : decode cX6_list 53 = .ok (.if_icmp .eq 64, 3) := by decide +kernel
theorem dX6_list_56 : decode cX6_list 56 = .ok (.aload_n 0, 1) := by decide +kernel
theorem dX6_list_57 : decode cX6_list 57 = .ok (.getfield 16, 3) := by decide +kernel
theorem dX6_list_60 : decode cX6_list 60 = .ok (.aload_n 0, 1) := by decide +kernel
theorem dX6_list_61 : decode cX6_list 61 = .ok (.getfield 54, 3) := by decide +kernel
theorem dX6_list_64 : decode cX6_list 64 = .ok (.sipush 16384, 3) := by decide +kernel
theorem dX6_list_67 : decode cX6_list 67 = .ok (.iload_n 1, 1) := by decide +kernel
theorem dX6_list_68 : decode cX6_list 68 = .ok (.imul, 1) := by decide +kernel
theorem dX6_list_69 : decode cX6_list 69 = .ok (.iload_n 2, 1) := by decide +kernel
theorem dX6_list_70 : decode cX6_list 70 = .ok (.iadd, 1) := by decide +kernel
theorem dX6_list_71 : decode cX6_list 71 = .ok (.iastore, 1) := by decide +kernel
theorem dX6_list_72 : decode cX6_list 72 = .ok (.aload_n 0, 1) := by decide +kernel
theorem dX6_list_73 : decode cX6_list 73 = .ok (.dup, 1) := by decide +kernel
theorem dX6_list_74 : decode cX6_list 74 = .ok (.getfield 54, 3) := by decide +kernel
theorem dX6_list_77 : decode cX6_list 77 = .ok (.iconst 1, 1) := by decide +kernel
theorem dX6_list_78 : decode cX6_list 78 = .ok (.iadd, 1) := by decide +kernel
theorem dX6_list_79 : decode cX6_list 79 = .ok (.putfield 54, 3) := by decide +kernel
theorem dX6_list_82 : decode cX6_list 82 = .ok (.iload_n 2, 1) := by decide +kernel
theorem dX6_list_83 : decode cX6_list 83 = .ok (.ifCond .le 34, 3) := by decide +kernel
theorem dX6_list_86 : decode cX6_list 86 = .ok (.aload_n 0, 1) := by decide +kernel
theorem dX6_list_87 : decode cX6_list 87 = .ok (.getfield 16, 3) := by decide +kernel
theorem dX6_list_90 : decode cX6_list 90 = .ok (.aload_n 0, 1) := by decide +kernel
theorem dX6_list_91 : decode cX6_list 91 = .ok (.getfield 54, 3) := by decide +kernel
theorem dX6_list_94 : decode cX6_list 94 = .ok (.sipush 16384, 3) := by decide +kernel
theorem dX6_list_97 : decode cX6_list 97 = .ok (.iload_n 1, 1) := by decide +kernel
theorem dX6_list_98 : decode cX6_list 98 = .ok (.imul, 1) := by decide +kernel
theorem dX6_list_99 : decode cX6_list 99 = .ok (.aload_n 0, 1) := by decide +kernel
theorem dX6_list_100 : decode cX6_list 100 = .ok (.getfield 47, 3) := by decide +kernel
theorem dX6_list_103 : decode cX6_list 103 = .ok (.iadd, 1) := by decide +kernel
theorem dX6_list_104 : decode cX6_list 104 = .ok (.iload_n 2, 1) := by decide +kernel
theorem dX6_list_105 : decode cX6_list 105 = .ok (.isub, 1) := by decide +kernel
theorem dX6_list_106 : decode cX6_list 106 = .ok (.iastore, 1) := by decide +kernel
theorem dX6_list_107 : decode cX6_list 107 = .ok (.aload_n 0, 1) := by decide +kernel
theorem dX6_list_108 : decode cX6_list 108 = .ok (.dup, 1) := by decide +kernel
theorem dX6_list_109 : decode cX6_list 109 = .ok (.getfield 54, 3) := by decide +kernel
theorem dX6_list_112 : decode cX6_list 112 = .ok (.iconst 1, 1) := by decide +kernel
theorem dX6_list_113 : decode cX6_list 113 = .ok (.iadd, 1) := by decide +kernel
theorem dX6_list_114 : decode cX6_list 114 = .ok (.putfield 54, 3) := by decide +kernel
theorem dX6_list_117 : decode cX6_list 117 = .ok (.iinc 1 1, 3) := by decide +kernel
theorem dX6_list_120 : decode cX6_list 120 = .ok (.goto (-98), 3) := by decide +kernel
theorem dX6_list_123 : decode cX6_list 123 = .ok (.return_, 1) := by decide +kernel
set_option maxRecDepth 20000 in
theorem ggX6_isPoint_X6_mul : GoodIn wsX6_isPoint wsX6_mul := goodIn_r _ [6, 1, 17, 18, 19, 20, 21, 22, 23, 24, 25, 26, 27, 28, 29, 30, 31, 32, 33, 34] (by decide +kernel) (by decide +kernel)
set_option maxRecDepth 20000 in
theorem gX6_isPoint_X6_mul : GoodIn wsX6_isPoint (wsV RX6 57 RX6 yX6_mul wsX6_mul) := goodIn_app (goodIn_of _ (by decide +kernel)) ggX6_isPoint_X6_mul
set_option maxRecDepth 20000 in
theorem ggX6_isPoint_X6_right : GoodIn wsX6_isPoint wsX6_right := goodIn_r _ [10, 11, 12, 2, 3, 4, 5, 6, 1, 13, 14, 15, 16, 17, 18, 19, 20, 21, 22, 23, 24, 25, 26, 27, 28, 29, 30, 31, 32, 33, 34] (by decide +kernel) (by decide +kernel)
set_option maxRecDepth 20000 in
theorem gX6_isPoint_X6_right : GoodIn wsX6_isPoint (wsV RX6 75 RX6 yX6_right wsX6_right) := goodIn_app (goodIn_of _ (by decide +kernel)) ggX6_isPoint_X6_right
theorem dX6_isPoint_0 : decode cX6_isPoint 0 = .ok (.iload_n 1, 1) := by decide +kernel
theorem dX6_isPoint_1 : decode cX6_isPoint 1 = .ok (.iconst (-1), 1) := by decide +kernel
theorem dX6_isPoint_2 : decode cX6_isPoint 2 = .ok (.if_icmp .ne 5, 3) := by decide +kernel
theorem dX6_isPoint_5 : decode cX6_isPoint 5 = .ok (.iconst 1, 1) := by decide +kernel
theorem dX6_isPoint_6 : decode cX6_isPoint 6 = .ok (.ireturn, 1) := by decide +kernel
theorem dX6_isPoint_7 : decode cX6_isPoint 7 = .ok (.iload_n 1, 1) := by decide +kernel
theorem dX6_isPoint_8 : decode cX6_isPoint 8 = .ok (.ifCond .lt 27, 3) := by decide +kernel
theorem dX6_isPoint_11 : decode cX6_isPoint 11 = .ok (.iload_n 1, 1) := by decide +kernel
theorem dX6_isPoint_12 : decode cX6_isPoint 12 = .ok (.sipush 16384, 3) := by decide +kernel
theorem dX6_isPoint_15 : decode cX6_isPoint 15 = .ok (.idiv, 1) := by decide +kernel
theorem dX6_isPoint_16 : decode cX6_isPoint 16 = .ok (.aload_n 0, 1) := by decide +kernel
theorem dX6_isPoint_17 : decode cX6_isPoint 17 = .ok (.getfield 47, 3) := by decide +kernel
theorem dX6_isPoint_20 : decode cX6_isPoint 20 = .ok (.if_icmp .ge 15, 3) := by decide +kernel
theorem dX6_isPoint_23 : decode cX6_isPoint 23 = .ok (.iload_n 1, 1) := by decide +kernel
theorem dX6_isPoint_24 : decode cX6_isPoint 24 = .ok (.sipush 16384, 3) := by decide +kernel
theorem dX6_isPoint_27 : decode cX6_isPoint 27 = .ok (.irem, 1) := by decide +kernel
theorem dX6_isPoint_28 : decode cX6_isPoint 28 = .ok (.aload_n 0, 1) := by decide +kernel
theorem dX6_isPoint_29 : decode cX6_isPoint 29 = .ok (.getfield 47, 3) := by decide +kernel
theorem dX6_isPoint_32 : decode cX6_isPoint 32 = .ok (.if_icmp .lt 5, 3) := by decide +kernel
theorem dX6_isPoint_35 : decode cX6_isPoint 35 = .ok (.iconst 0, 1) := by decide +kernel
theorem dX6_isPoint_36 : decode cX6_isPoint 36 = .ok (.ireturn, 1) := by decide +kernel
theorem dX6_isPoint_37 : decode cX6_isPoint 37 = .ok (.iload_n 1, 1) := by decide +kernel
theorem dX6_isPoint_38 : decode cX6_isPoint 38 = .ok (.sipush 16384, 3) := by decide +kernel
theorem dX6_isPoint_41 : decode cX6_isPoint 41 = .ok (.irem, 1) := by decide +kernel
theorem dX6_isPoint_42 : decode cX6_isPoint 42 = .ok (.istore_n 2, 1) := by decide +kernel
theorem dX6_isPoint_43 : decode cX6_isPoint 43 = .ok (.aload_n 0, 1) := by decide +kernel
theorem dX6_isPoint_44 : decode cX6_isPoint 44 = .ok (.iload_n 2, 1) := by decide +kernel
theorem dX6_isPoint_45 : decode cX6_isPoint 45 = .ok (.iload_n 2, 1) := by decide +kernel
theorem dX6_isPoint_46 : decode cX6_isPoint 46 = .ok (.invokevirtual 57, 3) := by decide +kernel
theorem dX6_isPoint_49 : decode cX6_isPoint 49 = .ok (.aload_n 0, 1) := by decide +kernel
theorem dX6_isPoint_50 : decode cX6_isPoint 50 = .ok (.iload_n 1, 1) := by decide +kernel
theorem dX6_isPoint_51 : decode cX6_isPoint 51 = .ok (.sipush 16384, 3) := by decide +kernel
theorem dX6_isPoint_54 : decode cX6_isPoint 54 = .ok (.idiv, 1) := by decide +kernel
theorem dX6_isPoint_55 : decode cX6_isPoint 55 = .ok (.invokevirtual 75, 3) := by decide +kernel
theorem dX6_isPoint_58 : decode cX6_isPoint 58 = .ok (.if_icmp .ne 7, 3) := by decide +kernel
theorem dX6_isPoint_61 : decode cX6_isPoint 61 = .ok (.iconst 1, 1) := by decide +kernel
theorem dX6_isPoint_62 : decode cX6_isPoint 62 = .ok (.goto 4, 3) := by decide +kernel
theorem dX6_isPoint_65 : decode cX6_isPoint 65 = .ok (.iconst 0, 1) := by decide +kernel
theorem dX6_isPoint_66 : decode cX6_isPoint 66 = .ok (.ireturn, 1) := by decide +kernel
theorem dX6_negativeOf_0 : decode cX6_negativeOf 0 = .ok (.iload_n 1, 1) := by decide +kernel
theorem dX6_negativeOf_1 : decode cX6_negativeOf 1 = .ok (.iconst (-1), 1) := by decide +kernel
theorem dX6_negativeOf_2 : decode cX6_negativeOf 2 = .ok (.if_icmp .ne 5, 3) := by decide +kernel
theorem dX6_negativeOf_5 : decode cX6_negativeOf 5 = .ok (.iload_n 1, 1) := by decide +kernel
theorem dX6_negativeOf_6 : decode cX6_negativeOf 6 = .ok (.ireturn, 1) := by decide +kernel
theorem dX6_negativeOf_7 : decode cX6_negativeOf 7 = .ok (.iload_n 1, 1) := by decide +kernel
theorem dX6_negativeOf_8 : decode cX6_negativeOf 8 = .ok (.sipush 16384, 3) := by decide +kernel
theorem dX6_negativeOf_11 : decode cX6_negativeOf 11 = .ok (.irem, 1) := by decide +kernel
theorem dX6_negativeOf_12 : decode cX6_negativeOf 12 = .ok (.istore_n 2, 1) := by decide +kernel
theorem dX6_negativeOf_13 : decode cX6_negativeOf 13 = .ok (.iload_n 1, 1) := by decide +kernel
theorem dX6_negativeOf_14 : decode cX6_negativeOf 14 = .ok (.iload_n 2, 1) := by decide +kernel
theorem dX6_negativeOf_15 : decode cX6_negativeOf 15 = .ok (.isub, 1) := by decide +kernel
theorem dX6_negativeOf_16 : decode cX6_negativeOf 16 = .ok (.iload_n 2, 1) := by decide +kernel
theorem dX6_negativeOf_17 : decode cX6_negativeOf 17 = .ok (.ifCond .ne 7, 3) := by decide +kernel
theorem dX6_negativeOf_20 : decode cX6_negativeOf 20 = .ok (.iconst 0, 1) := by decide +kernel
theorem dX6_negativeOf_21 : decode cX6_negativeOf 21 = .ok (.goto 9, 3) := by decide +kernel
theorem dX6_negativeOf_24 : decode cX6_negativeOf 24 = .ok (.aload_n 0, 1) := by decide +kernel
theorem dX6_negativeOf_25 : decode cX6_negativeOf 25 = .ok (.getfield 47, 3) := by decide +kernel
theorem dX6_negativeOf_28 : decode cX6_negativeOf 28 = .ok (.iload_n 2, 1) := by decide +kernel
theorem dX6_negativeOf_29 : decode cX6_negativeOf 29 = .ok (.isub, 1) := by decide +kernel
theorem dX6_negativeOf_30 : decode cX6_negativeOf 30 = .ok (.iadd, 1) := by decide +kernel
theorem dX6_negativeOf_31 : decode cX6_negativeOf 31 = .ok (.ireturn, 1) := by decide +kernel
set_option maxRecDepth 20000 in
theorem ggX6_sum_X6_mul : GoodIn wsX6_sum wsX6_mul := goodIn_r _ [10, 1, 15, 16, 17, 18, 19, 20, 21, 22, 23, 24, 25, 26, 27, 28, 29, 30, 31, 32] (by decide +kernel) (by decide +kernel)
set_option maxRecDepth 20000 in
theorem gX6_sum_X6_mul : GoodIn wsX6_sum (wsV RX6 57 RX6 yX6_mul wsX6_mul) := goodIn_app (goodIn_of _ (by decide +kernel)) ggX6_sum_X6_mul
set_option maxRecDepth 20000 in
theorem ggX6_sum_X6_mod : GoodIn wsX6_sum wsX6_mod := goodIn_r _ [14, 1, 15, 16, 17, 18, 19, 20, 21, 22, 23, 24, 25, 26, 27, 28, 29, 30, 31, 32] (by decide +kernel) (by decide +kernel)
set_option maxRecDepth 20000 in
theorem gX6_sum_X6_mod : GoodIn wsX6_sum (wsV RX6 67 RX6 yX6_mod wsX6_mod) := goodIn_app (goodIn_of _ (by decide +kernel)) ggX6_sum_X6_mod
theorem dX6_sum_0 : decode cX6_sum 0 = .ok (.iload_n 1, 1) := by decide +kernel
theorem dX6_sum_1 : decode cX6_sum 1 = .ok (.iconst (-1), 1) := by decide +kernel
theorem dX6_sum_2 : decode cX6_sum 2 = .ok (.if_icmp .eq 8, 3) := by decide +kernel
theorem dX6_sum_5 : decode cX6_sum 5 = .ok (.iload_n 2, 1) := by decide +kernel
theorem dX6_sum_6 : decode cX6_sum 6 = .ok (.iconst (-1), 1) := by decide +kernel
theorem dX6_sum_7 : decode cX6_sum 7 = .ok (.if_icmp .ne 14, 3) := by decide +kernel
theorem dX6_sum_10 : decode cX6_sum 10 = .ok (.iload_n 1, 1) := by decide +kernel
theorem dX6_sum_11 : decode cX6_sum 11 = .ok (.iconst (-1), 1) := by decide +kernel
theorem dX6_sum_12 : decode cX6_sum 12 = .ok (.if_icmp .ne 7, 3) := by decide +kernel
theorem dX6_sum_15 : decode cX6_sum 15 = .ok (.iload_n 2, 1) := by decide +kernel
theorem dX6_sum_16 : decode cX6_sum 16 = .ok (.goto 4, 3) := by decide +kernel
theorem dX6_sum_19 : decode cX6_sum 19 = .ok (.iload_n 1, 1) := by decide +kernel
theorem dX6_sum_20 : decode cX6_sum 20 = .ok (.ireturn, 1) := by decide +kernel
theorem dX6_sum_21 : decode cX6_sum 21 = .ok (.iload_n 1, 1) := by decide +kernel
theorem dX6_sum_22 : decode cX6_sum 22 = .ok (.sipush 16384, 3) := by decide +kernel
theorem dX6_sum_25 : decode cX6_sum 25 = .ok (.idiv, 1) := by decide +kernel
theorem dX6_sum_26 : decode cX6_sum 26 = .ok (.istore_n 3, 1) := by decide +kernel
theorem dX6_sum_27 : decode cX6_sum 27 = .ok (.iload_n 1, 1) := by decide +kernel
theorem dX6_sum_28 : decode cX6_sum 28 = .ok (.sipush 16384, 3) := by decide +kernel
theorem dX6_sum_31 : decode cX6_sum 31 = .ok (.irem, 1) := by decide +kernel
theorem dX6_sum_32 : decode cX6_sum 32 = .ok (.istore 4, 2) := by decide +kernel
theorem dX6_sum_34 : decode cX6_sum 34 = .ok (.iload_n 2, 1) := by decide +kernel
theorem dX6_sum_35 : decode cX6_sum 35 = .ok (.sipush 16384, 3) := by decide +kernel
theorem dX6_sum_38 : decode cX6_sum 38 = .ok (.idiv, 1) := by decide +kernel
theorem dX6_sum_39 : decode cX6_sum 39 = .ok (.istore 5, 2) := by decide +kernel
theorem dX6_sum_41 : decode cX6_sum 41 = .ok (.iload_n 2, 1) := by decide +kernel
theorem dX6_sum_42 : decode cX6_sum 42 = .ok (.sipush 16384, 3) := by decide +kernel
theorem dX6_sum_45 : decode cX6_sum 45 = .ok (.irem, 1) := by decide +kernel
theorem dX6_sum_46 : decode cX6_sum 46 = .ok (.istore 6, 2) := by decide +kernel
theorem dX6_sum_48 : decode cX6_sum 48 = .ok (.iconst 0, 1) := by decide +kernel
theorem dX6_sum_49 : decode cX6_sum 49 = .ok (.istore 7, 2) := by decide +kernel
theorem dX6_sum_51 : decode cX6_sum 51 = .ok (.iload_n 3, 1) := by decide +kernel
theorem dX6_sum_52 : decode cX6_sum 52 = .ok (.iload 5, 2) := by decide +kernel
theorem dX6_sum_54 : decode cX6_sum 54 = .ok (.if_icmp .ne 64, 3) := by decide +kernel
theorem dX6_sum_57 : decode cX6_sum 57 = .ok (.iload 4, 2) := by decide +kernel
theorem dX6_sum_59 : decode cX6_sum 59 = .ok (.iload 6, 2) := by decide +kernel
theorem dX6_sum_61 : decode cX6_sum 61 = .ok (.iadd, 1) := by decide +kernel
theorem dX6_sum_62 : decode cX6_sum 62 = .ok (.aload_n 0, 1) := by decide +kernel
theorem dX6_sum_63 : decode cX6_sum 63 = .ok (.getfield 47, 3) := by decide +kernel
theorem dX6_sum_66 : decode cX6_sum 66 = .ok (.irem, 1) := by decide +kernel
theorem dX6_sum_67 : decode cX6_sum 67 = .ok (.ifCond .ne 5, 3) := by decide +kernel
theorem dX6_sum_70 : decode cX6_sum 70 = .ok (.iconst (-1), 1) := by decide +kernel
theorem dX6_sum_71 : decode cX6_sum 71 = .ok (.ireturn, 1) := by decide +kernel
theorem dX6_sum_72 : decode cX6_sum 72 = .ok (.aload_n 0, 1) := by decide +kernel
theorem dX6_sum_73 : decode cX6_sum 73 = .ok (.aload_n 0, 1) := by decide +kernel
theorem dX6_sum_74 : decode cX6_sum 74 = .ok (.ldc2_w 79, 3) := by decide +kernel
theorem dX6_sum_77 : decode cX6_sum 77 = .ok (.aload_n 0, 1) := by decide +kernel
theorem dX6_sum_78 : decode cX6_sum 78 = .ok (.iload_n 3, 1) := by decide +kernel
theorem dX6_sum_79 : decode cX6_sum 79 = .ok (.iload_n 3, 1) := by decide +kernel
theorem dX6_sum_80 : decode cX6_sum 80 = .ok (.invokevirtual 57, 3) := by decide +kernel
theorem dX6_sum_83 : decode cX6_sum 83 = .ok (.i2l, 1) := by decide +kernel
theorem dX6_sum_84 : decode cX6_sum 84 = .ok (.lmul, 1) := by decide +kernel
theorem dX6_sum_85 : decode cX6_sum 85 = .ok (.aload_n 0, 1) := by decide +kernel
theorem dX6_sum_86 : decode cX6_sum 86 = .ok (.getfield 61, 3) := by decide +kernel
theorem dX6_sum_89 : decode cX6_sum 89 = .ok (.i2l, 1) := by decide +kernel
theorem dX6_sum_90 : decode cX6_sum 90 = .ok (.ladd, 1) := by decide +kernel
theorem dX6_sum_91 : decode cX6_sum 91 = .ok (.invokevirtual 67, 3) := by decide +kernel
theorem dX6_sum_94 : decode cX6_sum 94 = .ok (.aload_n 0, 1) := by decide +kernel
theorem dX6_sum_95 : decode cX6_sum 95 = .ok (.getfield 7, 3) := by decide +kernel
theorem dX6_sum_98 : decode cX6_sum 98 = .ok (.aload_n 0, 1) := by decide +kernel
theorem dX6_sum_99 : decode cX6_sum 99 = .ok (.ldc2_w 81, 3) := by decide +kernel
theorem dX6_sum_102 : decode cX6_sum 102 = .ok (.iload 4, 2) := by decide +kernel
theorem dX6_sum_104 : decode cX6_sum 104 = .ok (.i2l, 1) := by decide +kernel
theorem dX6_sum_105 : decode cX6_sum 105 = .ok (.lmul, 1) := by decide +kernel
theorem dX6_sum_106 : decode cX6_sum 106 = .ok (.invokevirtual 67, 3) := by decide +kernel
theorem dX6_sum_109 : decode cX6_sum 109 = .ok (.iaload, 1) := by decide +kernel
theorem dX6_sum_110 : decode cX6_sum 110 = .ok (.invokevirtual 57, 3) := by decide +kernel
theorem dX6_sum_113 : decode cX6_sum 113 = .ok (.istore 7, 2) := by decide +kernel
theorem dX6_sum_115 : decode cX6_sum 115 = .ok (.goto 35, 3) := by decide +kernel
theorem dX6_sum_118 : decode cX6_sum 118 = .ok (.aload_n 0, 1) := by decide +kernel
theorem dX6_sum_119 : decode cX6_sum 119 = .ok (.aload_n 0, 1) := by decide +kernel
theorem dX6_sum_120 : decode cX6_sum 120 = .ok (.iload 6, 2) := by decide +kernel
theorem dX6_sum_122 : decode cX6_sum 122 = .ok (.i2l, 1) := by decide +kernel
theorem dX6_sum_123 : decode cX6_sum 123 = .ok (.iload 4, 2) := by decide +kernel
theorem dX6_sum_125 : decode cX6_sum 125 = .ok (.i2l, 1) := by decide +kernel
theorem dX6_sum_126 : decode cX6_sum 126 = .ok (.lsub, 1) := by decide +kernel
theorem dX6_sum_127 : decode cX6_sum 127 = .ok (.invokevirtual 67, 3) := by decide +kernel
theorem dX6_sum_130 : decode cX6_sum 130 = .ok (.aload_n 0, 1) := by decide +kernel
theorem dX6_sum_131 : decode cX6_sum 131 = .ok (.getfield 7, 3) := by decide +kernel
theorem dX6_sum_134 : decode cX6_sum 134 = .ok (.aload_n 0, 1) := by decide +kernel
theorem dX6_sum_135 : decode cX6_sum 135 = .ok (.iload 5, 2) := by decide +kernel
theorem dX6_sum_137 : decode cX6_sum 137 = .ok (.i2l, 1) := by decide +kernel
theorem dX6_sum_138 : decode cX6_sum 138 = .ok (.iload_n 3, 1) := by decide +kernel
theorem dX6_sum_139 : decode cX6_sum 139 = .ok (.i2l, 1) := by decide +kernel
theorem dX6_sum_140 : decode cX6_sum 140 = .ok (.lsub, 1) := by decide +kernel
theorem dX6_sum_141 : decode cX6_sum 141 = .ok (.invokevirtual 67, 3) := by decide +kernel
theorem dX6_sum_144 : decode cX6_sum 144 = .ok (.iaload, 1) := by decide +kernel
theorem dX6_sum_145 : decode cX6_sum 145 = .ok (.invokevirtual 57, 3) := by decide +kernel
theorem dX6_sum_148 : decode cX6_sum 148 = .ok (.istore 7, 2) := by decide +kernel
theorem dX6_sum_150 : decode cX6_sum 150 = .ok (.aload_n 0, 1) := by decide +kernel
theorem dX6_sum_151 : decode cX6_sum 151 = .ok (.aload_n 0, 1) := by decide +kernel
theorem dX6_sum_152 : decode cX6_sum 152 = .ok (.iload 7, 2) := by decide +kernel
theorem dX6_sum_154 : decode cX6_sum 154 = .ok (.iload 7, 2) := by decide +kernel
theorem dX6_sum_156 : decode cX6_sum 156 = .ok (.invokevirtual 57, 3) := by decide +kernel
theorem dX6_sum_159 : decode cX6_sum 159 = .ok (.i2l, 1) := by decide +kernel
theorem dX6_sum_160 : decode cX6_sum 160 = .ok (.iload_n 3, 1) := by decide +kernel
theorem dX6_sum_161 : decode cX6_sum 161 = .ok (.i2l, 1) := by decide +kernel
theorem dX6_sum_162 : decode cX6_sum 162 = .ok (.lsub, 1) := by decide +kernel
theorem dX6_sum_163 : decode cX6_sum 163 = .ok (.iload 5, 2) := by decide +kernel
theorem dX6_sum_165 : decode cX6_sum 165 = .ok (.i2l, 1) := by decide +kernel
theorem dX6_sum_166 : decode cX6_sum 166 = .ok (.lsub, 1) := by decide +kernel
theorem dX6_sum_167 : decode cX6_sum 167 = .ok (.invokevirtual 67, 3) := by decide +kernel
theorem dX6_sum_170 : decode cX6_sum 170 = .ok (.istore 8, 2) := by decide +kernel
theorem dX6_sum_172 : decode cX6_sum 172 = .ok (.sipush 16384, 3) := by decide +kernel
theorem dX6_sum_175 : decode cX6_sum 175 = .ok (.iload 8, 2) := by decide +kernel
theorem dX6_sum_177 : decode cX6_sum 177 = .ok (.imul, 1) := by decide +kernel
theorem dX6_sum_178 : decode cX6_sum 178 = .ok (.aload_n 0, 1) := by decide +kernel
theorem dX6_sum_179 : decode cX6_sum 179 = .ok (.aload_n 0, 1) := by decide +kernel
theorem dX6_sum_180 : decode cX6_sum 180 = .ok (.iload 7, 2) := by decide +kernel
theorem dX6_sum_182 : decode cX6_sum 182 = .ok (.aload_n 0, 1) := by decide +kernel
theorem dX6_sum_183 : decode cX6_sum 183 = .ok (.iload_n 3, 1) := by decide +kernel
theorem dX6_sum_184 : decode cX6_sum 184 = .ok (.i2l, 1) := by decide +kernel
theorem dX6_sum_185 : decode cX6_sum 185 = .ok (.iload 8, 2) := by decide +kernel
theorem dX6_sum_187 : decode cX6_sum 187 = .ok (.i2l, 1) := by decide +kernel
theorem dX6_sum_188 : decode cX6_sum 188 = .ok (.lsub, 1) := by decide +kernel
theorem dX6_sum_189 : decode cX6_sum 189 = .ok (.invokevirtual 67, 3) := by decide +kernel
theorem dX6_sum_192 : decode cX6_sum 192 = .ok (.invokevirtual 57, 3) := by decide +kernel
theorem dX6_sum_195 : decode cX6_sum 195 = .ok (.i2l, 1) := by decide +kernel
theorem dX6_sum_196 : decode cX6_sum 196 = .ok (.iload 4, 2) := by decide +kernel
theorem dX6_sum_198 : decode cX6_sum 198 = .ok (.i2l, 1) := by decide +kernel
theorem dX6_sum_199 : decode cX6_sum 199 = .ok (.lsub, 1) := by decide +kernel
theorem dX6_sum_200 : decode cX6_sum 200 = .ok (.invokevirtual 67, 3) := by decide +kernel
theorem dX6_sum_203 : decode cX6_sum 203 = .ok (.iadd, 1) := by decide +kernel
theorem dX6_sum_204 : decode cX6_sum 204 = .ok (.ireturn, 1) := by decide +kernel
set_option maxRecDepth 20000 in
theorem ggX6_multiple_X6_negativeOf : GoodIn wsX6_multiple wsX6_negativeOf := goodIn_r _ [6, 7, 23, 24, 25, 26, 27, 28, 29, 30, 31, 32, 33, 34, 35, 36, 37, 38, 39, 40] (by decide +kernel) (by decide +kernel)
set_option maxRecDepth 20000 in
theorem gX6_multiple_X6_negativeOf : GoodIn wsX6_multiple (wsV RX6 83 RX6 yX6_negativeOf wsX6_negativeOf) := goodIn_app (goodIn_of _ (by decide +kernel)) ggX6_multiple_X6_negativeOf
set_option maxRecDepth 20000 in
theorem ggX6_multiple_X6_sum : GoodIn wsX6_multiple wsX6_sum := goodIn_r _ [11, 7, 12, 13, 14, 1, 15, 16, 17, 5, 18, 19, 20, 21, 22, 23, 24, 25, 26, 27, 28, 29, 30, 31, 32, 33, 34, 35, 36, 37, 38, 39, 40] (by decide +kernel) (by decide +kernel)
set_option maxRecDepth 20000 in
theorem gX6_multiple_X6_sum : GoodIn wsX6_multiple (wsV RX6 86 RX6 yX6_sum wsX6_sum) := goodIn_app (goodIn_of _ (by decide +kernel)) ggX6_multiple_X6_sum
theorem dX6_multiple_0 : decode cX6_multiple 0 = .ok (.iconst (-1), 1) := by decide +kernel
theorem dX6_multiple_1 : decode cX6_multiple 1 = .ok (.istore 4, 2) := by decide +kernel
theorem dX6_multiple_3 : decode cX6_multiple 3 = .ok (.lload_n 2, 1) := by decide +kernel
theorem dX6_multiple_4 : decode cX6_multiple 4 = .ok (.lconst 0, 1) := by decide +kernel
theorem dX6_multiple_5 : decode cX6_multiple 5 = .ok (.lcmp, 1) := by decide +kernel
theorem dX6_multiple_6 : decode cX6_multiple 6 = .ok (.ifCond .ge 11, 3) := by decide +kernel
theorem dX6_multiple_9 : decode cX6_multiple 9 = .ok (.aload_n 0, 1) := by decide +kernel
theorem dX6_multiple_10 : decode cX6_multiple 10 = .ok (.iload_n 1, 1) := by decide +kernel
theorem dX6_multiple_11 : decode cX6_multiple 11 = .ok (.invokevirtual 83, 3) := by decide +kernel
theorem dX6_multiple_14 : decode cX6_multiple 14 = .ok (.goto 4, 3) := by decide +kernel
theorem dX6_multiple_17 : decode cX6_multiple 17 = .ok (.iload_n 1, 1) := by decide +kernel
theorem dX6_multiple_18 : decode cX6_multiple 18 = .ok (.istore 5, 2) := by decide +kernel
theorem dX6_multiple_20 : decode cX6_multiple 20 = .ok (.lload_n 2, 1) := by decide +kernel
theorem dX6_multiple_21 : decode cX6_multiple 21 = .ok (.lstore 6, 2) := by decide +kernel
theorem dX6_multiple_23 : decode cX6_multiple 23 = .ok (.lload 6, 2) := by decide +kernel
theorem dX6_multiple_25 : decode cX6_multiple 25 = .ok (.lconst 0, 1) := by decide +kernel
theorem dX6_multiple_26 : decode cX6_multiple 26 = .ok (.lcmp, 1) := by decide +kernel
theorem dX6_multiple_27 : decode cX6_multiple 27 = .ok (.ifCond .eq 50, 3) := by decide +kernel
theorem dX6_multiple_30 : decode cX6_multiple 30 = .ok (.lload 6, 2) := by decide +kernel
theorem dX6_multiple_32 : decode cX6_multiple 32 = .ok (.ldc2_w 81, 3) := by decide +kernel
theorem dX6_multiple_35 : decode cX6_multiple 35 = .ok (.lrem, 1) := by decide +kernel
theorem dX6_multiple_36 : decode cX6_multiple 36 = .ok (.lconst 0, 1) := by decide +kernel
theorem dX6_multiple_37 : decode cX6_multiple 37 = .ok (.lcmp, 1) := by decide +kernel
theorem dX6_multiple_38 : decode cX6_multiple 38 = .ok (.ifCond .eq 14, 3) := by decide +kernel
theorem dX6_multiple_41 : decode cX6_multiple 41 = .ok (.aload_n 0, 1) := by decide +kernel
theorem dX6_multiple_42 : decode cX6_multiple 42 = .ok (.iload 4, 2) := by decide +kernel
theorem dX6_multiple_44 : decode cX6_multiple 44 = .ok (.iload 5, 2) := by decide +kernel
theorem dX6_multiple_46 : decode cX6_multiple 46 = .ok (.invokevirtual 86, 3) := by decide +kernel
theorem dX6_multiple_49 : decode cX6_multiple 49 = .ok (.goto 5, 3) := by decide +kernel
theorem dX6_multiple_52 : decode cX6_multiple 52 = .ok (.iload 4, 2) := by decide +kernel
theorem dX6_multiple_54 : decode cX6_multiple 54 = .ok (.istore 4, 2) := by decide +kernel
theorem dX6_multiple_56 : decode cX6_multiple 56 = .ok (.aload_n 0, 1) := by decide +kernel
theorem dX6_multiple_57 : decode cX6_multiple 57 = .ok (.iload 5, 2) := by decide +kernel
theorem dX6_multiple_59 : decode cX6_multiple 59 = .ok (.iload 5, 2) := by decide +kernel
theorem dX6_multiple_61 : decode cX6_multiple 61 = .ok (.invokevirtual 86, 3) := by decide +kernel
theorem dX6_multiple_64 : decode cX6_multiple 64 = .ok (.istore 5, 2) := by decide +kernel
theorem dX6_multiple_66 : decode cX6_multiple 66 = .ok (.lload 6, 2) := by decide +kernel
theorem dX6_multiple_68 : decode cX6_multiple 68 = .ok (.ldc2_w 81, 3) := by decide +kernel
theorem dX6_multiple_71 : decode cX6_multiple 71 = .ok (.ldiv, 1) := by decide +kernel
theorem dX6_multiple_72 : decode cX6_multiple 72 = .ok (.lstore 6, 2) := by decide +kernel
theorem dX6_multiple_74 : decode cX6_multiple 74 = .ok (.goto (-51), 3) := by decide +kernel
theorem dX6_multiple_77 : decode cX6_multiple 77 = .ok (.iload 4, 2) := by decide +kernel
theorem dX6_multiple_79 : decode cX6_multiple 79 = .ok (.ireturn, 1) := by decide +kernel
set_option maxRecDepth 20000 in
theorem ggX6_orderOf_X6_list : GoodIn wsX6_orderOf wsX6_list := goodIn_r _ [6, 1, 7, 8, 9, 10, 11, 12, 13, 5, 14, 15, 16, 17, 18, 19, 20, 21, 22, 23, 24, 40, 41, 42, 43, 44, 45, 46, 47, 48, 49, 50, 51, 52, 53, 54, 55, 56, 57] (by decide +kernel) (by decide +kernel)
set_option maxRecDepth 20000 in
theorem gX6_orderOf_X6_list : GoodIn wsX6_orderOf (wsV RX6 89 RX6 yX6_list wsX6_list) := goodIn_app (goodIn_of _ (by decide +kernel)) ggX6_orderOf_X6_list
set_option maxRecDepth 20000 in
theorem ggX6_orderOf_X6_multiple : GoodIn wsX6_orderOf wsX6_multiple := goodIn_r _ [28, 29, 30, 31, 32, 5, 33, 8, 34, 35, 36, 37, 38, 15, 39, 17, 18, 19, 20, 21, 22, 23, 24, 40, 41, 42, 43, 44, 45, 46, 47, 48, 49, 50, 51, 52, 53, 54, 55, 56, 57] (by decide +kernel) (by decide +kernel)
set_option maxRecDepth 20000 in
theorem gX6_orderOf_X6_multiple : GoodIn wsX6_orderOf (wsV RX6 92 RX6 yX6_multiple wsX6_multiple) := goodIn_app (goodIn_of _ (by decide +kernel)) ggX6_orderOf_X6_multiple
theorem dX6_orderOf_0 : decode cX6_orderOf 0 = .ok (.aload_n 0, 1) := by decide +kernel
theorem dX6_orderOf_1 : decode cX6_orderOf 1 = .ok (.invokevirtual 89, 3) := by decide +kernel
theorem dX6_orderOf_4 : decode cX6_orderOf 4 = .ok (.aload_n 0, 1) := by decide +kernel
theorem dX6_orderOf_5 : decode cX6_orderOf 5 = .ok (.getfield 54, 3) := by decide +kernel
theorem dX6_orderOf_8 : decode cX6_orderOf 8 = .ok (.istore_n 2, 1) := by decide +kernel
theorem dX6_orderOf_9 : decode cX6_orderOf 9 = .ok (.aload_n 0, 1) := by decide +kernel
theorem dX6_orderOf_10 : decode cX6_orderOf 10 = .ok (.getfield 54, 3) := by decide +kernel
theorem dX6_orderOf_13 : decode cX6_orderOf 13 = .ok (.istore_n 3, 1) := by decide +kernel
theorem dX6_orderOf_14 : decode cX6_orderOf 14 = .ok (.iconst 2, 1) := by decide +kernel
theorem dX6_orderOf_15 : decode cX6_orderOf 15 = .ok (.istore 4, 2) := by decide +kernel
theorem dX6_orderOf_17 : decode cX6_orderOf 17 = .ok (.iload 4, 2) := by decide +kernel
theorem dX6_orderOf_19 : decode cX6_orderOf 19 = .ok (.iload_n 3, 1) := by decide +kernel
theorem dX6_orderOf_20 : decode cX6_orderOf 20 = .ok (.if_icmp .gt 43, 3) := by decide +kernel
theorem dX6_orderOf_23 : decode cX6_orderOf 23 = .ok (.iload_n 3, 1) := by decide +kernel
theorem dX6_orderOf_24 : decode cX6_orderOf 24 = .ok (.iload 4, 2) := by decide +kernel
theorem dX6_orderOf_26 : decode cX6_orderOf 26 = .ok (.irem, 1) := by decide +kernel
theorem dX6_orderOf_27 : decode cX6_orderOf 27 = .ok (.ifCond .ne 30, 3) := by decide +kernel
theorem dX6_orderOf_30 : decode cX6_orderOf 30 = .ok (.iload_n 3, 1) := by decide +kernel
theorem dX6_orderOf_31 : decode cX6_orderOf 31 = .ok (.iload 4, 2) := by decide +kernel
theorem dX6_orderOf_33 : decode cX6_orderOf 33 = .ok (.idiv, 1) := by decide +kernel
theorem dX6_orderOf_34 : decode cX6_orderOf 34 = .ok (.istore_n 3, 1) := by decide +kernel
theorem dX6_orderOf_35 : decode cX6_orderOf 35 = .ok (.aload_n 0, 1) := by decide +kernel
theorem dX6_orderOf_36 : decode cX6_orderOf 36 = .ok (.iload_n 1, 1) := by decide +kernel
theorem dX6_orderOf_37 : decode cX6_orderOf 37 = .ok (.iload_n 2, 1) := by decide +kernel
theorem dX6_orderOf_38 : decode cX6_orderOf 38 = .ok (.iload 4, 2) := by decide +kernel
theorem dX6_orderOf_40 : decode cX6_orderOf 40 = .ok (.idiv, 1) := by decide +kernel
theorem dX6_orderOf_41 : decode cX6_orderOf 41 = .ok (.i2l, 1) := by decide +kernel
theorem dX6_orderOf_42 : decode cX6_orderOf 42 = .ok (.invokevirtual 92, 3) := by decide +kernel
theorem dX6_orderOf_45 : decode cX6_orderOf 45 = .ok (.iconst (-1), 1) := by decide +kernel
theorem dX6_orderOf_46 : decode cX6_orderOf 46 = .ok (.if_icmp .ne (-23), 3) := by decide +kernel
theorem dX6_orderOf_49 : decode cX6_orderOf 49 = .ok (.iload_n 2, 1) := by decide +kernel
theorem dX6_orderOf_50 : decode cX6_orderOf 50 = .ok (.iload 4, 2) := by decide +kernel
theorem dX6_orderOf_52 : decode cX6_orderOf 52 = .ok (.idiv, 1) := by decide +kernel
theorem dX6_orderOf_53 : decode cX6_orderOf 53 = .ok (.istore_n 2, 1) := by decide +kernel
theorem dX6_orderOf_54 : decode cX6_orderOf 54 = .ok (.goto (-31), 3) := by decide +kernel
theorem dX6_orderOf_57 : decode cX6_orderOf 57 = .ok (.iinc 4 1, 3) := by decide +kernel
theorem dX6_orderOf_60 : decode cX6_orderOf 60 = .ok (.goto (-43), 3) := by decide +kernel
theorem dX6_orderOf_63 : decode cX6_orderOf 63 = .ok (.iload_n 2, 1) := by decide +kernel
theorem dX6_orderOf_64 : decode cX6_orderOf 64 = .ok (.ireturn, 1) := by decide +kernel
set_option maxRecDepth 20000 in
theorem ggX6_isWanted_X6_in : GoodIn wsX6_isWanted wsX6_in := goodIn_r _ [6] (by decide +kernel) (by decide +kernel)
set_option maxRecDepth 20000 in
theorem gX6_isWanted_X6_in : GoodIn wsX6_isWanted (va_wsS RX6 100 yX6_in wsX6_in) := goodIn_app (goodIn_of _ (by decide +kernel)) ggX6_isWanted_X6_in
set_option maxRecDepth 20000 in
theorem ggX6_isWanted_X6_isPrime : GoodIn wsX6_isWanted wsX6_isPrime := goodIn_r _ [9] (by decide +kernel) (by decide +kernel)
set_option maxRecDepth 20000 in
theorem gX6_isWanted_X6_isPrime : GoodIn wsX6_isWanted (va_wsS RX6 104 yX6_isPrime wsX6_isPrime) := goodIn_app (goodIn_of _ (by decide +kernel)) ggX6_isWanted_X6_isPrime
theorem dX6_isWanted_0 : decode cX6_isWanted 0 = .ok (.iload_n 0, 1) := by decide +kernel
theorem dX6_isWanted_1 : decode cX6_isWanted 1 = .ok (.i2l, 1) := by decide +kernel
theorem dX6_isWanted_2 : decode cX6_isWanted 2 = .ok (.ldc2_w 96, 3) := by decide +kernel
theorem dX6_isWanted_5 : decode cX6_isWanted 5 = .ok (.ldc2_w 98, 3) := by decide +kernel
theorem dX6_isWanted_8 : decode cX6_isWanted 8 = .ok (.invokestatic 100, 3) := by decide +kernel
theorem dX6_isWanted_11 : decode cX6_isWanted 11 = .ok (.ifCond .eq 14, 3) := by decide +kernel
theorem dX6_isWanted_14 : decode cX6_isWanted 14 = .ok (.iload_n 0, 1) := by decide +kernel
theorem dX6_isWanted_15 : decode cX6_isWanted 15 = .ok (.invokestatic 104, 3) := by decide +kernel
theorem dX6_isWanted_18 : decode cX6_isWanted 18 = .ok (.ifCond .eq 7, 3) := by decide +kernel
theorem dX6_isWanted_21 : decode cX6_isWanted 21 = .ok (.iconst 1, 1) := by decide +kernel
theorem dX6_isWanted_22 : decode cX6_isWanted 22 = .ok (.goto 4, 3) := by decide +kernel
theorem dX6_isWanted_25 : decode cX6_isWanted 25 = .ok (.iconst 0, 1) := by decide +kernel
theorem dX6_isWanted_26 : decode cX6_isWanted 26 = .ok (.ireturn, 1) := by decide +kernel
set_option maxRecDepth 20000 in
theorem ggX6_split_X6_mul : GoodIn wsX6_split wsX6_mul := goodIn_r _ [9, 10, 15, 16, 17, 18, 19, 20, 21, 22, 23, 24, 25, 26, 27, 28, 29, 30, 31, 32] (by decide +kernel) (by decide +kernel)
set_option maxRecDepth 20000 in
theorem gX6_split_X6_mul : GoodIn wsX6_split (wsV RX6 57 RX6 yX6_mul wsX6_mul) := goodIn_app (goodIn_of _ (by decide +kernel)) ggX6_split_X6_mul
set_option maxRecDepth 20000 in
theorem ggX6_split_X6_mod : GoodIn wsX6_split wsX6_mod := goodIn_r _ [14, 10, 15, 16, 17, 18, 19, 20, 21, 22, 23, 24, 25, 26, 27, 28, 29, 30, 31, 32] (by decide +kernel) (by decide +kernel)
set_option maxRecDepth 20000 in
theorem gX6_split_X6_mod : GoodIn wsX6_split (wsV RX6 67 RX6 yX6_mod wsX6_mod) := goodIn_app (goodIn_of _ (by decide +kernel)) ggX6_split_X6_mod
theorem dX6_split_0 : decode cX6_split 0 = .ok (.aload_n 0, 1) := by decide +kernel
theorem dX6_split_1 : decode cX6_split 1 = .ok (.ldc2_w 108, 3) := by decide +kernel
theorem dX6_split_4 : decode cX6_split 4 = .ok (.aload_n 0, 1) := by decide +kernel
theorem dX6_split_5 : decode cX6_split 5 = .ok (.aload_n 0, 1) := by decide +kernel
theorem dX6_split_6 : decode cX6_split 6 = .ok (.aload_n 0, 1) := by decide +kernel
theorem dX6_split_7 : decode cX6_split 7 = .ok (.getfield 61, 3) := by decide +kernel
theorem dX6_split_10 : decode cX6_split 10 = .ok (.aload_n 0, 1) := by decide +kernel
theorem dX6_split_11 : decode cX6_split 11 = .ok (.getfield 61, 3) := by decide +kernel
theorem dX6_split_14 : decode cX6_split 14 = .ok (.invokevirtual 57, 3) := by decide +kernel
theorem dX6_split_17 : decode cX6_split 17 = .ok (.aload_n 0, 1) := by decide +kernel
theorem dX6_split_18 : decode cX6_split 18 = .ok (.getfield 61, 3) := by decide +kernel
theorem dX6_split_21 : decode cX6_split 21 = .ok (.invokevirtual 57, 3) := by decide +kernel
theorem dX6_split_24 : decode cX6_split 24 = .ok (.i2l, 1) := by decide +kernel
theorem dX6_split_25 : decode cX6_split 25 = .ok (.lmul, 1) := by decide +kernel
theorem dX6_split_26 : decode cX6_split 26 = .ok (.ldc2_w 110, 3) := by decide +kernel
theorem dX6_split_29 : decode cX6_split 29 = .ok (.aload_n 0, 1) := by decide +kernel
theorem dX6_split_30 : decode cX6_split 30 = .ok (.aload_n 0, 1) := by decide +kernel
theorem dX6_split_31 : decode cX6_split 31 = .ok (.getfield 64, 3) := by decide +kernel
theorem dX6_split_34 : decode cX6_split 34 = .ok (.aload_n 0, 1) := by decide +kernel
theorem dX6_split_35 : decode cX6_split 35 = .ok (.getfield 64, 3) := by decide +kernel
theorem dX6_split_38 : decode cX6_split 38 = .ok (.invokevirtual 57, 3) := by decide +kernel
theorem dX6_split_41 : decode cX6_split 41 = .ok (.i2l, 1) := by decide +kernel
theorem dX6_split_42 : decode cX6_split 42 = .ok (.lmul, 1) := by decide +kernel
theorem dX6_split_43 : decode cX6_split 43 = .ok (.ladd, 1) := by decide +kernel
theorem dX6_split_44 : decode cX6_split 44 = .ok (.invokevirtual 67, 3) := by decide +kernel
theorem dX6_split_47 : decode cX6_split 47 = .ok (.ireturn, 1) := by decide +kernel
theorem dX6_make_0 : decode cX6_make 0 = .ok (.aload_n 0, 1) := by decide +kernel
theorem dX6_make_1 : decode cX6_make 1 = .ok (.getfield 22, 3) := by decide +kernel
theorem dX6_make_4 : decode cX6_make 4 = .ok (.aload_n 0, 1) := by decide +kernel
theorem dX6_make_5 : decode cX6_make 5 = .ok (.getfield 112, 3) := by decide +kernel
theorem dX6_make_8 : decode cX6_make 8 = .ok (.iload_n 1, 1) := by decide +kernel
theorem dX6_make_9 : decode cX6_make 9 = .ok (.iastore, 1) := by decide +kernel
theorem dX6_make_10 : decode cX6_make 10 = .ok (.aload_n 0, 1) := by decide +kernel
theorem dX6_make_11 : decode cX6_make 11 = .ok (.getfield 25, 3) := by decide +kernel
theorem dX6_make_14 : decode cX6_make 14 = .ok (.aload_n 0, 1) := by decide +kernel
theorem dX6_make_15 : decode cX6_make 15 = .ok (.getfield 112, 3) := by decide +kernel
theorem dX6_make_18 : decode cX6_make 18 = .ok (.iload_n 2, 1) := by decide +kernel
theorem dX6_make_19 : decode cX6_make 19 = .ok (.iastore, 1) := by decide +kernel
theorem dX6_make_20 : decode cX6_make 20 = .ok (.aload_n 0, 1) := by decide +kernel
theorem dX6_make_21 : decode cX6_make 21 = .ok (.getfield 28, 3) := by decide +kernel
theorem dX6_make_24 : decode cX6_make 24 = .ok (.aload_n 0, 1) := by decide +kernel
theorem dX6_make_25 : decode cX6_make 25 = .ok (.getfield 112, 3) := by decide +kernel
theorem dX6_make_28 : decode cX6_make 28 = .ok (.iload_n 3, 1) := by decide +kernel
theorem dX6_make_29 : decode cX6_make 29 = .ok (.iastore, 1) := by decide +kernel
theorem dX6_make_30 : decode cX6_make 30 = .ok (.aload_n 0, 1) := by decide +kernel
theorem dX6_make_31 : decode cX6_make 31 = .ok (.getfield 31, 3) := by decide +kernel
theorem dX6_make_34 : decode cX6_make 34 = .ok (.aload_n 0, 1) := by decide +kernel
theorem dX6_make_35 : decode cX6_make 35 = .ok (.getfield 112, 3) := by decide +kernel
theorem dX6_make_38 : decode cX6_make 38 = .ok (.iconst (-1), 1) := by decide +kernel
theorem dX6_make_39 : decode cX6_make 39 = .ok (.iastore, 1) := by decide +kernel
theorem dX6_make_40 : decode cX6_make 40 = .ok (.aload_n 0, 1) := by decide +kernel
theorem dX6_make_41 : decode cX6_make 41 = .ok (.dup, 1) := by decide +kernel
theorem dX6_make_42 : decode cX6_make 42 = .ok (.getfield 112, 3) := by decide +kernel
theorem dX6_make_45 : decode cX6_make 45 = .ok (.iconst 1, 1) := by decide +kernel
theorem dX6_make_46 : decode cX6_make 46 = .ok (.iadd, 1) := by decide +kernel
theorem dX6_make_47 : decode cX6_make 47 = .ok (.putfield 112, 3) := by decide +kernel
theorem dX6_make_50 : decode cX6_make 50 = .ok (.aload_n 0, 1) := by decide +kernel
theorem dX6_make_51 : decode cX6_make 51 = .ok (.getfield 112, 3) := by decide +kernel
theorem dX6_make_54 : decode cX6_make 54 = .ok (.iconst 1, 1) := by decide +kernel
theorem dX6_make_55 : decode cX6_make 55 = .ok (.isub, 1) := by decide +kernel
theorem dX6_make_56 : decode cX6_make 56 = .ok (.ireturn, 1) := by decide +kernel
set_option maxRecDepth 20000 in
theorem ggX6_curve_X6_isWanted : GoodIn wsX6_curve wsX6_isWanted := goodIn_r _ [5, 6, 7, 8, 9, 4, 10, 11, 12, 13] (by decide +kernel) (by decide +kernel)
set_option maxRecDepth 20000 in
theorem gX6_curve_X6_isWanted : GoodIn wsX6_curve (va_wsS RX6 115 yX6_isWanted wsX6_isWanted) := goodIn_app (goodIn_of _ (by decide +kernel)) ggX6_curve_X6_isWanted
set_option maxRecDepth 20000 in
theorem ggX6_curve_X6_in : GoodIn wsX6_curve wsX6_in := goodIn_r _ [10] (by decide +kernel) (by decide +kernel)
set_option maxRecDepth 20000 in
theorem gX6_curve_X6_in : GoodIn wsX6_curve (va_wsS RX6 100 yX6_in wsX6_in) := goodIn_app (goodIn_of _ (by decide +kernel)) ggX6_curve_X6_in
set_option maxRecDepth 20000 in
theorem ggX6_curve_X6_take : GoodIn wsX6_curve wsX6_take := goodIn_r _ [17, 18, 19, 20, 21, 22, 23, 4, 24, 25, 26, 27, 28, 51, 52, 53, 54, 55, 56, 57, 58, 59, 60, 61, 62, 63, 64, 65, 66, 67, 68] (by decide +kernel) (by decide +kernel)
set_option maxRecDepth 20000 in
theorem gX6_curve_X6_take : GoodIn wsX6_curve (wsV RX6 118 RX6 yX6_take wsX6_take) := goodIn_app (goodIn_of _ (by decide +kernel)) ggX6_curve_X6_take
set_option maxRecDepth 20000 in
theorem ggX6_curve_X6_split : GoodIn wsX6_curve wsX6_split := goodIn_r _ [32, 33, 18, 34, 19, 35, 36, 37, 4, 38, 25, 39, 40, 41, 42, 51, 52, 53, 54, 55, 56, 57, 58, 59, 60, 61, 62, 63, 64, 65, 66, 67, 68] (by decide +kernel) (by decide +kernel)
set_option maxRecDepth 20000 in
theorem gX6_curve_X6_split : GoodIn wsX6_curve (wsV RX6 122 RX6 yX6_split wsX6_split) := goodIn_app (goodIn_of _ (by decide +kernel)) ggX6_curve_X6_split
set_option maxRecDepth 20000 in
theorem ggX6_curve_X6_make : GoodIn wsX6_curve wsX6_make := goodIn_r _ [46, 47, 1, 48, 49, 50, 51, 52, 53, 54, 55, 56, 57, 58, 59, 60, 61, 62, 63, 64, 65, 66, 67, 68] (by decide +kernel) (by decide +kernel)
set_option maxRecDepth 20000 in
theorem gX6_curve_X6_make : GoodIn wsX6_curve (wsV RX6 126 RX6 yX6_make wsX6_make) := goodIn_app (goodIn_of _ (by decide +kernel)) ggX6_curve_X6_make
theorem dX6_curve_0 : decode cX6_curve 0 = .ok (.iload_n 1, 1) := by decide +kernel
theorem dX6_curve_1 : decode cX6_curve 1 = .ok (.invokestatic 115, 3) := by decide +kernel
theorem dX6_curve_4 : decode cX6_curve 4 = .ok (.ifCond .eq 29, 3) := by decide +kernel
theorem dX6_curve_7 : decode cX6_curve 7 = .ok (.iload_n 2, 1) := by decide +kernel
theorem dX6_curve_8 : decode cX6_curve 8 = .ok (.i2l, 1) := by decide +kernel
theorem dX6_curve_9 : decode cX6_curve 9 = .ok (.lconst 0, 1) := by decide +kernel
theorem dX6_curve_10 : decode cX6_curve 10 = .ok (.iload_n 1, 1) := by decide +kernel
theorem dX6_curve_11 : decode cX6_curve 11 = .ok (.iconst 1, 1) := by decide +kernel
theorem dX6_curve_12 : decode cX6_curve 12 = .ok (.isub, 1) := by decide +kernel
theorem dX6_curve_13 : decode cX6_curve 13 = .ok (.i2l, 1) := by decide +kernel
theorem dX6_curve_14 : decode cX6_curve 14 = .ok (.invokestatic 100, 3) := by decide +kernel
theorem dX6_curve_17 : decode cX6_curve 17 = .ok (.ifCond .eq 16, 3) := by decide +kernel
theorem dX6_curve_20 : decode cX6_curve 20 = .ok (.iload_n 3, 1) := by decide +kernel
theorem dX6_curve_21 : decode cX6_curve 21 = .ok (.i2l, 1) := by decide +kernel
theorem dX6_curve_22 : decode cX6_curve 22 = .ok (.lconst 0, 1) := by decide +kernel
theorem dX6_curve_23 : decode cX6_curve 23 = .ok (.iload_n 1, 1) := by decide +kernel
theorem dX6_curve_24 : decode cX6_curve 24 = .ok (.iconst 1, 1) := by decide +kernel
theorem dX6_curve_25 : decode cX6_curve 25 = .ok (.isub, 1) := by decide +kernel
theorem dX6_curve_26 : decode cX6_curve 26 = .ok (.i2l, 1) := by decide +kernel
theorem dX6_curve_27 : decode cX6_curve 27 = .ok (.invokestatic 100, 3) := by decide +kernel
theorem dX6_curve_30 : decode cX6_curve 30 = .ok (.ifCond .ne 6, 3) := by decide +kernel
theorem dX6_curve_33 : decode cX6_curve 33 = .ok (.bipush (-2), 2) := by decide +kernel
theorem dX6_curve_35 : decode cX6_curve 35 = .ok (.ireturn, 1) := by decide +kernel
theorem dX6_curve_36 : decode cX6_curve 36 = .ok (.aload_n 0, 1) := by decide +kernel
theorem dX6_curve_37 : decode cX6_curve 37 = .ok (.iload_n 1, 1) := by decide +kernel
theorem dX6_curve_38 : decode cX6_curve 38 = .ok (.iload_n 2, 1) := by decide +kernel
theorem dX6_curve_39 : decode cX6_curve 39 = .ok (.iload_n 3, 1) := by decide +kernel
theorem dX6_curve_40 : decode cX6_curve 40 = .ok (.invokevirtual 118, 3) := by decide +kernel
theorem dX6_curve_43 : decode cX6_curve 43 = .ok (.aload_n 0, 1) := by decide +kernel
theorem dX6_curve_44 : decode cX6_curve 44 = .ok (.invokevirtual 122, 3) := by decide +kernel
theorem dX6_curve_47 : decode cX6_curve 47 = .ok (.ifCond .ne 6, 3) := by decide +kernel
theorem dX6_curve_50 : decode cX6_curve 50 = .ok (.bipush (-3), 2) := by decide +kernel
theorem dX6_curve_52 : decode cX6_curve 52 = .ok (.ireturn, 1) := by decide +kernel
theorem dX6_curve_53 : decode cX6_curve 53 = .ok (.aload_n 0, 1) := by decide +kernel
theorem dX6_curve_54 : decode cX6_curve 54 = .ok (.getfield 112, 3) := by decide +kernel
theorem dX6_curve_57 : decode cX6_curve 57 = .ok (.bipush 24, 2) := by decide +kernel
theorem dX6_curve_59 : decode cX6_curve 59 = .ok (.if_icmp .ne 8, 3) := by decide +kernel
theorem dX6_curve_62 : decode cX6_curve 62 = .ok (.bipush (-4), 2) := by decide +kernel
theorem dX6_curve_64 : decode cX6_curve 64 = .ok (.goto 10, 3) := by decide +kernel
theorem dX6_curve_67 : decode cX6_curve 67 = .ok (.aload_n 0, 1) := by decide +kernel
theorem dX6_curve_68 : decode cX6_curve 68 = .ok (.iload_n 1, 1) := by decide +kernel
theorem dX6_curve_69 : decode cX6_curve 69 = .ok (.iload_n 2, 1) := by decide +kernel
theorem dX6_curve_70 : decode cX6_curve 70 = .ok (.iload_n 3, 1) := by decide +kernel
theorem dX6_curve_71 : decode cX6_curve 71 = .ok (.invokevirtual 126, 3) := by decide +kernel
theorem dX6_curve_74 : decode cX6_curve 74 = .ok (.ireturn, 1) := by decide +kernel
set_option maxRecDepth 20000 in
theorem ggX6_has_X6_in : GoodIn wsX6_has wsX6_in := goodIn_r _ [8] (by decide +kernel) (by decide +kernel)
set_option maxRecDepth 20000 in
theorem gX6_has_X6_in : GoodIn wsX6_has (va_wsS RX6 100 yX6_in wsX6_in) := goodIn_app (goodIn_of _ (by decide +kernel)) ggX6_has_X6_in
set_option maxRecDepth 20000 in
theorem ggX6_has_X6_take : GoodIn wsX6_has wsX6_take := goodIn_r _ [12, 13, 14, 15, 16, 17, 18, 7, 19, 20, 21, 22, 23, 24, 25, 26, 27, 28, 29, 30, 31, 32, 33, 34, 35, 36, 37, 38, 39, 40, 41] (by decide +kernel) (by decide +kernel)
set_option maxRecDepth 20000 in
theorem gX6_has_X6_take : GoodIn wsX6_has (wsV RX6 118 RX6 yX6_take wsX6_take) := goodIn_app (goodIn_of _ (by decide +kernel)) ggX6_has_X6_take
theorem dX6_has_0 : decode cX6_has 0 = .ok (.iload_n 1, 1) := by decide +kernel
theorem dX6_has_1 : decode cX6_has 1 = .ok (.i2l, 1) := by decide +kernel
theorem dX6_has_2 : decode cX6_has 2 = .ok (.lconst 0, 1) := by decide +kernel
theorem dX6_has_3 : decode cX6_has 3 = .ok (.aload_n 0, 1) := by decide +kernel
theorem dX6_has_4 : decode cX6_has 4 = .ok (.getfield 112, 3) := by decide +kernel
theorem dX6_has_7 : decode cX6_has 7 = .ok (.iconst 1, 1) := by decide +kernel
theorem dX6_has_8 : decode cX6_has 8 = .ok (.isub, 1) := by decide +kernel
theorem dX6_has_9 : decode cX6_has 9 = .ok (.i2l, 1) := by decide +kernel
theorem dX6_has_10 : decode cX6_has 10 = .ok (.invokestatic 100, 3) := by decide +kernel
theorem dX6_has_13 : decode cX6_has 13 = .ok (.ifCond .ne 5, 3) := by decide +kernel
theorem dX6_has_16 : decode cX6_has 16 = .ok (.iconst 0, 1) := by decide +kernel
theorem dX6_has_17 : decode cX6_has 17 = .ok (.ireturn, 1) := by decide +kernel
theorem dX6_has_18 : decode cX6_has 18 = .ok (.aload_n 0, 1) := by decide +kernel
theorem dX6_has_19 : decode cX6_has 19 = .ok (.aload_n 0, 1) := by decide +kernel
theorem dX6_has_20 : decode cX6_has 20 = .ok (.getfield 22, 3) := by decide +kernel
theorem dX6_has_23 : decode cX6_has 23 = .ok (.iload_n 1, 1) := by decide +kernel
theorem dX6_has_24 : decode cX6_has 24 = .ok (.iaload, 1) := by decide +kernel
theorem dX6_has_25 : decode cX6_has 25 = .ok (.aload_n 0, 1) := by decide +kernel
theorem dX6_has_26 : decode cX6_has 26 = .ok (.getfield 25, 3) := by decide +kernel
theorem dX6_has_29 : decode cX6_has 29 = .ok (.iload_n 1, 1) := by decide +kernel
theorem dX6_has_30 : decode cX6_has 30 = .ok (.iaload, 1) := by decide +kernel
theorem dX6_has_31 : decode cX6_has 31 = .ok (.aload_n 0, 1) := by decide +kernel
theorem dX6_has_32 : decode cX6_has 32 = .ok (.getfield 28, 3) := by decide +kernel
theorem dX6_has_35 : decode cX6_has 35 = .ok (.iload_n 1, 1) := by decide +kernel
theorem dX6_has_36 : decode cX6_has 36 = .ok (.iaload, 1) := by decide +kernel
theorem dX6_has_37 : decode cX6_has 37 = .ok (.invokevirtual 118, 3) := by decide +kernel
theorem dX6_has_40 : decode cX6_has 40 = .ok (.iconst 1, 1) := by decide +kernel
theorem dX6_has_41 : decode cX6_has 41 = .ok (.ireturn, 1) := by decide +kernel
set_option maxRecDepth 20000 in
theorem ggX6_jOf_X6_mul : GoodIn wsX6_jOf wsX6_mul := goodIn_r _ [8, 9, 21, 22, 23, 24, 25, 26, 27, 28, 29, 30, 31, 32, 33, 34, 35, 36, 37, 38] (by decide +kernel) (by decide +kernel)
set_option maxRecDepth 20000 in
theorem gX6_jOf_X6_mul : GoodIn wsX6_jOf (wsV RX6 57 RX6 yX6_mul wsX6_mul) := goodIn_app (goodIn_of _ (by decide +kernel)) ggX6_jOf_X6_mul
set_option maxRecDepth 20000 in
theorem ggX6_jOf_X6_mod : GoodIn wsX6_jOf wsX6_mod := goodIn_r _ [13, 9, 21, 22, 23, 24, 25, 26, 27, 28, 29, 30, 31, 32, 33, 34, 35, 36, 37, 38] (by decide +kernel) (by decide +kernel)
set_option maxRecDepth 20000 in
theorem gX6_jOf_X6_mod : GoodIn wsX6_jOf (wsV RX6 67 RX6 yX6_mod wsX6_mod) := goodIn_app (goodIn_of _ (by decide +kernel)) ggX6_jOf_X6_mod
set_option maxRecDepth 20000 in
theorem ggX6_jOf_X6_split : GoodIn wsX6_jOf wsX6_split := goodIn_r _ [17, 18, 1, 19, 20, 4, 5, 6, 7, 8, 9, 10, 11, 12, 13, 21, 22, 23, 24, 25, 26, 27, 28, 29, 30, 31, 32, 33, 34, 35, 36, 37, 38] (by decide +kernel) (by decide +kernel)
set_option maxRecDepth 20000 in
theorem gX6_jOf_X6_split : GoodIn wsX6_jOf (wsV RX6 122 RX6 yX6_split wsX6_split) := goodIn_app (goodIn_of _ (by decide +kernel)) ggX6_jOf_X6_split
theorem dX6_jOf_0 : decode cX6_jOf 0 = .ok (.aload_n 0, 1) := by decide +kernel
theorem dX6_jOf_1 : decode cX6_jOf 1 = .ok (.iconst 4, 1) := by decide +kernel
theorem dX6_jOf_2 : decode cX6_jOf 2 = .ok (.aload_n 0, 1) := by decide +kernel
theorem dX6_jOf_3 : decode cX6_jOf 3 = .ok (.aload_n 0, 1) := by decide +kernel
theorem dX6_jOf_4 : decode cX6_jOf 4 = .ok (.aload_n 0, 1) := by decide +kernel
theorem dX6_jOf_5 : decode cX6_jOf 5 = .ok (.getfield 61, 3) := by decide +kernel
theorem dX6_jOf_8 : decode cX6_jOf 8 = .ok (.aload_n 0, 1) := by decide +kernel
theorem dX6_jOf_9 : decode cX6_jOf 9 = .ok (.getfield 61, 3) := by decide +kernel
theorem dX6_jOf_12 : decode cX6_jOf 12 = .ok (.invokevirtual 57, 3) := by decide +kernel
theorem dX6_jOf_15 : decode cX6_jOf 15 = .ok (.aload_n 0, 1) := by decide +kernel
theorem dX6_jOf_16 : decode cX6_jOf 16 = .ok (.getfield 61, 3) := by decide +kernel
theorem dX6_jOf_19 : decode cX6_jOf 19 = .ok (.invokevirtual 57, 3) := by decide +kernel
theorem dX6_jOf_22 : decode cX6_jOf 22 = .ok (.invokevirtual 57, 3) := by decide +kernel
theorem dX6_jOf_25 : decode cX6_jOf 25 = .ok (.istore_n 1, 1) := by decide +kernel
theorem dX6_jOf_26 : decode cX6_jOf 26 = .ok (.aload_n 0, 1) := by decide +kernel
theorem dX6_jOf_27 : decode cX6_jOf 27 = .ok (.aload_n 0, 1) := by decide +kernel
theorem dX6_jOf_28 : decode cX6_jOf 28 = .ok (.aload_n 0, 1) := by decide +kernel
theorem dX6_jOf_29 : decode cX6_jOf 29 = .ok (.ldc2_w 130, 3) := by decide +kernel
theorem dX6_jOf_32 : decode cX6_jOf 32 = .ok (.invokevirtual 67, 3) := by decide +kernel
theorem dX6_jOf_35 : decode cX6_jOf 35 = .ok (.iload_n 1, 1) := by decide +kernel
theorem dX6_jOf_36 : decode cX6_jOf 36 = .ok (.invokevirtual 57, 3) := by decide +kernel
theorem dX6_jOf_39 : decode cX6_jOf 39 = .ok (.aload_n 0, 1) := by decide +kernel
theorem dX6_jOf_40 : decode cX6_jOf 40 = .ok (.getfield 7, 3) := by decide +kernel
theorem dX6_jOf_43 : decode cX6_jOf 43 = .ok (.aload_n 0, 1) := by decide +kernel
theorem dX6_jOf_44 : decode cX6_jOf 44 = .ok (.invokevirtual 122, 3) := by decide +kernel
theorem dX6_jOf_47 : decode cX6_jOf 47 = .ok (.iaload, 1) := by decide +kernel
theorem dX6_jOf_48 : decode cX6_jOf 48 = .ok (.invokevirtual 57, 3) := by decide +kernel
theorem dX6_jOf_51 : decode cX6_jOf 51 = .ok (.ireturn, 1) := by decide +kernel
set_option maxRecDepth 20000 in
theorem ggX6_told_X6_has : GoodIn wsX6_told wsX6_has := goodIn_r _ [11, 12, 13, 14, 15, 16, 17, 10, 18, 19, 20, 21, 22, 2, 3, 23, 24, 25, 26, 27, 1, 28, 29, 30, 57, 58, 59, 60, 61, 62, 63, 64, 65, 66, 67, 68, 69, 70, 71, 72, 73, 74] (by decide +kernel) (by decide +kernel)
set_option maxRecDepth 20000 in
theorem gX6_told_X6_has : GoodIn wsX6_told (wsV RX6 132 RX6 yX6_has wsX6_has) := goodIn_app (goodIn_of _ (by decide +kernel)) ggX6_told_X6_has
set_option maxRecDepth 20000 in
theorem ggX6_told_X6_jOf : GoodIn wsX6_told wsX6_jOf := goodIn_r _ [34, 2, 35, 29, 36, 37, 38, 10, 39, 1, 40, 41, 42, 43, 44, 45, 46, 47, 5, 48, 3, 57, 58, 59, 60, 61, 62, 63, 64, 65, 66, 67, 68, 69, 70, 71, 72, 73, 74] (by decide +kernel) (by decide +kernel)
set_option maxRecDepth 20000 in
theorem gX6_told_X6_jOf : GoodIn wsX6_told (wsV RX6 135 RX6 yX6_jOf wsX6_jOf) := goodIn_app (goodIn_of _ (by decide +kernel)) ggX6_told_X6_jOf
set_option maxRecDepth 20000 in
theorem ggX6_told_X6_split : GoodIn wsX6_told wsX6_split := goodIn_r _ [47, 5, 2, 48, 3, 36, 37, 38, 10, 39, 1, 40, 41, 42, 43, 57, 58, 59, 60, 61, 62, 63, 64, 65, 66, 67, 68, 69, 70, 71, 72, 73, 74] (by decide +kernel) (by decide +kernel)
set_option maxRecDepth 20000 in
theorem gX6_told_X6_split : GoodIn wsX6_told (wsV RX6 122 RX6 yX6_split wsX6_split) := goodIn_app (goodIn_of _ (by decide +kernel)) ggX6_told_X6_split
set_option maxRecDepth 20000 in
theorem ggX6_told_X6_mod : GoodIn wsX6_told wsX6_mod := goodIn_r _ [43, 1, 57, 58, 59, 60, 61, 62, 63, 64, 65, 66, 67, 68, 69, 70, 71, 72, 73, 74] (by decide +kernel) (by decide +kernel)
set_option maxRecDepth 20000 in
theorem gX6_told_X6_mod : GoodIn wsX6_told (wsV RX6 67 RX6 yX6_mod wsX6_mod) := goodIn_app (goodIn_of _ (by decide +kernel)) ggX6_told_X6_mod
set_option maxRecDepth 20000 in
theorem ggX6_told_X6_noSquare : GoodIn wsX6_told wsX6_noSquare := goodIn_r _ [52, 30, 57, 58, 59, 60, 61, 62, 63, 64, 65, 66, 67, 68, 69, 70, 71, 72, 73, 74] (by decide +kernel) (by decide +kernel)
set_option maxRecDepth 20000 in
theorem gX6_told_X6_noSquare : GoodIn wsX6_told (wsV RX6 140 RX6 yX6_noSquare wsX6_noSquare) := goodIn_app (goodIn_of _ (by decide +kernel)) ggX6_told_X6_noSquare
set_option maxRecDepth 20000 in
theorem ggX6_told_X6_powered : GoodIn wsX6_told wsX6_powered := goodIn_r _ [56, 36, 37, 38, 10, 39, 1, 57, 58, 59, 60, 61, 62, 63, 64, 65, 66, 67, 68, 69, 70, 71, 72, 73, 74] (by decide +kernel) (by decide +kernel)
set_option maxRecDepth 20000 in
theorem gX6_told_X6_powered : GoodIn wsX6_told (wsV RX6 143 RX6 yX6_powered wsX6_powered) := goodIn_app (goodIn_of _ (by decide +kernel)) ggX6_told_X6_powered
set_option maxRecDepth 20000 in
theorem ggX6_told_X6_mul : GoodIn wsX6_told wsX6_mul := goodIn_r _ [39, 1, 57, 58, 59, 60, 61, 62, 63, 64, 65, 66, 67, 68, 69, 70, 71, 72, 73, 74] (by decide +kernel) (by decide +kernel)
set_option maxRecDepth 20000 in
theorem gX6_told_X6_mul : GoodIn wsX6_told (wsV RX6 57 RX6 yX6_mul wsX6_mul) := goodIn_app (goodIn_of _ (by decide +kernel)) ggX6_told_X6_mul
theorem dX6_told_0 : decode cX6_told 0 = .ok (.aload_n 0, 1) := by decide +kernel
theorem dX6_told_1 : decode cX6_told 1 = .ok (.iload_n 1, 1) := by decide +kernel
theorem dX6_told_2 : decode cX6_told 2 = .ok (.invokevirtual 132, 3) := by decide +kernel
theorem dX6_told_5 : decode cX6_told 5 = .ok (.ifCond .ne 6, 3) := by decide +kernel
theorem dX6_told_8 : decode cX6_told 8 = .ok (.bipush (-2), 2) := by decide +kernel
theorem dX6_told_10 : decode cX6_told 10 = .ok (.ireturn, 1) := by decide +kernel
theorem dX6_told_11 : decode cX6_told 11 = .ok (.iload_n 2, 1) := by decide +kernel
theorem dX6_told_12 : decode cX6_told 12 = .ok (.tableswitch 161 0 6 #[44, 49, 54, 59, 64, 78, 83], 44) := by decide +kernel
theorem dX6_told_56 : decode cX6_told 56 = .ok (.aload_n 0, 1) := by decide +kernel
theorem dX6_told_57 : decode cX6_told 57 = .ok (.getfield 47, 3) := by decide +kernel
theorem dX6_told_60 : decode cX6_told 60 = .ok (.ireturn, 1) := by decide +kernel
theorem dX6_told_61 : decode cX6_told 61 = .ok (.aload_n 0, 1) := by decide +kernel
theorem dX6_told_62 : decode cX6_told 62 = .ok (.getfield 61, 3) := by decide +kernel
theorem dX6_told_65 : decode cX6_told 65 = .ok (.ireturn, 1) := by decide +kernel
theorem dX6_told_66 : decode cX6_told 66 = .ok (.aload_n 0, 1) := by decide +kernel
theorem dX6_told_67 : decode cX6_told 67 = .ok (.getfield 64, 3) := by decide +kernel
theorem dX6_told_70 : decode cX6_told 70 = .ok (.ireturn, 1) := by decide +kernel
theorem dX6_told_71 : decode cX6_told 71 = .ok (.aload_n 0, 1) := by decide +kernel
theorem dX6_told_72 : decode cX6_told 72 = .ok (.invokevirtual 135, 3) := by decide +kernel
theorem dX6_told_75 : decode cX6_told 75 = .ok (.ireturn, 1) := by decide +kernel
theorem dX6_told_76 : decode cX6_told 76 = .ok (.aload_n 0, 1) := by decide +kernel
theorem dX6_told_77 : decode cX6_told 77 = .ok (.ldc2_w 138, 3) := by decide +kernel
theorem dX6_told_80 : decode cX6_told 80 = .ok (.aload_n 0, 1) := by decide +kernel
theorem dX6_told_81 : decode cX6_told 81 = .ok (.invokevirtual 122, 3) := by decide +kernel
theorem dX6_told_84 : decode cX6_told 84 = .ok (.i2l, 1) := by decide +kernel
theorem dX6_told_85 : decode cX6_told 85 = .ok (.lmul, 1) := by decide +kernel
theorem dX6_told_86 : decode cX6_told 86 = .ok (.invokevirtual 67, 3) := by decide +kernel
theorem dX6_told_89 : decode cX6_told 89 = .ok (.ireturn, 1) := by decide +kernel
theorem dX6_told_90 : decode cX6_told 90 = .ok (.aload_n 0, 1) := by decide +kernel
theorem dX6_told_91 : decode cX6_told 91 = .ok (.invokevirtual 140, 3) := by decide +kernel
theorem dX6_told_94 : decode cX6_told 94 = .ok (.ireturn, 1) := by decide +kernel
theorem dX6_told_95 : decode cX6_told 95 = .ok (.iconst 0, 1) := by decide +kernel
theorem dX6_told_96 : decode cX6_told 96 = .ok (.istore_n 3, 1) := by decide +kernel
theorem dX6_told_97 : decode cX6_told 97 = .ok (.iconst 1, 1) := by decide +kernel
theorem dX6_told_98 : decode cX6_told 98 = .ok (.istore 4, 2) := by decide +kernel
theorem dX6_told_100 : decode cX6_told 100 = .ok (.iload 4, 2) := by decide +kernel
theorem dX6_told_102 : decode cX6_told 102 = .ok (.aload_n 0, 1) := by decide +kernel
theorem dX6_told_103 : decode cX6_told 103 = .ok (.getfield 47, 3) := by decide +kernel
theorem dX6_told_106 : decode cX6_told 106 = .ok (.if_icmp .ge 65, 3) := by decide +kernel
theorem dX6_told_109 : decode cX6_told 109 = .ok (.iload_n 3, 1) := by decide +kernel
theorem dX6_told_110 : decode cX6_told 110 = .ok (.aload_n 0, 1) := by decide +kernel
theorem dX6_told_111 : decode cX6_told 111 = .ok (.aload_n 0, 1) := by decide +kernel
theorem dX6_told_112 : decode cX6_told 112 = .ok (.getfield 61, 3) := by decide +kernel
theorem dX6_told_115 : decode cX6_told 115 = .ok (.aload_n 0, 1) := by decide +kernel
theorem dX6_told_116 : decode cX6_told 116 = .ok (.iload 4, 2) := by decide +kernel
theorem dX6_told_118 : decode cX6_told 118 = .ok (.ldc2_w 108, 3) := by decide +kernel
theorem dX6_told_121 : decode cX6_told 121 = .ok (.invokevirtual 143, 3) := by decide +kernel
theorem dX6_told_124 : decode cX6_told 124 = .ok (.invokevirtual 57, 3) := by decide +kernel
theorem dX6_told_127 : decode cX6_told 127 = .ok (.aload_n 0, 1) := by decide +kernel
theorem dX6_told_128 : decode cX6_told 128 = .ok (.getfield 61, 3) := by decide +kernel
theorem dX6_told_131 : decode cX6_told 131 = .ok (.if_icmp .ne 31, 3) := by decide +kernel
theorem dX6_told_134 : decode cX6_told 134 = .ok (.aload_n 0, 1) := by decide +kernel
theorem dX6_told_135 : decode cX6_told 135 = .ok (.aload_n 0, 1) := by decide +kernel
theorem dX6_told_136 : decode cX6_told 136 = .ok (.getfield 64, 3) := by decide +kernel
theorem dX6_told_139 : decode cX6_told 139 = .ok (.aload_n 0, 1) := by decide +kernel
theorem dX6_told_140 : decode cX6_told 140 = .ok (.iload 4, 2) := by decide +kernel
theorem dX6_told_142 : decode cX6_told 142 = .ok (.ldc2_w 146, 3) := by decide +kernel
theorem dX6_told_145 : decode cX6_told 145 = .ok (.invokevirtual 143, 3) := by decide +kernel
theorem dX6_told_148 : decode cX6_told 148 = .ok (.invokevirtual 57, 3) := by decide +kernel
theorem dX6_told_151 : decode cX6_told 151 = .ok (.aload_n 0, 1) := by decide +kernel
theorem dX6_told_152 : decode cX6_told 152 = .ok (.getfield 64, 3) := by decide +kernel
theorem dX6_told_155 : decode cX6_told 155 = .ok (.if_icmp .ne 7, 3) := by decide +kernel
theorem dX6_told_158 : decode cX6_told 158 = .ok (.iconst 1, 1) := by decide +kernel
theorem dX6_told_159 : decode cX6_told 159 = .ok (.goto 4, 3) := by decide +kernel
theorem dX6_told_162 : decode cX6_told 162 = .ok (.iconst 0, 1) := by decide +kernel
theorem dX6_told_163 : decode cX6_told 163 = .ok (.iadd, 1) := by decide +kernel
theorem dX6_told_164 : decode cX6_told 164 = .ok (.istore_n 3, 1) := by decide +kernel
theorem dX6_told_165 : decode cX6_told 165 = .ok (.iinc 4 1, 3) := by decide +kernel
theorem dX6_told_168 : decode cX6_told 168 = .ok (.goto (-68), 3) := by decide +kernel
theorem dX6_told_171 : decode cX6_told 171 = .ok (.iload_n 3, 1) := by decide +kernel
theorem dX6_told_172 : decode cX6_told 172 = .ok (.ireturn, 1) := by decide +kernel
theorem dX6_told_173 : decode cX6_told 173 = .ok (.bipush (-2), 2) := by decide +kernel
theorem dX6_told_175 : decode cX6_told 175 = .ok (.ireturn, 1) := by decide +kernel
set_option maxRecDepth 20000 in
theorem ggX6_turn_X6_noSquare : GoodIn wsX6_turn wsX6_noSquare := goodIn_r _ [8, 9, 25, 26, 27, 28, 29, 30, 31, 32, 33, 34, 35, 36, 37, 38, 39, 40, 41, 42] (by decide +kernel) (by decide +kernel)
set_option maxRecDepth 20000 in
theorem gX6_turn_X6_noSquare : GoodIn wsX6_turn (wsV RX6 140 RX6 yX6_noSquare wsX6_noSquare) := goodIn_app (goodIn_of _ (by decide +kernel)) ggX6_turn_X6_noSquare
set_option maxRecDepth 20000 in
theorem ggX6_turn_X6_mul : GoodIn wsX6_turn wsX6_mul := goodIn_r _ [13, 1, 25, 26, 27, 28, 29, 30, 31, 32, 33, 34, 35, 36, 37, 38, 39, 40, 41, 42] (by decide +kernel) (by decide +kernel)
set_option maxRecDepth 20000 in
theorem gX6_turn_X6_mul : GoodIn wsX6_turn (wsV RX6 57 RX6 yX6_mul wsX6_mul) := goodIn_app (goodIn_of _ (by decide +kernel)) ggX6_turn_X6_mul
set_option maxRecDepth 20000 in
theorem ggX6_turn_X6_take : GoodIn wsX6_turn wsX6_take := goodIn_r _ [17, 2, 3, 18, 19, 20, 21, 7, 22, 1, 23, 24, 9, 25, 26, 27, 28, 29, 30, 31, 32, 33, 34, 35, 36, 37, 38, 39, 40, 41, 42] (by decide +kernel) (by decide +kernel)
set_option maxRecDepth 20000 in
theorem gX6_turn_X6_take : GoodIn wsX6_turn (wsV RX6 118 RX6 yX6_take wsX6_take) := goodIn_app (goodIn_of _ (by decide +kernel)) ggX6_turn_X6_take
theorem dX6_turn_0 : decode cX6_turn 0 = .ok (.aload_n 0, 1) := by decide +kernel
theorem dX6_turn_1 : decode cX6_turn 1 = .ok (.invokevirtual 140, 3) := by decide +kernel
theorem dX6_turn_4 : decode cX6_turn 4 = .ok (.istore_n 1, 1) := by decide +kernel
theorem dX6_turn_5 : decode cX6_turn 5 = .ok (.aload_n 0, 1) := by decide +kernel
theorem dX6_turn_6 : decode cX6_turn 6 = .ok (.aload_n 0, 1) := by decide +kernel
theorem dX6_turn_7 : decode cX6_turn 7 = .ok (.getfield 47, 3) := by decide +kernel
theorem dX6_turn_10 : decode cX6_turn 10 = .ok (.aload_n 0, 1) := by decide +kernel
theorem dX6_turn_11 : decode cX6_turn 11 = .ok (.aload_n 0, 1) := by decide +kernel
theorem dX6_turn_12 : decode cX6_turn 12 = .ok (.getfield 61, 3) := by decide +kernel
theorem dX6_turn_15 : decode cX6_turn 15 = .ok (.aload_n 0, 1) := by decide +kernel
theorem dX6_turn_16 : decode cX6_turn 16 = .ok (.iload_n 1, 1) := by decide +kernel
theorem dX6_turn_17 : decode cX6_turn 17 = .ok (.iload_n 1, 1) := by decide +kernel
theorem dX6_turn_18 : decode cX6_turn 18 = .ok (.invokevirtual 57, 3) := by decide +kernel
theorem dX6_turn_21 : decode cX6_turn 21 = .ok (.invokevirtual 57, 3) := by decide +kernel
theorem dX6_turn_24 : decode cX6_turn 24 = .ok (.aload_n 0, 1) := by decide +kernel
theorem dX6_turn_25 : decode cX6_turn 25 = .ok (.aload_n 0, 1) := by decide +kernel
theorem dX6_turn_26 : decode cX6_turn 26 = .ok (.getfield 64, 3) := by decide +kernel
theorem dX6_turn_29 : decode cX6_turn 29 = .ok (.aload_n 0, 1) := by decide +kernel
theorem dX6_turn_30 : decode cX6_turn 30 = .ok (.iload_n 1, 1) := by decide +kernel
theorem dX6_turn_31 : decode cX6_turn 31 = .ok (.aload_n 0, 1) := by decide +kernel
theorem dX6_turn_32 : decode cX6_turn 32 = .ok (.iload_n 1, 1) := by decide +kernel
theorem dX6_turn_33 : decode cX6_turn 33 = .ok (.iload_n 1, 1) := by decide +kernel
theorem dX6_turn_34 : decode cX6_turn 34 = .ok (.invokevirtual 57, 3) := by decide +kernel
theorem dX6_turn_37 : decode cX6_turn 37 = .ok (.invokevirtual 57, 3) := by decide +kernel
theorem dX6_turn_40 : decode cX6_turn 40 = .ok (.invokevirtual 57, 3) := by decide +kernel
theorem dX6_turn_43 : decode cX6_turn 43 = .ok (.invokevirtual 118, 3) := by decide +kernel
theorem dX6_turn_46 : decode cX6_turn 46 = .ok (.return_, 1) := by decide +kernel
set_option maxRecDepth 20000 in
theorem ggX6_twist_X6_has : GoodIn wsX6_twist wsX6_has := goodIn_r _ [9, 1, 10, 11, 12, 13, 14, 8, 15, 16, 17, 18, 19, 3, 4, 20, 21, 22, 23, 24, 2, 25, 26, 27, 45, 46, 47, 48, 49, 50, 51, 52, 53, 54, 55, 56, 57, 58, 59, 60, 61, 62] (by decide +kernel) (by decide +kernel)
set_option maxRecDepth 20000 in
theorem gX6_twist_X6_has : GoodIn wsX6_twist (wsV RX6 132 RX6 yX6_has wsX6_has) := goodIn_app (goodIn_of _ (by decide +kernel)) ggX6_twist_X6_has
set_option maxRecDepth 20000 in
theorem ggX6_twist_X6_turn : GoodIn wsX6_twist wsX6_turn := goodIn_r _ [31, 2, 3, 4, 32, 33, 34, 8, 35, 27, 36, 37, 38, 39, 16, 17, 18, 19, 20, 21, 22, 23, 24, 25, 26, 45, 46, 47, 48, 49, 50, 51, 52, 53, 54, 55, 56, 57, 58, 59, 60, 61, 62] (by decide +kernel) (by decide +kernel)
set_option maxRecDepth 20000 in
theorem gX6_twist_X6_turn : GoodIn wsX6_twist (wsV RX6 148 RX6 yX6_turn wsX6_turn) := goodIn_app (goodIn_of _ (by decide +kernel)) ggX6_twist_X6_turn
set_option maxRecDepth 20000 in
theorem ggX6_twist_X6_make : GoodIn wsX6_twist wsX6_make := goodIn_r _ [43, 10, 1, 11, 12, 44, 45, 46, 47, 48, 49, 50, 51, 52, 53, 54, 55, 56, 57, 58, 59, 60, 61, 62] (by decide +kernel) (by decide +kernel)
set_option maxRecDepth 20000 in
theorem gX6_twist_X6_make : GoodIn wsX6_twist (wsV RX6 126 RX6 yX6_make wsX6_make) := goodIn_app (goodIn_of _ (by decide +kernel)) ggX6_twist_X6_make
theorem dX6_twist_0 : decode cX6_twist 0 = .ok (.aload_n 0, 1) := by decide +kernel
theorem dX6_twist_1 : decode cX6_twist 1 = .ok (.iload_n 1, 1) := by decide +kernel
theorem dX6_twist_2 : decode cX6_twist 2 = .ok (.invokevirtual 132, 3) := by decide +kernel
theorem dX6_twist_5 : decode cX6_twist 5 = .ok (.ifCond .ne 6, 3) := by decide +kernel
theorem dX6_twist_8 : decode cX6_twist 8 = .ok (.bipush (-2), 2) := by decide +kernel
theorem dX6_twist_10 : decode cX6_twist 10 = .ok (.ireturn, 1) := by decide +kernel
theorem dX6_twist_11 : decode cX6_twist 11 = .ok (.aload_n 0, 1) := by decide +kernel
theorem dX6_twist_12 : decode cX6_twist 12 = .ok (.getfield 112, 3) := by decide +kernel
theorem dX6_twist_15 : decode cX6_twist 15 = .ok (.bipush 24, 2) := by decide +kernel
theorem dX6_twist_17 : decode cX6_twist 17 = .ok (.if_icmp .ne 6, 3) := by decide +kernel
theorem dX6_twist_20 : decode cX6_twist 20 = .ok (.bipush (-4), 2) := by decide +kernel
theorem dX6_twist_22 : decode cX6_twist 22 = .ok (.ireturn, 1) := by decide +kernel
theorem dX6_twist_23 : decode cX6_twist 23 = .ok (.aload_n 0, 1) := by decide +kernel
theorem dX6_twist_24 : decode cX6_twist 24 = .ok (.invokevirtual 148, 3) := by decide +kernel
theorem dX6_twist_27 : decode cX6_twist 27 = .ok (.aload_n 0, 1) := by decide +kernel
theorem dX6_twist_28 : decode cX6_twist 28 = .ok (.aload_n 0, 1) := by decide +kernel
theorem dX6_twist_29 : decode cX6_twist 29 = .ok (.getfield 47, 3) := by decide +kernel
theorem dX6_twist_32 : decode cX6_twist 32 = .ok (.aload_n 0, 1) := by decide +kernel
theorem dX6_twist_33 : decode cX6_twist 33 = .ok (.getfield 61, 3) := by decide +kernel
theorem dX6_twist_36 : decode cX6_twist 36 = .ok (.aload_n 0, 1) := by decide +kernel
theorem dX6_twist_37 : decode cX6_twist 37 = .ok (.getfield 64, 3) := by decide +kernel
theorem dX6_twist_40 : decode cX6_twist 40 = .ok (.invokevirtual 126, 3) := by decide +kernel
theorem dX6_twist_43 : decode cX6_twist 43 = .ok (.ireturn, 1) := by decide +kernel
set_option maxRecDepth 20000 in
theorem ggX6_map_X6_has : GoodIn wsX6_map wsX6_has := goodIn_r _ [13, 14, 1, 5, 8, 15, 16, 12, 17, 18, 19, 20, 21, 3, 6, 22, 23, 24, 25, 26, 2, 27, 28, 29, 38, 39, 40, 41, 42, 43, 44, 45, 46, 47, 48, 49, 50, 51, 52, 53, 54, 55] (by decide +kernel) (by decide +kernel)
set_option maxRecDepth 20000 in
theorem gX6_map_X6_has : GoodIn wsX6_map (wsV RX6 132 RX6 yX6_has wsX6_has) := goodIn_app (goodIn_of _ (by decide +kernel)) ggX6_map_X6_has
set_option maxRecDepth 20000 in
theorem ggX6_map_X6_powered : GoodIn wsX6_map wsX6_powered := goodIn_r _ [33, 34, 35, 36, 12, 37, 2, 38, 39, 40, 41, 42, 43, 44, 45, 46, 47, 48, 49, 50, 51, 52, 53, 54, 55] (by decide +kernel) (by decide +kernel)
set_option maxRecDepth 20000 in
theorem gX6_map_X6_powered : GoodIn wsX6_map (wsV RX6 143 RX6 yX6_powered wsX6_powered) := goodIn_app (goodIn_of _ (by decide +kernel)) ggX6_map_X6_powered
set_option maxRecDepth 20000 in
theorem ggX6_map_X6_mul : GoodIn wsX6_map wsX6_mul := goodIn_r _ [37, 2, 38, 39, 40, 41, 42, 43, 44, 45, 46, 47, 48, 49, 50, 51, 52, 53, 54, 55] (by decide +kernel) (by decide +kernel)
set_option maxRecDepth 20000 in
theorem gX6_map_X6_mul : GoodIn wsX6_map (wsV RX6 57 RX6 yX6_mul wsX6_mul) := goodIn_app (goodIn_of _ (by decide +kernel)) ggX6_map_X6_mul
theorem dX6_map_0 : decode cX6_map 0 = .ok (.aload_n 0, 1) := by decide +kernel
theorem dX6_map_1 : decode cX6_map 1 = .ok (.iload_n 2, 1) := by decide +kernel
theorem dX6_map_2 : decode cX6_map 2 = .ok (.invokevirtual 132, 3) := by decide +kernel
theorem dX6_map_5 : decode cX6_map 5 = .ok (.ifCond .eq 11, 3) := by decide +kernel
theorem dX6_map_8 : decode cX6_map 8 = .ok (.aload_n 0, 1) := by decide +kernel
theorem dX6_map_9 : decode cX6_map 9 = .ok (.iload_n 1, 1) := by decide +kernel
theorem dX6_map_10 : decode cX6_map 10 = .ok (.invokevirtual 132, 3) := by decide +kernel
theorem dX6_map_13 : decode cX6_map 13 = .ok (.ifCond .ne 6, 3) := by decide +kernel
theorem dX6_map_16 : decode cX6_map 16 = .ok (.bipush (-2), 2) := by decide +kernel
theorem dX6_map_18 : decode cX6_map 18 = .ok (.ireturn, 1) := by decide +kernel
theorem dX6_map_19 : decode cX6_map 19 = .ok (.aload_n 0, 1) := by decide +kernel
theorem dX6_map_20 : decode cX6_map 20 = .ok (.getfield 22, 3) := by decide +kernel
theorem dX6_map_23 : decode cX6_map 23 = .ok (.iload_n 2, 1) := by decide +kernel
theorem dX6_map_24 : decode cX6_map 24 = .ok (.iaload, 1) := by decide +kernel
theorem dX6_map_25 : decode cX6_map 25 = .ok (.aload_n 0, 1) := by decide +kernel
theorem dX6_map_26 : decode cX6_map 26 = .ok (.getfield 47, 3) := by decide +kernel
theorem dX6_map_29 : decode cX6_map 29 = .ok (.if_icmp .eq 5, 3) := by decide +kernel
theorem dX6_map_32 : decode cX6_map 32 = .ok (.iconst (-1), 1) := by decide +kernel
theorem dX6_map_33 : decode cX6_map 33 = .ok (.ireturn, 1) := by decide +kernel
theorem dX6_map_34 : decode cX6_map 34 = .ok (.iconst 1, 1) := by decide +kernel
theorem dX6_map_35 : decode cX6_map 35 = .ok (.istore_n 3, 1) := by decide +kernel
theorem dX6_map_36 : decode cX6_map 36 = .ok (.iload_n 3, 1) := by decide +kernel
theorem dX6_map_37 : decode cX6_map 37 = .ok (.aload_n 0, 1) := by decide +kernel
theorem dX6_map_38 : decode cX6_map 38 = .ok (.getfield 47, 3) := by decide +kernel
theorem dX6_map_41 : decode cX6_map 41 = .ok (.if_icmp .ge 61, 3) := by decide +kernel
theorem dX6_map_44 : decode cX6_map 44 = .ok (.aload_n 0, 1) := by decide +kernel
theorem dX6_map_45 : decode cX6_map 45 = .ok (.aload_n 0, 1) := by decide +kernel
theorem dX6_map_46 : decode cX6_map 46 = .ok (.getfield 61, 3) := by decide +kernel
theorem dX6_map_49 : decode cX6_map 49 = .ok (.aload_n 0, 1) := by decide +kernel
theorem dX6_map_50 : decode cX6_map 50 = .ok (.iload_n 3, 1) := by decide +kernel
theorem dX6_map_51 : decode cX6_map 51 = .ok (.ldc2_w 108, 3) := by decide +kernel
theorem dX6_map_54 : decode cX6_map 54 = .ok (.invokevirtual 143, 3) := by decide +kernel
theorem dX6_map_57 : decode cX6_map 57 = .ok (.invokevirtual 57, 3) := by decide +kernel
theorem dX6_map_60 : decode cX6_map 60 = .ok (.aload_n 0, 1) := by decide +kernel
theorem dX6_map_61 : decode cX6_map 61 = .ok (.getfield 25, 3) := by decide +kernel
theorem dX6_map_64 : decode cX6_map 64 = .ok (.iload_n 2, 1) := by decide +kernel
theorem dX6_map_65 : decode cX6_map 65 = .ok (.iaload, 1) := by decide +kernel
theorem dX6_map_66 : decode cX6_map 66 = .ok (.if_icmp .ne 30, 3) := by decide +kernel
theorem dX6_map_69 : decode cX6_map 69 = .ok (.aload_n 0, 1) := by decide +kernel
theorem dX6_map_70 : decode cX6_map 70 = .ok (.aload_n 0, 1) := by decide +kernel
theorem dX6_map_71 : decode cX6_map 71 = .ok (.getfield 64, 3) := by decide +kernel
theorem dX6_map_74 : decode cX6_map 74 = .ok (.aload_n 0, 1) := by decide +kernel
theorem dX6_map_75 : decode cX6_map 75 = .ok (.iload_n 3, 1) := by decide +kernel
theorem dX6_map_76 : decode cX6_map 76 = .ok (.ldc2_w 146, 3) := by decide +kernel
theorem dX6_map_79 : decode cX6_map 79 = .ok (.invokevirtual 143, 3) := by decide +kernel
theorem dX6_map_82 : decode cX6_map 82 = .ok (.invokevirtual 57, 3) := by decide +kernel
theorem dX6_map_85 : decode cX6_map 85 = .ok (.aload_n 0, 1) := by decide +kernel
theorem dX6_map_86 : decode cX6_map 86 = .ok (.getfield 28, 3) := by decide +kernel
theorem dX6_map_89 : decode cX6_map 89 = .ok (.iload_n 2, 1) := by decide +kernel
theorem dX6_map_90 : decode cX6_map 90 = .ok (.iaload, 1) := by decide +kernel
theorem dX6_map_91 : decode cX6_map 91 = .ok (.if_icmp .ne 5, 3) := by decide +kernel
theorem dX6_map_94 : decode cX6_map 94 = .ok (.iload_n 3, 1) := by decide +kernel
theorem dX6_map_95 : decode cX6_map 95 = .ok (.ireturn, 1) := by decide +kernel
theorem dX6_map_96 : decode cX6_map 96 = .ok (.iinc 3 1, 3) := by decide +kernel
theorem dX6_map_99 : decode cX6_map 99 = .ok (.goto (-63), 3) := by decide +kernel
theorem dX6_map_102 : decode cX6_map 102 = .ok (.iconst (-1), 1) := by decide +kernel
theorem dX6_map_103 : decode cX6_map 103 = .ok (.ireturn, 1) := by decide +kernel
set_option maxRecDepth 20000 in
theorem ggX6_mapped_X6_has : GoodIn wsX6_mapped wsX6_has := goodIn_r _ [6, 7, 8, 9, 10, 11, 12, 5, 13, 14, 15, 16, 17, 18, 19, 20, 21, 22, 23, 24, 1, 25, 26, 27, 44, 45, 46, 47, 48, 49, 50, 51, 52, 53, 54, 55, 56, 57, 58, 59, 60, 61] (by decide +kernel) (by decide +kernel)
set_option maxRecDepth 20000 in
theorem gX6_mapped_X6_has : GoodIn wsX6_mapped (wsV RX6 132 RX6 yX6_has wsX6_has) := goodIn_app (goodIn_of _ (by decide +kernel)) ggX6_mapped_X6_has
set_option maxRecDepth 20000 in
theorem ggX6_mapped_X6_in : GoodIn wsX6_mapped wsX6_in := goodIn_r _ [13] (by decide +kernel) (by decide +kernel)
set_option maxRecDepth 20000 in
theorem gX6_mapped_X6_in : GoodIn wsX6_mapped (va_wsS RX6 100 yX6_in wsX6_in) := goodIn_app (goodIn_of _ (by decide +kernel)) ggX6_mapped_X6_in
set_option maxRecDepth 20000 in
theorem ggX6_mapped_X6_isPoint : GoodIn wsX6_mapped wsX6_isPoint := goodIn_r _ [31, 1, 32, 33, 34, 5, 35, 36, 37, 38, 39, 18, 19, 40, 41, 42, 43, 44, 45, 46, 47, 48, 49, 50, 51, 52, 53, 54, 55, 56, 57, 58, 59, 60, 61] (by decide +kernel) (by decide +kernel)
set_option maxRecDepth 20000 in
theorem gX6_mapped_X6_isPoint : GoodIn wsX6_mapped (wsV RX6 151 RX6 yX6_isPoint wsX6_isPoint) := goodIn_app (goodIn_of _ (by decide +kernel)) ggX6_mapped_X6_isPoint
set_option maxRecDepth 20000 in
theorem ggX6_mapped_X6_mul : GoodIn wsX6_mapped wsX6_mul := goodIn_r _ [35, 1, 44, 45, 46, 47, 48, 49, 50, 51, 52, 53, 54, 55, 56, 57, 58, 59, 60, 61] (by decide +kernel) (by decide +kernel)
set_option maxRecDepth 20000 in
theorem gX6_mapped_X6_mul : GoodIn wsX6_mapped (wsV RX6 57 RX6 yX6_mul wsX6_mul) := goodIn_app (goodIn_of _ (by decide +kernel)) ggX6_mapped_X6_mul
theorem dX6_mapped_0 : decode cX6_mapped 0 = .ok (.aload_n 0, 1) := by decide +kernel
theorem dX6_mapped_1 : decode cX6_mapped 1 = .ok (.iload_n 1, 1) := by decide +kernel
theorem dX6_mapped_2 : decode cX6_mapped 2 = .ok (.invokevirtual 132, 3) := by decide +kernel
theorem dX6_mapped_5 : decode cX6_mapped 5 = .ok (.ifCond .eq 27, 3) := by decide +kernel
theorem dX6_mapped_8 : decode cX6_mapped 8 = .ok (.iload_n 2, 1) := by decide +kernel
theorem dX6_mapped_9 : decode cX6_mapped 9 = .ok (.i2l, 1) := by decide +kernel
theorem dX6_mapped_10 : decode cX6_mapped 10 = .ok (.lconst 1, 1) := by decide +kernel
theorem dX6_mapped_11 : decode cX6_mapped 11 = .ok (.aload_n 0, 1) := by decide +kernel
theorem dX6_mapped_12 : decode cX6_mapped 12 = .ok (.getfield 47, 3) := by decide +kernel
theorem dX6_mapped_15 : decode cX6_mapped 15 = .ok (.iconst 1, 1) := by decide +kernel
theorem dX6_mapped_16 : decode cX6_mapped 16 = .ok (.isub, 1) := by decide +kernel
theorem dX6_mapped_17 : decode cX6_mapped 17 = .ok (.i2l, 1) := by decide +kernel
theorem dX6_mapped_18 : decode cX6_mapped 18 = .ok (.invokestatic 100, 3) := by decide +kernel
theorem dX6_mapped_21 : decode cX6_mapped 21 = .ok (.ifCond .eq 11, 3) := by decide +kernel
theorem dX6_mapped_24 : decode cX6_mapped 24 = .ok (.aload_n 0, 1) := by decide +kernel
theorem dX6_mapped_25 : decode cX6_mapped 25 = .ok (.iload_n 3, 1) := by decide +kernel
theorem dX6_mapped_26 : decode cX6_mapped 26 = .ok (.invokevirtual 151, 3) := by decide +kernel
theorem dX6_mapped_29 : decode cX6_mapped 29 = .ok (.ifCond .ne 6, 3) := by decide +kernel
theorem dX6_mapped_32 : decode cX6_mapped 32 = .ok (.bipush (-2), 2) := by decide +kernel
theorem dX6_mapped_34 : decode cX6_mapped 34 = .ok (.ireturn, 1) := by decide +kernel
theorem dX6_mapped_35 : decode cX6_mapped 35 = .ok (.iload_n 3, 1) := by decide +kernel
theorem dX6_mapped_36 : decode cX6_mapped 36 = .ok (.iconst (-1), 1) := by decide +kernel
theorem dX6_mapped_37 : decode cX6_mapped 37 = .ok (.if_icmp .ne 7, 3) := by decide +kernel
theorem dX6_mapped_40 : decode cX6_mapped 40 = .ok (.iload_n 3, 1) := by decide +kernel
theorem dX6_mapped_41 : decode cX6_mapped 41 = .ok (.goto 43, 3) := by decide +kernel
theorem dX6_mapped_44 : decode cX6_mapped 44 = .ok (.sipush 16384, 3) := by decide +kernel
theorem dX6_mapped_47 : decode cX6_mapped 47 = .ok (.aload_n 0, 1) := by decide +kernel
theorem dX6_mapped_48 : decode cX6_mapped 48 = .ok (.iload_n 3, 1) := by decide +kernel
theorem dX6_mapped_49 : decode cX6_mapped 49 = .ok (.sipush 16384, 3) := by decide +kernel
theorem dX6_mapped_52 : decode cX6_mapped 52 = .ok (.idiv, 1) := by decide +kernel
theorem dX6_mapped_53 : decode cX6_mapped 53 = .ok (.aload_n 0, 1) := by decide +kernel
theorem dX6_mapped_54 : decode cX6_mapped 54 = .ok (.iload_n 2, 1) := by decide +kernel
theorem dX6_mapped_55 : decode cX6_mapped 55 = .ok (.iload_n 2, 1) := by decide +kernel
theorem dX6_mapped_56 : decode cX6_mapped 56 = .ok (.invokevirtual 57, 3) := by decide +kernel
theorem dX6_mapped_59 : decode cX6_mapped 59 = .ok (.invokevirtual 57, 3) := by decide +kernel
theorem dX6_mapped_62 : decode cX6_mapped 62 = .ok (.imul, 1) := by decide +kernel
theorem dX6_mapped_63 : decode cX6_mapped 63 = .ok (.aload_n 0, 1) := by decide +kernel
theorem dX6_mapped_64 : decode cX6_mapped 64 = .ok (.iload_n 3, 1) := by decide +kernel
theorem dX6_mapped_65 : decode cX6_mapped 65 = .ok (.sipush 16384, 3) := by decide +kernel
theorem dX6_mapped_68 : decode cX6_mapped 68 = .ok (.irem, 1) := by decide +kernel
theorem dX6_mapped_69 : decode cX6_mapped 69 = .ok (.aload_n 0, 1) := by decide +kernel
theorem dX6_mapped_70 : decode cX6_mapped 70 = .ok (.iload_n 2, 1) := by decide +kernel
theorem dX6_mapped_71 : decode cX6_mapped 71 = .ok (.aload_n 0, 1) := by decide +kernel
theorem dX6_mapped_72 : decode cX6_mapped 72 = .ok (.iload_n 2, 1) := by decide +kernel
theorem dX6_mapped_73 : decode cX6_mapped 73 = .ok (.iload_n 2, 1) := by decide +kernel
theorem dX6_mapped_74 : decode cX6_mapped 74 = .ok (.invokevirtual 57, 3) := by decide +kernel
theorem dX6_mapped_77 : decode cX6_mapped 77 = .ok (.invokevirtual 57, 3) := by decide +kernel
theorem dX6_mapped_80 : decode cX6_mapped 80 = .ok (.invokevirtual 57, 3) := by decide +kernel
theorem dX6_mapped_83 : decode cX6_mapped 83 = .ok (.iadd, 1) := by decide +kernel
theorem dX6_mapped_84 : decode cX6_mapped 84 = .ok (.ireturn, 1) := by decide +kernel
set_option maxRecDepth 20000 in
theorem ggX6_root_X6_has : GoodIn wsX6_root wsX6_has := goodIn_r _ [6, 7, 8, 9, 10, 11, 12, 5, 13, 14, 15, 16, 17, 18, 19, 20, 21, 22, 23, 24, 25, 26, 27, 1, 32, 33, 34, 35, 36, 37, 38, 39, 40, 41, 42, 43, 44, 45, 46, 47, 48, 49] (by decide +kernel) (by decide +kernel)
set_option maxRecDepth 20000 in
theorem gX6_root_X6_has : GoodIn wsX6_root (wsV RX6 132 RX6 yX6_has wsX6_has) := goodIn_app (goodIn_of _ (by decide +kernel)) ggX6_root_X6_has
set_option maxRecDepth 20000 in
theorem ggX6_root_X6_mod : GoodIn wsX6_root wsX6_mod := goodIn_r _ [31, 25, 32, 33, 34, 35, 36, 37, 38, 39, 40, 41, 42, 43, 44, 45, 46, 47, 48, 49] (by decide +kernel) (by decide +kernel)
set_option maxRecDepth 20000 in
theorem gX6_root_X6_mod : GoodIn wsX6_root (wsV RX6 67 RX6 yX6_mod wsX6_mod) := goodIn_app (goodIn_of _ (by decide +kernel)) ggX6_root_X6_mod
theorem dX6_root_0 : decode cX6_root 0 = .ok (.aload_n 0, 1) := by decide +kernel
theorem dX6_root_1 : decode cX6_root 1 = .ok (.iload_n 1, 1) := by decide +kernel
theorem dX6_root_2 : decode cX6_root 2 = .ok (.invokevirtual 132, 3) := by decide +kernel
theorem dX6_root_5 : decode cX6_root 5 = .ok (.ifCond .eq 17, 3) := by decide +kernel
theorem dX6_root_8 : decode cX6_root 8 = .ok (.aload_n 0, 1) := by decide +kernel
theorem dX6_root_9 : decode cX6_root 9 = .ok (.getfield 13, 3) := by decide +kernel
theorem dX6_root_12 : decode cX6_root 12 = .ok (.aload_n 0, 1) := by decide +kernel
theorem dX6_root_13 : decode cX6_root 13 = .ok (.iload_n 2, 1) := by decide +kernel
theorem dX6_root_14 : decode cX6_root 14 = .ok (.i2l, 1) := by decide +kernel
theorem dX6_root_15 : decode cX6_root 15 = .ok (.invokevirtual 67, 3) := by decide +kernel
theorem dX6_root_18 : decode cX6_root 18 = .ok (.iaload, 1) := by decide +kernel
theorem dX6_root_19 : decode cX6_root 19 = .ok (.goto 5, 3) := by decide +kernel
theorem dX6_root_22 : decode cX6_root 22 = .ok (.bipush (-2), 2) := by decide +kernel
theorem dX6_root_24 : decode cX6_root 24 = .ok (.ireturn, 1) := by decide +kernel
set_option maxRecDepth 20000 in
theorem ggX6_inverse_X6_has : GoodIn wsX6_inverse wsX6_has := goodIn_r _ [6, 7, 8, 9, 10, 11, 12, 5, 13, 14, 15, 16, 17, 18, 19, 20, 21, 22, 23, 24, 25, 26, 1, 27, 32, 33, 34, 35, 36, 37, 38, 39, 40, 41, 42, 43, 44, 45, 46, 47, 48, 49] (by decide +kernel) (by decide +kernel)
set_option maxRecDepth 20000 in
theorem gX6_inverse_X6_has : GoodIn wsX6_inverse (wsV RX6 132 RX6 yX6_has wsX6_has) := goodIn_app (goodIn_of _ (by decide +kernel)) ggX6_inverse_X6_has
set_option maxRecDepth 20000 in
theorem ggX6_inverse_X6_mod : GoodIn wsX6_inverse wsX6_mod := goodIn_r _ [31, 25, 32, 33, 34, 35, 36, 37, 38, 39, 40, 41, 42, 43, 44, 45, 46, 47, 48, 49] (by decide +kernel) (by decide +kernel)
set_option maxRecDepth 20000 in
theorem gX6_inverse_X6_mod : GoodIn wsX6_inverse (wsV RX6 67 RX6 yX6_mod wsX6_mod) := goodIn_app (goodIn_of _ (by decide +kernel)) ggX6_inverse_X6_mod
theorem dX6_inverse_0 : decode cX6_inverse 0 = .ok (.aload_n 0, 1) := by decide +kernel
theorem dX6_inverse_1 : decode cX6_inverse 1 = .ok (.iload_n 1, 1) := by decide +kernel
theorem dX6_inverse_2 : decode cX6_inverse 2 = .ok (.invokevirtual 132, 3) := by decide +kernel
theorem dX6_inverse_5 : decode cX6_inverse 5 = .ok (.ifCond .ne 6, 3) := by decide +kernel
theorem dX6_inverse_8 : decode cX6_inverse 8 = .ok (.bipush (-2), 2) := by decide +kernel
theorem dX6_inverse_10 : decode cX6_inverse 10 = .ok (.ireturn, 1) := by decide +kernel
theorem dX6_inverse_11 : decode cX6_inverse 11 = .ok (.aload_n 0, 1) := by decide +kernel
theorem dX6_inverse_12 : decode cX6_inverse 12 = .ok (.iload_n 2, 1) := by decide +kernel
theorem dX6_inverse_13 : decode cX6_inverse 13 = .ok (.i2l, 1) := by decide +kernel
theorem dX6_inverse_14 : decode cX6_inverse 14 = .ok (.invokevirtual 67, 3) := by decide +kernel
theorem dX6_inverse_17 : decode cX6_inverse 17 = .ok (.ifCond .ne 7, 3) := by decide +kernel
theorem dX6_inverse_20 : decode cX6_inverse 20 = .ok (.iconst (-1), 1) := by decide +kernel
theorem dX6_inverse_21 : decode cX6_inverse 21 = .ok (.goto 14, 3) := by decide +kernel
theorem dX6_inverse_24 : decode cX6_inverse 24 = .ok (.aload_n 0, 1) := by decide +kernel
theorem dX6_inverse_25 : decode cX6_inverse 25 = .ok (.getfield 7, 3) := by decide +kernel
theorem dX6_inverse_28 : decode cX6_inverse 28 = .ok (.aload_n 0, 1) := by decide +kernel
theorem dX6_inverse_29 : decode cX6_inverse 29 = .ok (.iload_n 2, 1) := by decide +kernel
theorem dX6_inverse_30 : decode cX6_inverse 30 = .ok (.i2l, 1) := by decide +kernel
theorem dX6_inverse_31 : decode cX6_inverse 31 = .ok (.invokevirtual 67, 3) := by decide +kernel
theorem dX6_inverse_34 : decode cX6_inverse 34 = .ok (.iaload, 1) := by decide +kernel
theorem dX6_inverse_35 : decode cX6_inverse 35 = .ok (.ireturn, 1) := by decide +kernel
set_option maxRecDepth 20000 in
theorem ggX6_power_X6_has : GoodIn wsX6_power wsX6_has := goodIn_r _ [5, 6, 7, 8, 9, 10, 11, 4, 12, 13, 14, 15, 16, 17, 18, 19, 20, 21, 22, 23, 24, 25, 26, 27, 40, 41, 42, 43, 44, 45, 46, 47, 48, 49, 50, 51, 52, 53, 54, 55, 56, 57] (by decide +kernel) (by decide +kernel)
set_option maxRecDepth 20000 in
theorem gX6_power_X6_has : GoodIn wsX6_power (wsV RX6 132 RX6 yX6_has wsX6_has) := goodIn_app (goodIn_of _ (by decide +kernel)) ggX6_power_X6_has
set_option maxRecDepth 20000 in
theorem ggX6_power_X6_mod : GoodIn wsX6_power wsX6_mod := goodIn_r _ [31, 24, 40, 41, 42, 43, 44, 45, 46, 47, 48, 49, 50, 51, 52, 53, 54, 55, 56, 57] (by decide +kernel) (by decide +kernel)
set_option maxRecDepth 20000 in
theorem gX6_power_X6_mod : GoodIn wsX6_power (wsV RX6 67 RX6 yX6_mod wsX6_mod) := goodIn_app (goodIn_of _ (by decide +kernel)) ggX6_power_X6_mod
set_option maxRecDepth 20000 in
theorem ggX6_power_X6_powered : GoodIn wsX6_power wsX6_powered := goodIn_r _ [35, 36, 37, 38, 4, 39, 24, 40, 41, 42, 43, 44, 45, 46, 47, 48, 49, 50, 51, 52, 53, 54, 55, 56, 57] (by decide +kernel) (by decide +kernel)
set_option maxRecDepth 20000 in
theorem gX6_power_X6_powered : GoodIn wsX6_power (wsV RX6 143 RX6 yX6_powered wsX6_powered) := goodIn_app (goodIn_of _ (by decide +kernel)) ggX6_power_X6_powered
theorem dX6_power_0 : decode cX6_power 0 = .ok (.aload_n 0, 1) := by decide +kernel
theorem dX6_power_1 : decode cX6_power 1 = .ok (.iload_n 1, 1) := by decide +kernel
theorem dX6_power_2 : decode cX6_power 2 = .ok (.invokevirtual 132, 3) := by decide +kernel
theorem dX6_power_5 : decode cX6_power 5 = .ok (.ifCond .eq 23, 3) := by decide +kernel
theorem dX6_power_8 : decode cX6_power 8 = .ok (.lload_n 3, 1) := by decide +kernel
theorem dX6_power_9 : decode cX6_power 9 = .ok (.lconst 0, 1) := by decide +kernel
theorem dX6_power_10 : decode cX6_power 10 = .ok (.lcmp, 1) := by decide +kernel
theorem dX6_power_11 : decode cX6_power 11 = .ok (.ifCond .lt 17, 3) := by decide +kernel
theorem dX6_power_14 : decode cX6_power 14 = .ok (.aload_n 0, 1) := by decide +kernel
theorem dX6_power_15 : decode cX6_power 15 = .ok (.aload_n 0, 1) := by decide +kernel
theorem dX6_power_16 : decode cX6_power 16 = .ok (.iload_n 2, 1) := by decide +kernel
theorem dX6_power_17 : decode cX6_power 17 = .ok (.i2l, 1) := by decide +kernel
theorem dX6_power_18 : decode cX6_power 18 = .ok (.invokevirtual 67, 3) := by decide +kernel
theorem dX6_power_21 : decode cX6_power 21 = .ok (.lload_n 3, 1) := by decide +kernel
theorem dX6_power_22 : decode cX6_power 22 = .ok (.invokevirtual 143, 3) := by decide +kernel
theorem dX6_power_25 : decode cX6_power 25 = .ok (.goto 5, 3) := by decide +kernel
theorem dX6_power_28 : decode cX6_power 28 = .ok (.bipush (-2), 2) := by decide +kernel
theorem dX6_power_30 : decode cX6_power 30 = .ok (.ireturn, 1) := by decide +kernel
set_option maxRecDepth 20000 in
theorem ggX6_generator_X6_has : GoodIn wsX6_generator wsX6_has := goodIn_r _ [6, 7, 8, 9, 10, 11, 12, 5, 13, 14, 15, 16, 17, 18, 19, 20, 21, 22, 23, 24, 1, 25, 26, 27, 32, 33, 34, 35, 36, 37, 38, 39, 40, 41, 42, 43, 44, 45, 46, 47, 48, 49] (by decide +kernel) (by decide +kernel)
set_option maxRecDepth 20000 in
theorem gX6_generator_X6_has : GoodIn wsX6_generator (wsV RX6 132 RX6 yX6_has wsX6_has) := goodIn_app (goodIn_of _ (by decide +kernel)) ggX6_generator_X6_has
set_option maxRecDepth 20000 in
theorem ggX6_generator_X6_mul : GoodIn wsX6_generator wsX6_mul := goodIn_r _ [31, 1, 32, 33, 34, 35, 36, 37, 38, 39, 40, 41, 42, 43, 44, 45, 46, 47, 48, 49] (by decide +kernel) (by decide +kernel)
set_option maxRecDepth 20000 in
theorem gX6_generator_X6_mul : GoodIn wsX6_generator (wsV RX6 57 RX6 yX6_mul wsX6_mul) := goodIn_app (goodIn_of _ (by decide +kernel)) ggX6_generator_X6_mul
theorem dX6_generator_0 : decode cX6_generator 0 = .ok (.aload_n 0, 1) := by decide +kernel
theorem dX6_generator_1 : decode cX6_generator 1 = .ok (.iload_n 1, 1) := by decide +kernel
theorem dX6_generator_2 : decode cX6_generator 2 = .ok (.invokevirtual 132, 3) := by decide +kernel
theorem dX6_generator_5 : decode cX6_generator 5 = .ok (.ifCond .ne 6, 3) := by decide +kernel
theorem dX6_generator_8 : decode cX6_generator 8 = .ok (.bipush (-2), 2) := by decide +kernel
theorem dX6_generator_10 : decode cX6_generator 10 = .ok (.ireturn, 1) := by decide +kernel
theorem dX6_generator_11 : decode cX6_generator 11 = .ok (.iconst 1, 1) := by decide +kernel
theorem dX6_generator_12 : decode cX6_generator 12 = .ok (.istore_n 2, 1) := by decide +kernel
theorem dX6_generator_13 : decode cX6_generator 13 = .ok (.iconst 0, 1) := by decide +kernel
theorem dX6_generator_14 : decode cX6_generator 14 = .ok (.istore_n 3, 1) := by decide +kernel
theorem dX6_generator_15 : decode cX6_generator 15 = .ok (.iload_n 3, 1) := by decide +kernel
theorem dX6_generator_16 : decode cX6_generator 16 = .ok (.aload_n 0, 1) := by decide +kernel
theorem dX6_generator_17 : decode cX6_generator 17 = .ok (.getfield 47, 3) := by decide +kernel
theorem dX6_generator_20 : decode cX6_generator 20 = .ok (.iconst 1, 1) := by decide +kernel
theorem dX6_generator_21 : decode cX6_generator 21 = .ok (.isub, 1) := by decide +kernel
theorem dX6_generator_22 : decode cX6_generator 22 = .ok (.if_icmp .eq 35, 3) := by decide +kernel
theorem dX6_generator_25 : decode cX6_generator 25 = .ok (.iinc 2 1, 3) := by decide +kernel
theorem dX6_generator_28 : decode cX6_generator 28 = .ok (.iconst 1, 1) := by decide +kernel
theorem dX6_generator_29 : decode cX6_generator 29 = .ok (.istore_n 3, 1) := by decide +kernel
theorem dX6_generator_30 : decode cX6_generator 30 = .ok (.iload_n 2, 1) := by decide +kernel
theorem dX6_generator_31 : decode cX6_generator 31 = .ok (.istore 4, 2) := by decide +kernel
theorem dX6_generator_33 : decode cX6_generator 33 = .ok (.iload 4, 2) := by decide +kernel
theorem dX6_generator_35 : decode cX6_generator 35 = .ok (.iconst 1, 1) := by decide +kernel
theorem dX6_generator_36 : decode cX6_generator 36 = .ok (.if_icmp .eq 18, 3) := by decide +kernel
theorem dX6_generator_39 : decode cX6_generator 39 = .ok (.aload_n 0, 1) := by decide +kernel
theorem dX6_generator_40 : decode cX6_generator 40 = .ok (.iload 4, 2) := by decide +kernel
theorem dX6_generator_42 : decode cX6_generator 42 = .ok (.iload_n 2, 1) := by decide +kernel
theorem dX6_generator_43 : decode cX6_generator 43 = .ok (.invokevirtual 57, 3) := by decide +kernel
theorem dX6_generator_46 : decode cX6_generator 46 = .ok (.istore 4, 2) := by decide +kernel
theorem dX6_generator_48 : decode cX6_generator 48 = .ok (.iinc 3 1, 3) := by decide +kernel
theorem dX6_generator_51 : decode cX6_generator 51 = .ok (.goto (-18), 3) := by decide +kernel
theorem dX6_generator_54 : decode cX6_generator 54 = .ok (.goto (-39), 3) := by decide +kernel
theorem dX6_generator_57 : decode cX6_generator 57 = .ok (.iload_n 2, 1) := by decide +kernel
theorem dX6_generator_58 : decode cX6_generator 58 = .ok (.ireturn, 1) := by decide +kernel
set_option maxRecDepth 20000 in
theorem ggX6_point_X6_has : GoodIn wsX6_point wsX6_has := goodIn_r _ [6, 7, 8, 9, 10, 11, 12, 5, 13, 14, 15, 16, 17, 18, 19, 20, 21, 22, 23, 24, 1, 25, 26, 27, 44, 45, 46, 47, 48, 49, 50, 51, 52, 53, 54, 55, 56, 57, 58, 59, 60, 61] (by decide +kernel) (by decide +kernel)
set_option maxRecDepth 20000 in
theorem gX6_point_X6_has : GoodIn wsX6_point (wsV RX6 132 RX6 yX6_has wsX6_has) := goodIn_app (goodIn_of _ (by decide +kernel)) ggX6_point_X6_has
set_option maxRecDepth 20000 in
theorem ggX6_point_X6_in : GoodIn wsX6_point wsX6_in := goodIn_r _ [13] (by decide +kernel) (by decide +kernel)
set_option maxRecDepth 20000 in
theorem gX6_point_X6_in : GoodIn wsX6_point (va_wsS RX6 100 yX6_in wsX6_in) := goodIn_app (goodIn_of _ (by decide +kernel)) ggX6_point_X6_in
set_option maxRecDepth 20000 in
theorem ggX6_point_X6_isPoint : GoodIn wsX6_point wsX6_isPoint := goodIn_r _ [31, 1, 32, 33, 34, 5, 35, 36, 37, 38, 39, 18, 19, 40, 41, 42, 43, 44, 45, 46, 47, 48, 49, 50, 51, 52, 53, 54, 55, 56, 57, 58, 59, 60, 61] (by decide +kernel) (by decide +kernel)
set_option maxRecDepth 20000 in
theorem gX6_point_X6_isPoint : GoodIn wsX6_point (wsV RX6 151 RX6 yX6_isPoint wsX6_isPoint) := goodIn_app (goodIn_of _ (by decide +kernel)) ggX6_point_X6_isPoint
theorem dX6_point_0 : decode cX6_point 0 = .ok (.aload_n 0, 1) := by decide +kernel
theorem dX6_point_1 : decode cX6_point 1 = .ok (.iload_n 1, 1) := by decide +kernel
theorem dX6_point_2 : decode cX6_point 2 = .ok (.invokevirtual 132, 3) := by decide +kernel
theorem dX6_point_5 : decode cX6_point 5 = .ok (.ifCond .eq 35, 3) := by decide +kernel
theorem dX6_point_8 : decode cX6_point 8 = .ok (.iload_n 2, 1) := by decide +kernel
theorem dX6_point_9 : decode cX6_point 9 = .ok (.i2l, 1) := by decide +kernel
theorem dX6_point_10 : decode cX6_point 10 = .ok (.lconst 0, 1) := by decide +kernel
theorem dX6_point_11 : decode cX6_point 11 = .ok (.aload_n 0, 1) := by decide +kernel
theorem dX6_point_12 : decode cX6_point 12 = .ok (.getfield 47, 3) := by decide +kernel
theorem dX6_point_15 : decode cX6_point 15 = .ok (.iconst 1, 1) := by decide +kernel
theorem dX6_point_16 : decode cX6_point 16 = .ok (.isub, 1) := by decide +kernel
theorem dX6_point_17 : decode cX6_point 17 = .ok (.i2l, 1) := by decide +kernel
theorem dX6_point_18 : decode cX6_point 18 = .ok (.invokestatic 100, 3) := by decide +kernel
theorem dX6_point_21 : decode cX6_point 21 = .ok (.ifCond .eq 19, 3) := by decide +kernel

