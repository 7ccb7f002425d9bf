theorem dX7_fillRow_107 : decode cX7_fillRow 107 = .ok (.iload_n 2, 1) := by decide +kernel
theorem dX7_fillRow_108 : decode cX7_fillRow 108 = .ok (.iastore, 1) := by decide +kernel
theorem dX7_fillRow_109 : decode cX7_fillRow 109 = .ok (.aload_n 0, 1) := by decide +kernel
theorem dX7_fillRow_110 : decode cX7_fillRow 110 = .ok (.dup, 1) := by decide +kernel
theorem dX7_fillRow_111 : decode cX7_fillRow 111 = .ok (.getfield 96, 3) := by decide +kernel
theorem dX7_fillRow_114 : decode cX7_fillRow 114 = .ok (.iconst 1, 1) := by decide +kernel
theorem dX7_fillRow_115 : decode cX7_fillRow 115 = .ok (.iadd, 1) := by decide +kernel
theorem dX7_fillRow_116 : decode cX7_fillRow 116 = .ok (.putfield 96, 3) := by decide +kernel
theorem dX7_fillRow_119 : decode cX7_fillRow 119 = .ok (.iload_n 1, 1) := by decide +kernel
theorem dX7_fillRow_120 : decode cX7_fillRow 120 = .ok (.iload_n 3, 1) := by decide +kernel
theorem dX7_fillRow_121 : decode cX7_fillRow 121 = .ok (.isub, 1) := by decide +kernel
theorem dX7_fillRow_122 : decode cX7_fillRow 122 = .ok (.istore_n 1, 1) := by decide +kernel
theorem dX7_fillRow_123 : decode cX7_fillRow 123 = .ok (.iinc 2 1, 3) := by decide +kernel
theorem dX7_fillRow_126 : decode cX7_fillRow 126 = .ok (.goto (-111), 3) := by decide +kernel
theorem dX7_fillRow_129 : decode cX7_fillRow 129 = .ok (.return_, 1) := by decide +kernel
set_option maxRecDepth 20000 in
theorem ggX7_countWays_X7_addWays : GoodIn wsX7_countWays wsX7_addWays := goodIn_r _ [8, 3, 9, 10, 11, 12, 13, 14, 15, 16, 7, 17, 1, 18, 19, 26, 27, 28, 29, 30, 31, 32, 33, 34, 35, 36, 37, 38, 39, 40, 41, 42, 43, 44, 45, 46, 47, 48, 49, 50, 51, 52, 53, 54, 55, 56] (by decide +kernel) (by decide +kernel)
set_option maxRecDepth 20000 in
theorem gX7_countWays_X7_addWays : GoodIn wsX7_countWays (wsV RX7 106 RX7 yX7_addWays wsX7_addWays) := goodIn_app (goodIn_of _ (by decide +kernel)) ggX7_countWays_X7_addWays
set_option maxRecDepth 20000 in
theorem ggX7_countWays_X6_everybody : GoodIn wsX7_countWays wsX6_everybody := goodIn_r _ [24, 25, 37, 38, 39, 40, 41, 42, 43, 44, 45, 46, 47, 48, 49, 50, 51, 52, 53, 54, 55, 56] (by decide +kernel) (by decide +kernel)
set_option maxRecDepth 20000 in
theorem gX7_countWays_X6_everybody : GoodIn wsX7_countWays (wsV RX7 99 RX6 yX6_everybody wsX6_everybody) := goodIn_app (goodIn_of _ (by decide +kernel)) ggX7_countWays_X6_everybody
theorem dX7_countWays_0 : decode cX7_countWays 0 = .ok (.aload_n 1, 1) := by decide +kernel
theorem dX7_countWays_1 : decode cX7_countWays 1 = .ok (.iconst 0, 1) := by decide +kernel
theorem dX7_countWays_2 : decode cX7_countWays 2 = .ok (.iconst 1, 1) := by decide +kernel
theorem dX7_countWays_3 : decode cX7_countWays 3 = .ok (.iastore, 1) := by decide +kernel
theorem dX7_countWays_4 : decode cX7_countWays 4 = .ok (.iconst 0, 1) := by decide +kernel
theorem dX7_countWays_5 : decode cX7_countWays 5 = .ok (.istore_n 2, 1) := by decide +kernel
theorem dX7_countWays_6 : decode cX7_countWays 6 = .ok (.iload_n 2, 1) := by decide +kernel
theorem dX7_countWays_7 : decode cX7_countWays 7 = .ok (.aload_n 0, 1) := by decide +kernel
theorem dX7_countWays_8 : decode cX7_countWays 8 = .ok (.getfield 42, 3) := by decide +kernel
theorem dX7_countWays_11 : decode cX7_countWays 11 = .ok (.getfield 66, 3) := by decide +kernel
theorem dX7_countWays_14 : decode cX7_countWays 14 = .ok (.if_icmp .ge 86, 3) := by decide +kernel
theorem dX7_countWays_17 : decode cX7_countWays 17 = .ok (.iconst 1, 1) := by decide +kernel
theorem dX7_countWays_18 : decode cX7_countWays 18 = .ok (.iload_n 2, 1) := by decide +kernel
theorem dX7_countWays_19 : decode cX7_countWays 19 = .ok (.ishl, 1) := by decide +kernel
theorem dX7_countWays_20 : decode cX7_countWays 20 = .ok (.istore_n 3, 1) := by decide +kernel
theorem dX7_countWays_21 : decode cX7_countWays 21 = .ok (.iload_n 3, 1) := by decide +kernel
theorem dX7_countWays_22 : decode cX7_countWays 22 = .ok (.istore 4, 2) := by decide +kernel
theorem dX7_countWays_24 : decode cX7_countWays 24 = .ok (.iload 4, 2) := by decide +kernel
theorem dX7_countWays_26 : decode cX7_countWays 26 = .ok (.iconst 2, 1) := by decide +kernel
theorem dX7_countWays_27 : decode cX7_countWays 27 = .ok (.iload_n 3, 1) := by decide +kernel
theorem dX7_countWays_28 : decode cX7_countWays 28 = .ok (.imul, 1) := by decide +kernel
theorem dX7_countWays_29 : decode cX7_countWays 29 = .ok (.if_icmp .ge 42, 3) := by decide +kernel
theorem dX7_countWays_32 : decode cX7_countWays 32 = .ok (.aload_n 1, 1) := by decide +kernel
theorem dX7_countWays_33 : decode cX7_countWays 33 = .ok (.iload 4, 2) := by decide +kernel
theorem dX7_countWays_35 : decode cX7_countWays 35 = .ok (.aload_n 0, 1) := by decide +kernel
theorem dX7_countWays_36 : decode cX7_countWays 36 = .ok (.getfield 18, 3) := by decide +kernel
theorem dX7_countWays_39 : decode cX7_countWays 39 = .ok (.iload 4, 2) := by decide +kernel
theorem dX7_countWays_41 : decode cX7_countWays 41 = .ok (.iload_n 3, 1) := by decide +kernel
theorem dX7_countWays_42 : decode cX7_countWays 42 = .ok (.isub, 1) := by decide +kernel
theorem dX7_countWays_43 : decode cX7_countWays 43 = .ok (.iaload, 1) := by decide +kernel
theorem dX7_countWays_44 : decode cX7_countWays 44 = .ok (.aload_n 0, 1) := by decide +kernel
theorem dX7_countWays_45 : decode cX7_countWays 45 = .ok (.getfield 18, 3) := by decide +kernel
theorem dX7_countWays_48 : decode cX7_countWays 48 = .ok (.iload 4, 2) := by decide +kernel
theorem dX7_countWays_50 : decode cX7_countWays 50 = .ok (.iaload, 1) := by decide +kernel
theorem dX7_countWays_51 : decode cX7_countWays 51 = .ok (.if_icmp .ne 12, 3) := by decide +kernel
theorem dX7_countWays_54 : decode cX7_countWays 54 = .ok (.aload_n 1, 1) := by decide +kernel
theorem dX7_countWays_55 : decode cX7_countWays 55 = .ok (.iload 4, 2) := by decide +kernel
theorem dX7_countWays_57 : decode cX7_countWays 57 = .ok (.iload_n 3, 1) := by decide +kernel
theorem dX7_countWays_58 : decode cX7_countWays 58 = .ok (.isub, 1) := by decide +kernel
theorem dX7_countWays_59 : decode cX7_countWays 59 = .ok (.iaload, 1) := by decide +kernel
theorem dX7_countWays_60 : decode cX7_countWays 60 = .ok (.goto 4, 3) := by decide +kernel
theorem dX7_countWays_63 : decode cX7_countWays 63 = .ok (.iconst 0, 1) := by decide +kernel
theorem dX7_countWays_64 : decode cX7_countWays 64 = .ok (.iastore, 1) := by decide +kernel
theorem dX7_countWays_65 : decode cX7_countWays 65 = .ok (.iinc 4 1, 3) := by decide +kernel
theorem dX7_countWays_68 : decode cX7_countWays 68 = .ok (.goto (-44), 3) := by decide +kernel
theorem dX7_countWays_71 : decode cX7_countWays 71 = .ok (.iconst 0, 1) := by decide +kernel
theorem dX7_countWays_72 : decode cX7_countWays 72 = .ok (.istore 4, 2) := by decide +kernel
theorem dX7_countWays_74 : decode cX7_countWays 74 = .ok (.iload 4, 2) := by decide +kernel
theorem dX7_countWays_76 : decode cX7_countWays 76 = .ok (.iload_n 2, 1) := by decide +kernel
theorem dX7_countWays_77 : decode cX7_countWays 77 = .ok (.if_icmp .ge 17, 3) := by decide +kernel
theorem dX7_countWays_80 : decode cX7_countWays 80 = .ok (.aload_n 0, 1) := by decide +kernel
theorem dX7_countWays_81 : decode cX7_countWays 81 = .ok (.aload_n 1, 1) := by decide +kernel
theorem dX7_countWays_82 : decode cX7_countWays 82 = .ok (.iload 4, 2) := by decide +kernel
theorem dX7_countWays_84 : decode cX7_countWays 84 = .ok (.iload_n 2, 1) := by decide +kernel
theorem dX7_countWays_85 : decode cX7_countWays 85 = .ok (.invokevirtual 106, 3) := by decide +kernel
theorem dX7_countWays_88 : decode cX7_countWays 88 = .ok (.iinc 4 1, 3) := by decide +kernel
theorem dX7_countWays_91 : decode cX7_countWays 91 = .ok (.goto (-17), 3) := by decide +kernel
theorem dX7_countWays_94 : decode cX7_countWays 94 = .ok (.iinc 2 1, 3) := by decide +kernel
theorem dX7_countWays_97 : decode cX7_countWays 97 = .ok (.goto (-91), 3) := by decide +kernel
theorem dX7_countWays_100 : decode cX7_countWays 100 = .ok (.aload_n 1, 1) := by decide +kernel
theorem dX7_countWays_101 : decode cX7_countWays 101 = .ok (.aload_n 0, 1) := by decide +kernel
theorem dX7_countWays_102 : decode cX7_countWays 102 = .ok (.getfield 42, 3) := by decide +kernel
theorem dX7_countWays_105 : decode cX7_countWays 105 = .ok (.invokevirtual 99, 3) := by decide +kernel
theorem dX7_countWays_108 : decode cX7_countWays 108 = .ok (.iaload, 1) := by decide +kernel
theorem dX7_countWays_109 : decode cX7_countWays 109 = .ok (.ireturn, 1) := by decide +kernel
set_option maxRecDepth 20000 in
theorem ggX7_addWays_X7_gainOfTwo : GoodIn wsX7_addWays wsX7_gainOfTwo := goodIn_r _ [11, 12, 13, 14, 15, 16, 17, 18, 19, 20, 21, 22, 23, 24, 25, 26, 27, 28, 29, 30, 31, 32, 33, 34, 35, 36, 37, 38, 39, 40, 41, 42, 43, 44, 45] (by decide +kernel) (by decide +kernel)
set_option maxRecDepth 20000 in
theorem gX7_addWays_X7_gainOfTwo : GoodIn wsX7_addWays (wsV RX7 93 RX7 yX7_gainOfTwo wsX7_gainOfTwo) := goodIn_app (goodIn_of _ (by decide +kernel)) ggX7_addWays_X7_gainOfTwo
theorem dX7_addWays_0 : decode cX7_addWays 0 = .ok (.aload_n 0, 1) := by decide +kernel
theorem dX7_addWays_1 : decode cX7_addWays 1 = .ok (.iload_n 2, 1) := by decide +kernel
theorem dX7_addWays_2 : decode cX7_addWays 2 = .ok (.iload_n 3, 1) := by decide +kernel
theorem dX7_addWays_3 : decode cX7_addWays 3 = .ok (.invokevirtual 93, 3) := by decide +kernel
theorem dX7_addWays_6 : decode cX7_addWays 6 = .ok (.istore 4, 2) := by decide +kernel
theorem dX7_addWays_8 : decode cX7_addWays 8 = .ok (.iconst 1, 1) := by decide +kernel
theorem dX7_addWays_9 : decode cX7_addWays 9 = .ok (.iload_n 3, 1) := by decide +kernel
theorem dX7_addWays_10 : decode cX7_addWays 10 = .ok (.ishl, 1) := by decide +kernel
theorem dX7_addWays_11 : decode cX7_addWays 11 = .ok (.iconst 1, 1) := by decide +kernel
theorem dX7_addWays_12 : decode cX7_addWays 12 = .ok (.iload_n 2, 1) := by decide +kernel
theorem dX7_addWays_13 : decode cX7_addWays 13 = .ok (.ishl, 1) := by decide +kernel
theorem dX7_addWays_14 : decode cX7_addWays 14 = .ok (.ior, 1) := by decide +kernel
theorem dX7_addWays_15 : decode cX7_addWays 15 = .ok (.istore 5, 2) := by decide +kernel
theorem dX7_addWays_17 : decode cX7_addWays 17 = .ok (.iload 5, 2) := by decide +kernel
theorem dX7_addWays_19 : decode cX7_addWays 19 = .ok (.istore 6, 2) := by decide +kernel
theorem dX7_addWays_21 : decode cX7_addWays 21 = .ok (.iload 4, 2) := by decide +kernel
theorem dX7_addWays_23 : decode cX7_addWays 23 = .ok (.ifCond .le 71, 3) := by decide +kernel
theorem dX7_addWays_26 : decode cX7_addWays 26 = .ok (.iload 6, 2) := by decide +kernel
theorem dX7_addWays_28 : decode cX7_addWays 28 = .ok (.iconst 2, 1) := by decide +kernel
theorem dX7_addWays_29 : decode cX7_addWays 29 = .ok (.iload_n 3, 1) := by decide +kernel
theorem dX7_addWays_30 : decode cX7_addWays 30 = .ok (.ishl, 1) := by decide +kernel
theorem dX7_addWays_31 : decode cX7_addWays 31 = .ok (.if_icmp .ge 63, 3) := by decide +kernel
theorem dX7_addWays_34 : decode cX7_addWays 34 = .ok (.iload 6, 2) := by decide +kernel
theorem dX7_addWays_36 : decode cX7_addWays 36 = .ok (.iload 5, 2) := by decide +kernel
theorem dX7_addWays_38 : decode cX7_addWays 38 = .ok (.iand, 1) := by decide +kernel
theorem dX7_addWays_39 : decode cX7_addWays 39 = .ok (.iload 5, 2) := by decide +kernel
theorem dX7_addWays_41 : decode cX7_addWays 41 = .ok (.if_icmp .ne 47, 3) := by decide +kernel
theorem dX7_addWays_44 : decode cX7_addWays 44 = .ok (.aload_n 0, 1) := by decide +kernel
theorem dX7_addWays_45 : decode cX7_addWays 45 = .ok (.getfield 18, 3) := by decide +kernel
theorem dX7_addWays_48 : decode cX7_addWays 48 = .ok (.iload 6, 2) := by decide +kernel
theorem dX7_addWays_50 : decode cX7_addWays 50 = .ok (.iload 5, 2) := by decide +kernel
theorem dX7_addWays_52 : decode cX7_addWays 52 = .ok (.isub, 1) := by decide +kernel
theorem dX7_addWays_53 : decode cX7_addWays 53 = .ok (.iaload, 1) := by decide +kernel
theorem dX7_addWays_54 : decode cX7_addWays 54 = .ok (.iload 4, 2) := by decide +kernel
theorem dX7_addWays_56 : decode cX7_addWays 56 = .ok (.iadd, 1) := by decide +kernel
theorem dX7_addWays_57 : decode cX7_addWays 57 = .ok (.aload_n 0, 1) := by decide +kernel
theorem dX7_addWays_58 : decode cX7_addWays 58 = .ok (.getfield 18, 3) := by decide +kernel
theorem dX7_addWays_61 : decode cX7_addWays 61 = .ok (.iload 6, 2) := by decide +kernel
theorem dX7_addWays_63 : decode cX7_addWays 63 = .ok (.iaload, 1) := by decide +kernel
theorem dX7_addWays_64 : decode cX7_addWays 64 = .ok (.if_icmp .ne 24, 3) := by decide +kernel
theorem dX7_addWays_67 : decode cX7_addWays 67 = .ok (.aload_n 1, 1) := by decide +kernel
theorem dX7_addWays_68 : decode cX7_addWays 68 = .ok (.iload 6, 2) := by decide +kernel
theorem dX7_addWays_70 : decode cX7_addWays 70 = .ok (.ldc 110, 2) := by decide +kernel
theorem dX7_addWays_72 : decode cX7_addWays 72 = .ok (.aload_n 1, 1) := by decide +kernel
theorem dX7_addWays_73 : decode cX7_addWays 73 = .ok (.iload 6, 2) := by decide +kernel
theorem dX7_addWays_75 : decode cX7_addWays 75 = .ok (.iaload, 1) := by decide +kernel
theorem dX7_addWays_76 : decode cX7_addWays 76 = .ok (.aload_n 1, 1) := by decide +kernel
theorem dX7_addWays_77 : decode cX7_addWays 77 = .ok (.iload 6, 2) := by decide +kernel
theorem dX7_addWays_79 : decode cX7_addWays 79 = .ok (.iload 5, 2) := by decide +kernel
theorem dX7_addWays_81 : decode cX7_addWays 81 = .ok (.isub, 1) := by decide +kernel
theorem dX7_addWays_82 : decode cX7_addWays 82 = .ok (.iaload, 1) := by decide +kernel
theorem dX7_addWays_83 : decode cX7_addWays 83 = .ok (.iadd, 1) := by decide +kernel
theorem dX7_addWays_84 : decode cX7_addWays 84 = .ok (.invokestatic 111, 3) := by decide +kernel
theorem dX7_addWays_87 : decode cX7_addWays 87 = .ok (.iastore, 1) := by decide +kernel
theorem dX7_addWays_88 : decode cX7_addWays 88 = .ok (.iinc 6 1, 3) := by decide +kernel
theorem dX7_addWays_91 : decode cX7_addWays 91 = .ok (.goto (-70), 3) := by decide +kernel
theorem dX7_addWays_94 : decode cX7_addWays 94 = .ok (.return_, 1) := by decide +kernel
set_option maxRecDepth 20000 in
theorem ggX7_twiceWithHalves_X5_begin : GoodIn wsX7_twiceWithHalves wsX5_begin := goodIn_r _ [14, 15, 16, 17, 18, 19, 20, 21, 22, 23, 24, 83, 84, 85, 86, 87, 88, 89, 90] (by decide +kernel) (by decide +kernel)
set_option maxRecDepth 20000 in
theorem gX7_twiceWithHalves_X5_begin : GoodIn wsX7_twiceWithHalves (wsV RX7 114 RX5 yX5_begin wsX5_begin) := goodIn_app (goodIn_of _ (by decide +kernel)) ggX7_twiceWithHalves_X5_begin
set_option maxRecDepth 20000 in
theorem ggX7_twiceWithHalves_X5_weigh : GoodIn wsX7_twiceWithHalves wsX5_weigh := goodIn_r _ [28, 20, 83, 84, 85, 86, 87, 88, 89, 90] (by decide +kernel) (by decide +kernel)
set_option maxRecDepth 20000 in
theorem gX7_twiceWithHalves_X5_weigh : GoodIn wsX7_twiceWithHalves (wsV RX7 125 RX5 yX5_weigh wsX5_weigh) := goodIn_app (goodIn_of _ (by decide +kernel)) ggX7_twiceWithHalves_X5_weigh
set_option maxRecDepth 20000 in
theorem ggX7_twiceWithHalves_X5_greatest : GoodIn wsX7_twiceWithHalves wsX5_greatest := goodIn_r _ [32, 33, 34, 35, 19, 20, 21, 22, 23, 24, 36, 37, 38, 13, 39, 40, 41, 42, 43, 44, 45, 46, 47, 48, 49, 50, 51, 83, 84, 85, 86, 87, 88, 89, 90] (by decide +kernel) (by decide +kernel)
set_option maxRecDepth 20000 in
theorem gX7_twiceWithHalves_X5_greatest : GoodIn wsX7_twiceWithHalves (wsV RX7 129 RX5 yX5_greatest wsX5_greatest) := goodIn_app (goodIn_of _ (by decide +kernel)) ggX7_twiceWithHalves_X5_greatest
theorem dX7_twiceWithHalves_0 : decode cX7_twiceWithHalves 0 = .ok (.aload_n 0, 1) := by decide +kernel
theorem dX7_twiceWithHalves_1 : decode cX7_twiceWithHalves 1 = .ok (.getfield 76, 3) := by decide +kernel
theorem dX7_twiceWithHalves_4 : decode cX7_twiceWithHalves 4 = .ok (.ifCond .eq 83, 3) := by decide +kernel
theorem dX7_twiceWithHalves_7 : decode cX7_twiceWithHalves 7 = .ok (.aload_n 0, 1) := by decide +kernel
theorem dX7_twiceWithHalves_8 : decode cX7_twiceWithHalves 8 = .ok (.getfield 32, 3) := by decide +kernel
theorem dX7_twiceWithHalves_11 : decode cX7_twiceWithHalves 11 = .ok (.aload_n 0, 1) := by decide +kernel
theorem dX7_twiceWithHalves_12 : decode cX7_twiceWithHalves 12 = .ok (.getfield 42, 3) := by decide +kernel
theorem dX7_twiceWithHalves_15 : decode cX7_twiceWithHalves 15 = .ok (.getfield 66, 3) := by decide +kernel
theorem dX7_twiceWithHalves_18 : decode cX7_twiceWithHalves 18 = .ok (.invokevirtual 114, 3) := by decide +kernel
theorem dX7_twiceWithHalves_21 : decode cX7_twiceWithHalves 21 = .ok (.iconst 0, 1) := by decide +kernel
theorem dX7_twiceWithHalves_22 : decode cX7_twiceWithHalves 22 = .ok (.istore_n 1, 1) := by decide +kernel
theorem dX7_twiceWithHalves_23 : decode cX7_twiceWithHalves 23 = .ok (.iload_n 1, 1) := by decide +kernel
theorem dX7_twiceWithHalves_24 : decode cX7_twiceWithHalves 24 = .ok (.aload_n 0, 1) := by decide +kernel
theorem dX7_twiceWithHalves_25 : decode cX7_twiceWithHalves 25 = .ok (.getfield 42, 3) := by decide +kernel
theorem dX7_twiceWithHalves_28 : decode cX7_twiceWithHalves 28 = .ok (.getfield 43, 3) := by decide +kernel
theorem dX7_twiceWithHalves_31 : decode cX7_twiceWithHalves 31 = .ok (.if_icmp .ge 40, 3) := by decide +kernel
theorem dX7_twiceWithHalves_34 : decode cX7_twiceWithHalves 34 = .ok (.aload_n 0, 1) := by decide +kernel
theorem dX7_twiceWithHalves_35 : decode cX7_twiceWithHalves 35 = .ok (.getfield 32, 3) := by decide +kernel
theorem dX7_twiceWithHalves_38 : decode cX7_twiceWithHalves 38 = .ok (.aload_n 0, 1) := by decide +kernel
theorem dX7_twiceWithHalves_39 : decode cX7_twiceWithHalves 39 = .ok (.getfield 42, 3) := by decide +kernel
theorem dX7_twiceWithHalves_42 : decode cX7_twiceWithHalves 42 = .ok (.getfield 119, 3) := by decide +kernel
theorem dX7_twiceWithHalves_45 : decode cX7_twiceWithHalves 45 = .ok (.iload_n 1, 1) := by decide +kernel
theorem dX7_twiceWithHalves_46 : decode cX7_twiceWithHalves 46 = .ok (.iaload, 1) := by decide +kernel
theorem dX7_twiceWithHalves_47 : decode cX7_twiceWithHalves 47 = .ok (.aload_n 0, 1) := by decide +kernel
theorem dX7_twiceWithHalves_48 : decode cX7_twiceWithHalves 48 = .ok (.getfield 42, 3) := by decide +kernel
theorem dX7_twiceWithHalves_51 : decode cX7_twiceWithHalves 51 = .ok (.getfield 122, 3) := by decide +kernel
theorem dX7_twiceWithHalves_54 : decode cX7_twiceWithHalves 54 = .ok (.iload_n 1, 1) := by decide +kernel
theorem dX7_twiceWithHalves_55 : decode cX7_twiceWithHalves 55 = .ok (.iaload, 1) := by decide +kernel
theorem dX7_twiceWithHalves_56 : decode cX7_twiceWithHalves 56 = .ok (.aload_n 0, 1) := by decide +kernel
theorem dX7_twiceWithHalves_57 : decode cX7_twiceWithHalves 57 = .ok (.getfield 22, 3) := by decide +kernel
theorem dX7_twiceWithHalves_60 : decode cX7_twiceWithHalves 60 = .ok (.iload_n 1, 1) := by decide +kernel
theorem dX7_twiceWithHalves_61 : decode cX7_twiceWithHalves 61 = .ok (.iaload, 1) := by decide +kernel
theorem dX7_twiceWithHalves_62 : decode cX7_twiceWithHalves 62 = .ok (.invokevirtual 125, 3) := by decide +kernel
theorem dX7_twiceWithHalves_65 : decode cX7_twiceWithHalves 65 = .ok (.iinc 1 1, 3) := by decide +kernel
theorem dX7_twiceWithHalves_68 : decode cX7_twiceWithHalves 68 = .ok (.goto (-45), 3) := by decide +kernel
theorem dX7_twiceWithHalves_71 : decode cX7_twiceWithHalves 71 = .ok (.aload_n 0, 1) := by decide +kernel
theorem dX7_twiceWithHalves_72 : decode cX7_twiceWithHalves 72 = .ok (.aload_n 0, 1) := by decide +kernel
theorem dX7_twiceWithHalves_73 : decode cX7_twiceWithHalves 73 = .ok (.getfield 32, 3) := by decide +kernel
theorem dX7_twiceWithHalves_76 : decode cX7_twiceWithHalves 76 = .ok (.invokevirtual 129, 3) := by decide +kernel
theorem dX7_twiceWithHalves_79 : decode cX7_twiceWithHalves 79 = .ok (.putfield 132, 3) := by decide +kernel
theorem dX7_twiceWithHalves_82 : decode cX7_twiceWithHalves 82 = .ok (.aload_n 0, 1) := by decide +kernel
theorem dX7_twiceWithHalves_83 : decode cX7_twiceWithHalves 83 = .ok (.iconst 0, 1) := by decide +kernel
theorem dX7_twiceWithHalves_84 : decode cX7_twiceWithHalves 84 = .ok (.putfield 76, 3) := by decide +kernel
theorem dX7_twiceWithHalves_87 : decode cX7_twiceWithHalves 87 = .ok (.aload_n 0, 1) := by decide +kernel
theorem dX7_twiceWithHalves_88 : decode cX7_twiceWithHalves 88 = .ok (.getfield 132, 3) := by decide +kernel
theorem dX7_twiceWithHalves_91 : decode cX7_twiceWithHalves 91 = .ok (.ireturn, 1) := by decide +kernel
set_option maxRecDepth 20000 in
theorem ggX7_hasEnds_X6_everybody : GoodIn wsX7_hasEnds wsX6_everybody := goodIn_r _ [7, 8, 75, 76, 77, 78, 79, 80, 81, 82, 83, 84, 85, 86, 87, 88, 89, 90, 91, 92, 93, 94] (by decide +kernel) (by decide +kernel)
set_option maxRecDepth 20000 in
theorem gX7_hasEnds_X6_everybody : GoodIn wsX7_hasEnds (wsV RX7 99 RX6 yX6_everybody wsX6_everybody) := goodIn_app (goodIn_of _ (by decide +kernel)) ggX7_hasEnds_X6_everybody
set_option maxRecDepth 20000 in
theorem ggX7_hasEnds_X7_twiceWithHalves : GoodIn wsX7_hasEnds wsX7_twiceWithHalves := goodIn_r _ [13, 14, 15, 2, 16, 17, 18, 19, 20, 21, 22, 23, 24, 25, 26, 27, 28, 29, 30, 31, 32, 33, 34, 35, 36, 37, 38, 39, 40, 41, 42, 43, 44, 45, 46, 47, 48, 49, 50, 51, 52, 53, 54, 55, 56, 57, 58, 59, 60, 61, 62, 63, 64, 65, 66, 67, 68, 69, 70, 71, 72, 73, 74, 75, 76, 77, 78, 79, 80, 81, 82, 83, 84, 85, 86, 87, 88, 89, 90, 91, 92, 93, 94, 95, 96, 97, 98, 99, 100, 101, 102] rfl (by decide +kernel)
set_option maxRecDepth 20000 in
theorem gX7_hasEnds_X7_twiceWithHalves : GoodIn wsX7_hasEnds (wsV RX7 135 RX7 yX7_twiceWithHalves wsX7_twiceWithHalves) := goodIn_app (goodIn_of _ (by decide +kernel)) ggX7_hasEnds_X7_twiceWithHalves
theorem dX7_hasEnds_0 : decode cX7_hasEnds 0 = .ok (.iconst 2, 1) := by decide +kernel
theorem dX7_hasEnds_1 : decode cX7_hasEnds 1 = .ok (.aload_n 0, 1) := by decide +kernel
theorem dX7_hasEnds_2 : decode cX7_hasEnds 2 = .ok (.getfield 18, 3) := by decide +kernel
theorem dX7_hasEnds_5 : decode cX7_hasEnds 5 = .ok (.aload_n 0, 1) := by decide +kernel
theorem dX7_hasEnds_6 : decode cX7_hasEnds 6 = .ok (.getfield 42, 3) := by decide +kernel
theorem dX7_hasEnds_9 : decode cX7_hasEnds 9 = .ok (.invokevirtual 99, 3) := by decide +kernel
theorem dX7_hasEnds_12 : decode cX7_hasEnds 12 = .ok (.iaload, 1) := by decide +kernel
theorem dX7_hasEnds_13 : decode cX7_hasEnds 13 = .ok (.imul, 1) := by decide +kernel
theorem dX7_hasEnds_14 : decode cX7_hasEnds 14 = .ok (.aload_n 0, 1) := by decide +kernel
theorem dX7_hasEnds_15 : decode cX7_hasEnds 15 = .ok (.invokevirtual 135, 3) := by decide +kernel
theorem dX7_hasEnds_18 : decode cX7_hasEnds 18 = .ok (.if_icmp .ne 7, 3) := by decide +kernel
theorem dX7_hasEnds_21 : decode cX7_hasEnds 21 = .ok (.iconst 1, 1) := by decide +kernel
theorem dX7_hasEnds_22 : decode cX7_hasEnds 22 = .ok (.goto 4, 3) := by decide +kernel
theorem dX7_hasEnds_25 : decode cX7_hasEnds 25 = .ok (.iconst 0, 1) := by decide +kernel
theorem dX7_hasEnds_26 : decode cX7_hasEnds 26 = .ok (.ireturn, 1) := by decide +kernel
set_option maxRecDepth 20000 in
theorem ggX7_endOf_X7_freshBounds : GoodIn wsX7_endOf wsX7_freshBounds := goodIn_r _ [8, 9, 1, 2, 10, 11, 12, 13, 14, 15, 16, 17, 18, 19, 20, 21, 22, 23, 24, 25, 26, 27, 28, 29, 30, 31, 32, 33, 34, 35, 36, 37, 38, 39, 40, 41, 42, 43, 44, 45, 46, 47, 48, 49, 50, 51, 52, 53, 54, 55, 56, 57, 58, 59, 60, 69, 70, 71, 72, 73, 74, 75, 76, 77, 78, 79, 80, 81, 82, 83, 84, 85, 86, 87, 88, 89, 90, 91, 92, 93, 94, 95, 96, 97, 98, 99, 100, 101] rfl (by decide +kernel)
set_option maxRecDepth 20000 in
theorem gX7_endOf_X7_freshBounds : GoodIn wsX7_endOf (wsV RX7 138 RX7 yX7_freshBounds wsX7_freshBounds) := goodIn_app (goodIn_of _ (by decide +kernel)) ggX7_endOf_X7_freshBounds
set_option maxRecDepth 20000 in
theorem ggX7_endOf_X1_twiceMost : GoodIn wsX7_endOf wsX1_twiceMost := goodIn_r _ [64, 27, 100, 101] (by decide +kernel) (by decide +kernel)
set_option maxRecDepth 20000 in
theorem gX7_endOf_X1_twiceMost : GoodIn wsX7_endOf (wsV RX7 141 RX1 yX1_twiceMost wsX1_twiceMost) := goodIn_app (goodIn_of _ (by decide +kernel)) ggX7_endOf_X1_twiceMost
set_option maxRecDepth 20000 in
theorem ggX7_endOf_X1_twiceLeast : GoodIn wsX7_endOf wsX1_twiceLeast := goodIn_r _ [68, 27, 100, 101] (by decide +kernel) (by decide +kernel)
set_option maxRecDepth 20000 in
theorem gX7_endOf_X1_twiceLeast : GoodIn wsX7_endOf (wsV RX7 144 RX1 yX1_twiceLeast wsX1_twiceLeast) := goodIn_app (goodIn_of _ (by decide +kernel)) ggX7_endOf_X1_twiceLeast
theorem dX7_endOf_0 : decode cX7_endOf 0 = .ok (.aload_n 0, 1) := by decide +kernel
theorem dX7_endOf_1 : decode cX7_endOf 1 = .ok (.invokevirtual 138, 3) := by decide +kernel
theorem dX7_endOf_4 : decode cX7_endOf 4 = .ok (.iload_n 2, 1) := by decide +kernel
theorem dX7_endOf_5 : decode cX7_endOf 5 = .ok (.ifCond .eq 14, 3) := by decide +kernel
theorem dX7_endOf_8 : decode cX7_endOf 8 = .ok (.aload_n 0, 1) := by decide +kernel
theorem dX7_endOf_9 : decode cX7_endOf 9 = .ok (.getfield 12, 3) := by decide +kernel
theorem dX7_endOf_12 : decode cX7_endOf 12 = .ok (.iload_n 1, 1) := by decide +kernel
theorem dX7_endOf_13 : decode cX7_endOf 13 = .ok (.invokevirtual 141, 3) := by decide +kernel
theorem dX7_endOf_16 : decode cX7_endOf 16 = .ok (.goto 11, 3) := by decide +kernel
theorem dX7_endOf_19 : decode cX7_endOf 19 = .ok (.aload_n 0, 1) := by decide +kernel
theorem dX7_endOf_20 : decode cX7_endOf 20 = .ok (.getfield 12, 3) := by decide +kernel
theorem dX7_endOf_23 : decode cX7_endOf 23 = .ok (.iload_n 1, 1) := by decide +kernel
theorem dX7_endOf_24 : decode cX7_endOf 24 = .ok (.invokevirtual 144, 3) := by decide +kernel
theorem dX7_endOf_27 : decode cX7_endOf 27 = .ok (.istore_n 3, 1) := by decide +kernel
theorem dX7_endOf_28 : decode cX7_endOf 28 = .ok (.iconst 2, 1) := by decide +kernel
theorem dX7_endOf_29 : decode cX7_endOf 29 = .ok (.aload_n 0, 1) := by decide +kernel
theorem dX7_endOf_30 : decode cX7_endOf 30 = .ok (.getfield 42, 3) := by decide +kernel
theorem dX7_endOf_33 : decode cX7_endOf 33 = .ok (.getfield 147, 3) := by decide +kernel
theorem dX7_endOf_36 : decode cX7_endOf 36 = .ok (.iload_n 1, 1) := by decide +kernel
theorem dX7_endOf_37 : decode cX7_endOf 37 = .ok (.iaload, 1) := by decide +kernel
theorem dX7_endOf_38 : decode cX7_endOf 38 = .ok (.imul, 1) := by decide +kernel
theorem dX7_endOf_39 : decode cX7_endOf 39 = .ok (.iload_n 3, 1) := by decide +kernel
theorem dX7_endOf_40 : decode cX7_endOf 40 = .ok (.iadd, 1) := by decide +kernel
theorem dX7_endOf_41 : decode cX7_endOf 41 = .ok (.ireturn, 1) := by decide +kernel
set_option maxRecDepth 20000 in
theorem ggX7_bothEnd_X7_freshBounds : GoodIn wsX7_bothEnd wsX7_freshBounds := goodIn_r _ [8, 9, 1, 2, 10, 11, 12, 13, 14, 15, 16, 17, 18, 19, 20, 21, 22, 23, 24, 25, 26, 27, 28, 29, 30, 31, 32, 33, 34, 35, 36, 37, 38, 39, 40, 41, 42, 43, 44, 45, 46, 47, 48, 49, 50, 51, 52, 53, 54, 55, 56, 57, 58, 59, 60, 80, 81, 82, 83, 84, 85, 86, 87, 88, 89, 90, 91, 92, 93, 94, 95, 96, 97, 98, 99, 100, 101, 102, 103, 104, 105, 106, 107, 108, 109, 110, 111, 112] rfl (by decide +kernel)
set_option maxRecDepth 20000 in
theorem gX7_bothEnd_X7_freshBounds : GoodIn wsX7_bothEnd (wsV RX7 138 RX7 yX7_freshBounds wsX7_freshBounds) := goodIn_app (goodIn_of _ (by decide +kernel)) ggX7_bothEnd_X7_freshBounds
set_option maxRecDepth 20000 in
theorem ggX7_bothEnd_X1_twiceMostSum : GoodIn wsX7_bothEnd wsX1_twiceMostSum := goodIn_r _ [64, 27, 65, 66, 67, 20, 68, 69, 70, 71, 28, 22, 23, 24, 25, 111, 112] (by decide +kernel) (by decide +kernel)
set_option maxRecDepth 20000 in
theorem gX7_bothEnd_X1_twiceMostSum : GoodIn wsX7_bothEnd (wsV RX7 150 RX1 yX1_twiceMostSum wsX1_twiceMostSum) := goodIn_app (goodIn_of _ (by decide +kernel)) ggX7_bothEnd_X1_twiceMostSum
set_option maxRecDepth 20000 in
theorem ggX7_bothEnd_X1_twiceLeastSum : GoodIn wsX7_bothEnd wsX1_twiceLeastSum := goodIn_r _ [75, 27, 76, 77, 78, 20, 79, 69, 70, 71, 28, 22, 23, 24, 25, 111, 112] (by decide +kernel) (by decide +kernel)
set_option maxRecDepth 20000 in
theorem gX7_bothEnd_X1_twiceLeastSum : GoodIn wsX7_bothEnd (wsV RX7 153 RX1 yX1_twiceLeastSum wsX1_twiceLeastSum) := goodIn_app (goodIn_of _ (by decide +kernel)) ggX7_bothEnd_X1_twiceLeastSum
theorem dX7_bothEnd_0 : decode cX7_bothEnd 0 = .ok (.aload_n 0, 1) := by decide +kernel
theorem dX7_bothEnd_1 : decode cX7_bothEnd 1 = .ok (.invokevirtual 138, 3) := by decide +kernel
theorem dX7_bothEnd_4 : decode cX7_bothEnd 4 = .ok (.iload_n 3, 1) := by decide +kernel
theorem dX7_bothEnd_5 : decode cX7_bothEnd 5 = .ok (.ifCond .eq 15, 3) := by decide +kernel
theorem dX7_bothEnd_8 : decode cX7_bothEnd 8 = .ok (.aload_n 0, 1) := by decide +kernel
theorem dX7_bothEnd_9 : decode cX7_bothEnd 9 = .ok (.getfield 12, 3) := by decide +kernel
theorem dX7_bothEnd_12 : decode cX7_bothEnd 12 = .ok (.iload_n 1, 1) := by decide +kernel
theorem dX7_bothEnd_13 : decode cX7_bothEnd 13 = .ok (.iload_n 2, 1) := by decide +kernel
theorem dX7_bothEnd_14 : decode cX7_bothEnd 14 = .ok (.invokevirtual 150, 3) := by decide +kernel
theorem dX7_bothEnd_17 : decode cX7_bothEnd 17 = .ok (.goto 12, 3) := by decide +kernel
theorem dX7_bothEnd_20 : decode cX7_bothEnd 20 = .ok (.aload_n 0, 1) := by decide +kernel
theorem dX7_bothEnd_21 : decode cX7_bothEnd 21 = .ok (.getfield 12, 3) := by decide +kernel
theorem dX7_bothEnd_24 : decode cX7_bothEnd 24 = .ok (.iload_n 1, 1) := by decide +kernel
theorem dX7_bothEnd_25 : decode cX7_bothEnd 25 = .ok (.iload_n 2, 1) := by decide +kernel
theorem dX7_bothEnd_26 : decode cX7_bothEnd 26 = .ok (.invokevirtual 153, 3) := by decide +kernel
theorem dX7_bothEnd_29 : decode cX7_bothEnd 29 = .ok (.istore 4, 2) := by decide +kernel
theorem dX7_bothEnd_31 : decode cX7_bothEnd 31 = .ok (.iconst 2, 1) := by decide +kernel
theorem dX7_bothEnd_32 : decode cX7_bothEnd 32 = .ok (.aload_n 0, 1) := by decide +kernel
theorem dX7_bothEnd_33 : decode cX7_bothEnd 33 = .ok (.getfield 42, 3) := by decide +kernel
theorem dX7_bothEnd_36 : decode cX7_bothEnd 36 = .ok (.getfield 147, 3) := by decide +kernel
theorem dX7_bothEnd_39 : decode cX7_bothEnd 39 = .ok (.iload_n 1, 1) := by decide +kernel
theorem dX7_bothEnd_40 : decode cX7_bothEnd 40 = .ok (.iaload, 1) := by decide +kernel
theorem dX7_bothEnd_41 : decode cX7_bothEnd 41 = .ok (.aload_n 0, 1) := by decide +kernel
theorem dX7_bothEnd_42 : decode cX7_bothEnd 42 = .ok (.getfield 42, 3) := by decide +kernel
theorem dX7_bothEnd_45 : decode cX7_bothEnd 45 = .ok (.getfield 147, 3) := by decide +kernel
theorem dX7_bothEnd_48 : decode cX7_bothEnd 48 = .ok (.iload_n 2, 1) := by decide +kernel
theorem dX7_bothEnd_49 : decode cX7_bothEnd 49 = .ok (.iaload, 1) := by decide +kernel
theorem dX7_bothEnd_50 : decode cX7_bothEnd 50 = .ok (.iadd, 1) := by decide +kernel
theorem dX7_bothEnd_51 : decode cX7_bothEnd 51 = .ok (.imul, 1) := by decide +kernel
theorem dX7_bothEnd_52 : decode cX7_bothEnd 52 = .ok (.iload 4, 2) := by decide +kernel
theorem dX7_bothEnd_54 : decode cX7_bothEnd 54 = .ok (.iadd, 1) := by decide +kernel
theorem dX7_bothEnd_55 : decode cX7_bothEnd 55 = .ok (.ireturn, 1) := by decide +kernel
set_option maxRecDepth 20000 in
theorem ggX7_aheadEnd_X7_freshBounds : GoodIn wsX7_aheadEnd wsX7_freshBounds := goodIn_r _ [8, 9, 1, 2, 10, 11, 12, 13, 14, 15, 16, 17, 18, 19, 20, 21, 22, 23, 24, 25, 26, 27, 28, 29, 30, 31, 32, 33, 34, 35, 36, 37, 38, 39, 40, 41, 42, 43, 44, 45, 46, 47, 48, 49, 50, 51, 52, 53, 54, 55, 56, 57, 58, 59, 60, 76, 77, 78, 79, 80, 81, 82, 83, 84, 85, 86, 87, 88, 89, 90, 91, 92, 93, 94, 95, 96, 97, 98, 99, 100, 101, 102, 103, 104, 105, 106, 107, 108] rfl (by decide +kernel)
set_option maxRecDepth 20000 in
theorem gX7_aheadEnd_X7_freshBounds : GoodIn wsX7_aheadEnd (wsV RX7 138 RX7 yX7_freshBounds wsX7_freshBounds) := goodIn_app (goodIn_of _ (by decide +kernel)) ggX7_aheadEnd_X7_freshBounds
set_option maxRecDepth 20000 in
theorem ggX7_aheadEnd_X1_twiceMostAhead : GoodIn wsX7_aheadEnd wsX1_twiceMostAhead := goodIn_r _ [64, 27, 65, 66, 67, 20, 68, 69, 70, 71, 72, 73, 74, 75, 28, 22, 23, 24, 25, 107, 108] (by decide +kernel) (by decide +kernel)
set_option maxRecDepth 20000 in
theorem gX7_aheadEnd_X1_twiceMostAhead : GoodIn wsX7_aheadEnd (wsV RX7 156 RX1 yX1_twiceMostAhead wsX1_twiceMostAhead) := goodIn_app (goodIn_of _ (by decide +kernel)) ggX7_aheadEnd_X1_twiceMostAhead
theorem dX7_aheadEnd_0 : decode cX7_aheadEnd 0 = .ok (.aload_n 0, 1) := by decide +kernel
theorem dX7_aheadEnd_1 : decode cX7_aheadEnd 1 = .ok (.invokevirtual 138, 3) := by decide +kernel
theorem dX7_aheadEnd_4 : decode cX7_aheadEnd 4 = .ok (.iload_n 3, 1) := by decide +kernel
theorem dX7_aheadEnd_5 : decode cX7_aheadEnd 5 = .ok (.ifCond .eq 15, 3) := by decide +kernel
theorem dX7_aheadEnd_8 : decode cX7_aheadEnd 8 = .ok (.aload_n 0, 1) := by decide +kernel
theorem dX7_aheadEnd_9 : decode cX7_aheadEnd 9 = .ok (.getfield 12, 3) := by decide +kernel
theorem dX7_aheadEnd_12 : decode cX7_aheadEnd 12 = .ok (.iload_n 1, 1) := by decide +kernel
theorem dX7_aheadEnd_13 : decode cX7_aheadEnd 13 = .ok (.iload_n 2, 1) := by decide +kernel
theorem dX7_aheadEnd_14 : decode cX7_aheadEnd 14 = .ok (.invokevirtual 156, 3) := by decide +kernel
theorem dX7_aheadEnd_17 : decode cX7_aheadEnd 17 = .ok (.goto 13, 3) := by decide +kernel
theorem dX7_aheadEnd_20 : decode cX7_aheadEnd 20 = .ok (.aload_n 0, 1) := by decide +kernel
theorem dX7_aheadEnd_21 : decode cX7_aheadEnd 21 = .ok (.getfield 12, 3) := by decide +kernel
theorem dX7_aheadEnd_24 : decode cX7_aheadEnd 24 = .ok (.iload_n 2, 1) := by decide +kernel
theorem dX7_aheadEnd_25 : decode cX7_aheadEnd 25 = .ok (.iload_n 1, 1) := by decide +kernel
theorem dX7_aheadEnd_26 : decode cX7_aheadEnd 26 = .ok (.invokevirtual 156, 3) := by decide +kernel
theorem dX7_aheadEnd_29 : decode cX7_aheadEnd 29 = .ok (.ineg, 1) := by decide +kernel
theorem dX7_aheadEnd_30 : decode cX7_aheadEnd 30 = .ok (.istore 4, 2) := by decide +kernel
theorem dX7_aheadEnd_32 : decode cX7_aheadEnd 32 = .ok (.iconst 2, 1) := by decide +kernel
theorem dX7_aheadEnd_33 : decode cX7_aheadEnd 33 = .ok (.aload_n 0, 1) := by decide +kernel
theorem dX7_aheadEnd_34 : decode cX7_aheadEnd 34 = .ok (.getfield 42, 3) := by decide +kernel
theorem dX7_aheadEnd_37 : decode cX7_aheadEnd 37 = .ok (.getfield 147, 3) := by decide +kernel
theorem dX7_aheadEnd_40 : decode cX7_aheadEnd 40 = .ok (.iload_n 1, 1) := by decide +kernel
theorem dX7_aheadEnd_41 : decode cX7_aheadEnd 41 = .ok (.iaload, 1) := by decide +kernel
theorem dX7_aheadEnd_42 : decode cX7_aheadEnd 42 = .ok (.aload_n 0, 1) := by decide +kernel
theorem dX7_aheadEnd_43 : decode cX7_aheadEnd 43 = .ok (.getfield 42, 3) := by decide +kernel
theorem dX7_aheadEnd_46 : decode cX7_aheadEnd 46 = .ok (.getfield 147, 3) := by decide +kernel
theorem dX7_aheadEnd_49 : decode cX7_aheadEnd 49 = .ok (.iload_n 2, 1) := by decide +kernel
theorem dX7_aheadEnd_50 : decode cX7_aheadEnd 50 = .ok (.iaload, 1) := by decide +kernel
theorem dX7_aheadEnd_51 : decode cX7_aheadEnd 51 = .ok (.isub, 1) := by decide +kernel
theorem dX7_aheadEnd_52 : decode cX7_aheadEnd 52 = .ok (.imul, 1) := by decide +kernel
theorem dX7_aheadEnd_53 : decode cX7_aheadEnd 53 = .ok (.iload 4, 2) := by decide +kernel
theorem dX7_aheadEnd_55 : decode cX7_aheadEnd 55 = .ok (.iadd, 1) := by decide +kernel
theorem dX7_aheadEnd_56 : decode cX7_aheadEnd 56 = .ok (.ireturn, 1) := by decide +kernel
set_option maxRecDepth 20000 in
theorem ggX7_freshBounds_X1_begin : GoodIn wsX7_freshBounds wsX1_begin := goodIn_r _ [15, 16, 17, 18, 19, 20, 21, 22, 23, 24, 25, 26, 86, 87] (by decide +kernel) (by decide +kernel)
set_option maxRecDepth 20000 in
theorem gX7_freshBounds_X1_begin : GoodIn wsX7_freshBounds (wsV RX7 159 RX1 yX1_begin wsX1_begin) := goodIn_app (goodIn_of _ (by decide +kernel)) ggX7_freshBounds_X1_begin
set_option maxRecDepth 20000 in
theorem ggX7_freshBounds_X6_everybody : GoodIn wsX7_freshBounds wsX6_everybody := goodIn_r _ [31, 32, 66, 67, 68, 69, 70, 71, 72, 73, 74, 75, 76, 77, 78, 79, 80, 81, 82, 83, 84, 85] (by decide +kernel) (by decide +kernel)
set_option maxRecDepth 20000 in
theorem gX7_freshBounds_X6_everybody : GoodIn wsX7_freshBounds (wsV RX7 99 RX6 yX6_everybody wsX6_everybody) := goodIn_app (goodIn_of _ (by decide +kernel)) ggX7_freshBounds_X6_everybody
set_option maxRecDepth 20000 in
theorem ggX7_freshBounds_X1_atLeast : GoodIn wsX7_freshBounds wsX1_atLeast := goodIn_r _ [36, 21, 86, 87] (by decide +kernel) (by decide +kernel)
set_option maxRecDepth 20000 in
theorem gX7_freshBounds_X1_atLeast : GoodIn wsX7_freshBounds (wsV RX7 160 RX1 yX1_atLeast wsX1_atLeast) := goodIn_app (goodIn_of _ (by decide +kernel)) ggX7_freshBounds_X1_atLeast
set_option maxRecDepth 20000 in
theorem ggX7_freshBounds_X1_atMost : GoodIn wsX7_freshBounds wsX1_atMost := goodIn_r _ [40, 21, 86, 87] (by decide +kernel) (by decide +kernel)
set_option maxRecDepth 20000 in
theorem gX7_freshBounds_X1_atMost : GoodIn wsX7_freshBounds (wsV RX7 163 RX1 yX1_atMost wsX1_atMost) := goodIn_app (goodIn_of _ (by decide +kernel)) ggX7_freshBounds_X1_atMost
set_option maxRecDepth 20000 in
theorem ggX7_freshBounds_X6_pairOf : GoodIn wsX7_freshBounds wsX6_pairOf := goodIn_r _ [44, 45, 46, 66, 67, 68, 69, 70, 71, 72, 73, 74, 75, 76, 77, 78, 79, 80, 81, 82, 83, 84, 85] (by decide +kernel) (by decide +kernel)
set_option maxRecDepth 20000 in
theorem gX7_freshBounds_X6_pairOf : GoodIn wsX7_freshBounds (wsV RX7 103 RX6 yX6_pairOf wsX6_pairOf) := goodIn_app (goodIn_of _ (by decide +kernel)) ggX7_freshBounds_X6_pairOf
set_option maxRecDepth 20000 in
theorem ggX7_freshBounds_X1_nothingFor : GoodIn wsX7_freshBounds wsX1_nothingFor := goodIn_r _ [50, 21, 86, 87] (by decide +kernel) (by decide +kernel)
set_option maxRecDepth 20000 in
theorem gX7_freshBounds_X1_nothingFor : GoodIn wsX7_freshBounds (wsV RX7 166 RX1 yX1_nothingFor wsX1_nothingFor) := goodIn_app (goodIn_of _ (by decide +kernel)) ggX7_freshBounds_X1_nothingFor
set_option maxRecDepth 20000 in
theorem ggX7_freshBounds_X1_close : GoodIn wsX7_freshBounds wsX1_close := goodIn_r _ [54, 20, 21, 22, 86, 87] (by decide +kernel) (by decide +kernel)
set_option maxRecDepth 20000 in
theorem gX7_freshBounds_X1_close : GoodIn wsX7_freshBounds (wsV RX7 169 RX1 yX1_close wsX1_close) := goodIn_app (goodIn_of _ (by decide +kernel)) ggX7_freshBounds_X1_close
theorem dX7_freshBounds_0 : decode cX7_freshBounds 0 = .ok (.aload_n 0, 1) := by decide +kernel
theorem dX7_freshBounds_1 : decode cX7_freshBounds 1 = .ok (.getfield 80, 3) := by decide +kernel
theorem dX7_freshBounds_4 : decode cX7_freshBounds 4 = .ok (.ifCond .ne 4, 3) := by decide +kernel
theorem dX7_freshBounds_7 : decode cX7_freshBounds 7 = .ok (.return_, 1) := by decide +kernel
theorem dX7_freshBounds_8 : decode cX7_freshBounds 8 = .ok (.aload_n 0, 1) := by decide +kernel
theorem dX7_freshBounds_9 : decode cX7_freshBounds 9 = .ok (.getfield 12, 3) := by decide +kernel
theorem dX7_freshBounds_12 : decode cX7_freshBounds 12 = .ok (.aload_n 0, 1) := by decide +kernel
theorem dX7_freshBounds_13 : decode cX7_freshBounds 13 = .ok (.getfield 42, 3) := by decide +kernel
theorem dX7_freshBounds_16 : decode cX7_freshBounds 16 = .ok (.getfield 66, 3) := by decide +kernel
theorem dX7_freshBounds_19 : decode cX7_freshBounds 19 = .ok (.invokevirtual 159, 3) := by decide +kernel
theorem dX7_freshBounds_22 : decode cX7_freshBounds 22 = .ok (.aload_n 0, 1) := by decide +kernel
theorem dX7_freshBounds_23 : decode cX7_freshBounds 23 = .ok (.getfield 42, 3) := by decide +kernel
theorem dX7_freshBounds_26 : decode cX7_freshBounds 26 = .ok (.invokevirtual 99, 3) := by decide +kernel
theorem dX7_freshBounds_29 : decode cX7_freshBounds 29 = .ok (.istore_n 1, 1) := by decide +kernel
theorem dX7_freshBounds_30 : decode cX7_freshBounds 30 = .ok (.iconst 0, 1) := by decide +kernel
theorem dX7_freshBounds_31 : decode cX7_freshBounds 31 = .ok (.istore_n 2, 1) := by decide +kernel
theorem dX7_freshBounds_32 : decode cX7_freshBounds 32 = .ok (.iload_n 2, 1) := by decide +kernel
theorem dX7_freshBounds_33 : decode cX7_freshBounds 33 = .ok (.aload_n 0, 1) := by decide +kernel
theorem dX7_freshBounds_34 : decode cX7_freshBounds 34 = .ok (.getfield 42, 3) := by decide +kernel
theorem dX7_freshBounds_37 : decode cX7_freshBounds 37 = .ok (.getfield 43, 3) := by decide +kernel
theorem dX7_freshBounds_40 : decode cX7_freshBounds 40 = .ok (.if_icmp .ge 49, 3) := by decide +kernel
theorem dX7_freshBounds_43 : decode cX7_freshBounds 43 = .ok (.aload_n 0, 1) := by decide +kernel
theorem dX7_freshBounds_44 : decode cX7_freshBounds 44 = .ok (.getfield 22, 3) := by decide +kernel
theorem dX7_freshBounds_47 : decode cX7_freshBounds 47 = .ok (.iload_n 2, 1) := by decide +kernel
theorem dX7_freshBounds_48 : decode cX7_freshBounds 48 = .ok (.iaload, 1) := by decide +kernel
theorem dX7_freshBounds_49 : decode cX7_freshBounds 49 = .ok (.ifCond .le 34, 3) := by decide +kernel
theorem dX7_freshBounds_52 : decode cX7_freshBounds 52 = .ok (.aload_n 0, 1) := by decide +kernel
theorem dX7_freshBounds_53 : decode cX7_freshBounds 53 = .ok (.getfield 12, 3) := by decide +kernel
theorem dX7_freshBounds_56 : decode cX7_freshBounds 56 = .ok (.aload_n 0, 1) := by decide +kernel
theorem dX7_freshBounds_57 : decode cX7_freshBounds 57 = .ok (.getfield 42, 3) := by decide +kernel
theorem dX7_freshBounds_60 : decode cX7_freshBounds 60 = .ok (.getfield 119, 3) := by decide +kernel
theorem dX7_freshBounds_63 : decode cX7_freshBounds 63 = .ok (.iload_n 2, 1) := by decide +kernel
theorem dX7_freshBounds_64 : decode cX7_freshBounds 64 = .ok (.iaload, 1) := by decide +kernel
theorem dX7_freshBounds_65 : decode cX7_freshBounds 65 = .ok (.aload_n 0, 1) := by decide +kernel
theorem dX7_freshBounds_66 : decode cX7_freshBounds 66 = .ok (.getfield 42, 3) := by decide +kernel
theorem dX7_freshBounds_69 : decode cX7_freshBounds 69 = .ok (.getfield 122, 3) := by decide +kernel
theorem dX7_freshBounds_72 : decode cX7_freshBounds 72 = .ok (.iload_n 2, 1) := by decide +kernel
theorem dX7_freshBounds_73 : decode cX7_freshBounds 73 = .ok (.iaload, 1) := by decide +kernel
theorem dX7_freshBounds_74 : decode cX7_freshBounds 74 = .ok (.aload_n 0, 1) := by decide +kernel
theorem dX7_freshBounds_75 : decode cX7_freshBounds 75 = .ok (.getfield 22, 3) := by decide +kernel
theorem dX7_freshBounds_78 : decode cX7_freshBounds 78 = .ok (.iload_n 2, 1) := by decide +kernel
theorem dX7_freshBounds_79 : decode cX7_freshBounds 79 = .ok (.iaload, 1) := by decide +kernel
theorem dX7_freshBounds_80 : decode cX7_freshBounds 80 = .ok (.invokevirtual 160, 3) := by decide +kernel
theorem dX7_freshBounds_83 : decode cX7_freshBounds 83 = .ok (.iinc 2 1, 3) := by decide +kernel
theorem dX7_freshBounds_86 : decode cX7_freshBounds 86 = .ok (.goto (-54), 3) := by decide +kernel
theorem dX7_freshBounds_89 : decode cX7_freshBounds 89 = .ok (.iconst 0, 1) := by decide +kernel
theorem dX7_freshBounds_90 : decode cX7_freshBounds 90 = .ok (.istore_n 2, 1) := by decide +kernel
theorem dX7_freshBounds_91 : decode cX7_freshBounds 91 = .ok (.iload_n 2, 1) := by decide +kernel
theorem dX7_freshBounds_92 : decode cX7_freshBounds 92 = .ok (.aload_n 0, 1) := by decide +kernel
theorem dX7_freshBounds_93 : decode cX7_freshBounds 93 = .ok (.getfield 96, 3) := by decide +kernel
theorem dX7_freshBounds_96 : decode cX7_freshBounds 96 = .ok (.if_icmp .ge 71, 3) := by decide +kernel
theorem dX7_freshBounds_99 : decode cX7_freshBounds 99 = .ok (.aload_n 0, 1) := by decide +kernel
theorem dX7_freshBounds_100 : decode cX7_freshBounds 100 = .ok (.getfield 12, 3) := by decide +kernel
theorem dX7_freshBounds_103 : decode cX7_freshBounds 103 = .ok (.aload_n 0, 1) := by decide +kernel
theorem dX7_freshBounds_104 : decode cX7_freshBounds 104 = .ok (.getfield 42, 3) := by decide +kernel
theorem dX7_freshBounds_107 : decode cX7_freshBounds 107 = .ok (.getfield 119, 3) := by decide +kernel
theorem dX7_freshBounds_110 : decode cX7_freshBounds 110 = .ok (.aload_n 0, 1) := by decide +kernel
theorem dX7_freshBounds_111 : decode cX7_freshBounds 111 = .ok (.getfield 25, 3) := by decide +kernel
theorem dX7_freshBounds_114 : decode cX7_freshBounds 114 = .ok (.iload_n 2, 1) := by decide +kernel
theorem dX7_freshBounds_115 : decode cX7_freshBounds 115 = .ok (.iaload, 1) := by decide +kernel
theorem dX7_freshBounds_116 : decode cX7_freshBounds 116 = .ok (.iaload, 1) := by decide +kernel
theorem dX7_freshBounds_117 : decode cX7_freshBounds 117 = .ok (.aload_n 0, 1) := by decide +kernel
theorem dX7_freshBounds_118 : decode cX7_freshBounds 118 = .ok (.getfield 42, 3) := by decide +kernel
theorem dX7_freshBounds_121 : decode cX7_freshBounds 121 = .ok (.getfield 122, 3) := by decide +kernel
theorem dX7_freshBounds_124 : decode cX7_freshBounds 124 = .ok (.aload_n 0, 1) := by decide +kernel
theorem dX7_freshBounds_125 : decode cX7_freshBounds 125 = .ok (.getfield 25, 3) := by decide +kernel
theorem dX7_freshBounds_128 : decode cX7_freshBounds 128 = .ok (.iload_n 2, 1) := by decide +kernel
theorem dX7_freshBounds_129 : decode cX7_freshBounds 129 = .ok (.iaload, 1) := by decide +kernel
theorem dX7_freshBounds_130 : decode cX7_freshBounds 130 = .ok (.iaload, 1) := by decide +kernel
theorem dX7_freshBounds_131 : decode cX7_freshBounds 131 = .ok (.aload_n 0, 1) := by decide +kernel
theorem dX7_freshBounds_132 : decode cX7_freshBounds 132 = .ok (.getfield 22, 3) := by decide +kernel
theorem dX7_freshBounds_135 : decode cX7_freshBounds 135 = .ok (.aload_n 0, 1) := by decide +kernel
theorem dX7_freshBounds_136 : decode cX7_freshBounds 136 = .ok (.getfield 25, 3) := by decide +kernel
theorem dX7_freshBounds_139 : decode cX7_freshBounds 139 = .ok (.iload_n 2, 1) := by decide +kernel
theorem dX7_freshBounds_140 : decode cX7_freshBounds 140 = .ok (.iaload, 1) := by decide +kernel
theorem dX7_freshBounds_141 : decode cX7_freshBounds 141 = .ok (.iaload, 1) := by decide +kernel
theorem dX7_freshBounds_142 : decode cX7_freshBounds 142 = .ok (.invokevirtual 163, 3) := by decide +kernel
theorem dX7_freshBounds_145 : decode cX7_freshBounds 145 = .ok (.iload_n 1, 1) := by decide +kernel
theorem dX7_freshBounds_146 : decode cX7_freshBounds 146 = .ok (.aload_n 0, 1) := by decide +kernel
theorem dX7_freshBounds_147 : decode cX7_freshBounds 147 = .ok (.getfield 42, 3) := by decide +kernel
theorem dX7_freshBounds_150 : decode cX7_freshBounds 150 = .ok (.aload_n 0, 1) := by decide +kernel
theorem dX7_freshBounds_151 : decode cX7_freshBounds 151 = .ok (.getfield 25, 3) := by decide +kernel
theorem dX7_freshBounds_154 : decode cX7_freshBounds 154 = .ok (.iload_n 2, 1) := by decide +kernel
theorem dX7_freshBounds_155 : decode cX7_freshBounds 155 = .ok (.iaload, 1) := by decide +kernel
theorem dX7_freshBounds_156 : decode cX7_freshBounds 156 = .ok (.invokevirtual 103, 3) := by decide +kernel
theorem dX7_freshBounds_159 : decode cX7_freshBounds 159 = .ok (.isub, 1) := by decide +kernel
theorem dX7_freshBounds_160 : decode cX7_freshBounds 160 = .ok (.istore_n 1, 1) := by decide +kernel
theorem dX7_freshBounds_161 : decode cX7_freshBounds 161 = .ok (.iinc 2 1, 3) := by decide +kernel
theorem dX7_freshBounds_164 : decode cX7_freshBounds 164 = .ok (.goto (-73), 3) := by decide +kernel
theorem dX7_freshBounds_167 : decode cX7_freshBounds 167 = .ok (.iconst 0, 1) := by decide +kernel
theorem dX7_freshBounds_168 : decode cX7_freshBounds 168 = .ok (.istore_n 2, 1) := by decide +kernel
theorem dX7_freshBounds_169 : decode cX7_freshBounds 169 = .ok (.iload_n 2, 1) := by decide +kernel
theorem dX7_freshBounds_170 : decode cX7_freshBounds 170 = .ok (.aload_n 0, 1) := by decide +kernel
theorem dX7_freshBounds_171 : decode cX7_freshBounds 171 = .ok (.getfield 42, 3) := by decide +kernel
theorem dX7_freshBounds_174 : decode cX7_freshBounds 174 = .ok (.getfield 66, 3) := by decide +kernel
theorem dX7_freshBounds_177 : decode cX7_freshBounds 177 = .ok (.if_icmp .ge 25, 3) := by decide +kernel
theorem dX7_freshBounds_180 : decode cX7_freshBounds 180 = .ok (.iload_n 1, 1) := by decide +kernel
theorem dX7_freshBounds_181 : decode cX7_freshBounds 181 = .ok (.iload_n 2, 1) := by decide +kernel
theorem dX7_freshBounds_182 : decode cX7_freshBounds 182 = .ok (.ishr, 1) := by decide +kernel
theorem dX7_freshBounds_183 : decode cX7_freshBounds 183 = .ok (.iconst 1, 1) := by decide +kernel
theorem dX7_freshBounds_184 : decode cX7_freshBounds 184 = .ok (.iand, 1) := by decide +kernel
theorem dX7_freshBounds_185 : decode cX7_freshBounds 185 = .ok (.ifCond .eq 11, 3) := by decide +kernel
theorem dX7_freshBounds_188 : decode cX7_freshBounds 188 = .ok (.aload_n 0, 1) := by decide +kernel
theorem dX7_freshBounds_189 : decode cX7_freshBounds 189 = .ok (.getfield 12, 3) := by decide +kernel
theorem dX7_freshBounds_192 : decode cX7_freshBounds 192 = .ok (.iload_n 2, 1) := by decide +kernel
theorem dX7_freshBounds_193 : decode cX7_freshBounds 193 = .ok (.invokevirtual 166, 3) := by decide +kernel
theorem dX7_freshBounds_196 : decode cX7_freshBounds 196 = .ok (.iinc 2 1, 3) := by decide +kernel
theorem dX7_freshBounds_199 : decode cX7_freshBounds 199 = .ok (.goto (-30), 3) := by decide +kernel
theorem dX7_freshBounds_202 : decode cX7_freshBounds 202 = .ok (.aload_n 0, 1) := by decide +kernel
theorem dX7_freshBounds_203 : decode cX7_freshBounds 203 = .ok (.getfield 12, 3) := by decide +kernel
theorem dX7_freshBounds_206 : decode cX7_freshBounds 206 = .ok (.invokevirtual 169, 3) := by decide +kernel
theorem dX7_freshBounds_209 : decode cX7_freshBounds 209 = .ok (.aload_n 0, 1) := by decide +kernel
theorem dX7_freshBounds_210 : decode cX7_freshBounds 210 = .ok (.iconst 0, 1) := by decide +kernel
theorem dX7_freshBounds_211 : decode cX7_freshBounds 211 = .ok (.putfield 80, 3) := by decide +kernel
theorem dX7_freshBounds_214 : decode cX7_freshBounds 214 = .ok (.return_, 1) := by decide +kernel
set_option maxRecDepth 20000 in
theorem ggX8_init_X6_init : GoodIn wsX8_init wsX6_init := goodIn_r _ [15, 16, 2, 3, 17, 18, 19, 20, 21, 22, 23, 24, 25, 26, 27, 28, 29, 30, 31, 32, 33, 34, 35, 36, 45, 46, 47, 48, 49, 50, 51, 52, 53, 54, 55, 56, 57, 58, 59, 60, 61, 62, 63, 64] (by decide +kernel) (by decide +kernel)
set_option maxRecDepth 20000 in
theorem gX8_init_X6_init : GoodIn wsX8_init (wsX6_init) := ggX8_init_X6_init
set_option maxRecDepth 20000 in
theorem ggX8_init_X9_init : GoodIn wsX8_init wsX9_init := goodIn_r _ [39, 40, 2, 3, 17, 41, 42, 43, 44, 73, 74, 75, 76, 77, 78, 79, 80, 81] (by decide +kernel) (by decide +kernel)
set_option maxRecDepth 20000 in
theorem gX8_init_X9_init : GoodIn wsX8_init (wsX9_init) := ggX8_init_X9_init
theorem dX8_init_0 : decode cX8_init 0 = .ok (.aload_n 0, 1) := by decide +kernel
theorem dX8_init_1 : decode cX8_init 1 = .ok (.invokespecial 3, 3) := by decide +kernel
theorem dX8_init_4 : decode cX8_init 4 = .ok (.aload_n 0, 1) := by decide +kernel
theorem dX8_init_5 : decode cX8_init 5 = .ok (.new 9, 3) := by decide +kernel
theorem dX8_init_8 : decode cX8_init 8 = .ok (.dup, 1) := by decide +kernel
theorem dX8_init_9 : decode cX8_init 9 = .ok (.invokespecial 11, 3) := by decide +kernel
theorem dX8_init_12 : decode cX8_init 12 = .ok (.putfield 12, 3) := by decide +kernel
theorem dX8_init_15 : decode cX8_init 15 = .ok (.aload_n 0, 1) := by decide +kernel
theorem dX8_init_16 : decode cX8_init 16 = .ok (.iconst (-1), 1) := by decide +kernel
theorem dX8_init_17 : decode cX8_init 17 = .ok (.putfield 18, 3) := by decide +kernel
theorem dX8_init_20 : decode cX8_init 20 = .ok (.aload_n 0, 1) := by decide +kernel
theorem dX8_init_21 : decode cX8_init 21 = .ok (.new 22, 3) := by decide +kernel
theorem dX8_init_24 : decode cX8_init 24 = .ok (.dup, 1) := by decide +kernel
theorem dX8_init_25 : decode cX8_init 25 = .ok (.aload_n 1, 1) := by decide +kernel
theorem dX8_init_26 : decode cX8_init 26 = .ok (.invokespecial 24, 3) := by decide +kernel
theorem dX8_init_29 : decode cX8_init 29 = .ok (.putfield 27, 3) := by decide +kernel
theorem dX8_init_32 : decode cX8_init 32 = .ok (.return_, 1) := by decide +kernel
theorem dX8_exchange_0 : decode cX8_exchange 0 = .ok (.aload_n 0, 1) := by decide +kernel
theorem dX8_exchange_1 : decode cX8_exchange 1 = .ok (.getfield 12, 3) := by decide +kernel
theorem dX8_exchange_4 : decode cX8_exchange 4 = .ok (.astore_n 2, 1) := by decide +kernel
theorem dX8_exchange_5 : decode cX8_exchange 5 = .ok (.aload_n 0, 1) := by decide +kernel
theorem dX8_exchange_6 : decode cX8_exchange 6 = .ok (.aload_n 1, 1) := by decide +kernel
theorem dX8_exchange_7 : decode cX8_exchange 7 = .ok (.putfield 12, 3) := by decide +kernel
theorem dX8_exchange_10 : decode cX8_exchange 10 = .ok (.aload_n 2, 1) := by decide +kernel
theorem dX8_exchange_11 : decode cX8_exchange 11 = .ok (.areturn, 1) := by decide +kernel
set_option maxRecDepth 20000 in
theorem ggX8_read_X6_clear : GoodIn wsX8_read wsX6_clear := goodIn_r _ [12, 13, 14, 15, 16, 17, 18, 19, 20, 21, 22, 23, 24, 25, 26, 274, 275, 276, 277, 278, 279, 280, 281, 282, 283, 284, 285, 286, 287, 288, 289, 290, 291, 292, 293] (by decide +kernel) (by decide +kernel)
set_option maxRecDepth 20000 in
theorem gX8_read_X6_clear : GoodIn wsX8_read (wsV RX8 31 RX6 yX6_clear wsX6_clear) := goodIn_app (goodIn_of _ (by decide +kernel)) ggX8_read_X6_clear
set_option maxRecDepth 20000 in
theorem ggX8_read_X9_scan : GoodIn wsX8_read wsX9_scan := goodIn_r _ [31, 32, 33, 34, 35, 36, 37, 38, 39, 40, 41, 42, 30, 43, 44, 45, 46, 47, 48, 49, 50, 51, 52, 53, 54, 55, 56, 57, 58, 59, 60, 61, 62, 63, 64, 65, 66, 67, 68, 69, 70, 71, 72, 73, 74, 75, 76, 77, 78, 79, 80, 81, 82, 83, 84, 85, 86, 87, 88, 89, 90, 91, 92, 93, 94, 95, 96, 97, 98, 99, 100, 101, 102, 103, 104, 105, 106, 107, 108, 109, 110, 111, 112, 113, 114, 115, 116, 117, 118, 119, 120, 121, 122, 123, 124, 125, 126, 127, 128, 129, 130, 131, 132, 133, 134, 294, 295, 296, 297, 298, 299, 300, 301, 302, 303, 304] rfl (by decide +kernel)
set_option maxRecDepth 20000 in
theorem gX8_read_X9_scan : GoodIn wsX8_read (wsV RX8 37 RX9 yX9_scan wsX9_scan) := goodIn_app (goodIn_of _ (by decide +kernel)) ggX8_read_X9_scan
set_option maxRecDepth 20000 in
theorem ggX8_read_X9_kindAt : GoodIn wsX8_read wsX9_kindAt := goodIn_r _ [138, 32, 35, 294, 295, 296, 297, 298, 299, 300, 301, 302] (by decide +kernel) (by decide +kernel)
set_option maxRecDepth 20000 in
theorem gX8_read_X9_kindAt : GoodIn wsX8_read (wsV RX8 43 RX9 yX9_kindAt wsX9_kindAt) := goodIn_app (goodIn_of _ (by decide +kernel)) ggX8_read_X9_kindAt
set_option maxRecDepth 20000 in
theorem ggX8_read_X8_isTooMany : GoodIn wsX8_read wsX8_isTooMany := goodIn_r _ [143, 6, 1, 144, 145, 146, 147, 266, 267, 268, 269, 270, 271, 272, 273, 274, 275, 276, 277, 278, 279, 280, 281, 282, 283, 284, 285, 286, 287, 288, 289, 290, 291, 292, 293] (by decide +kernel) (by decide +kernel)
set_option maxRecDepth 20000 in
theorem gX8_read_X8_isTooMany : GoodIn wsX8_read (wsV RX8 50 RX8 yX8_isTooMany wsX8_isTooMany) := goodIn_app (goodIn_of _ (by decide +kernel)) ggX8_read_X8_isTooMany
set_option maxRecDepth 20000 in
theorem ggX8_read_X8_fail : GoodIn wsX8_read wsX8_fail := goodIn_r _ [151, 2, 4, 5, 3, 152, 153, 154, 30, 155, 32, 36, 266, 267, 268, 269, 270, 271, 272, 273, 294, 295, 296, 297, 298, 299, 300, 301, 302] (by decide +kernel) (by decide +kernel)
set_option maxRecDepth 20000 in
theorem gX8_read_X8_fail : GoodIn wsX8_read (wsV RX8 54 RX8 yX8_fail wsX8_fail) := goodIn_app (goodIn_of _ (by decide +kernel)) ggX8_read_X8_fail
set_option maxRecDepth 20000 in
theorem ggX8_read_X8_whoLives : GoodIn wsX8_read wsX8_whoLives := goodIn_r _ [159, 6, 4, 5, 1, 160, 161, 162, 142, 163, 135, 136, 137, 30, 138, 32, 35, 148, 149, 150, 151, 2, 3, 152, 153, 154, 155, 36, 164, 165, 166, 167, 38, 168, 169, 170, 11, 171, 13, 172, 173, 174, 175, 176, 177, 178, 179, 180, 181, 182, 183, 184, 185, 266, 267, 268, 269, 270, 271, 272, 273, 294, 295, 296, 297, 298, 299, 300, 301, 302, 274, 275, 276, 277, 278, 279, 280, 281, 282, 283, 284, 285, 286, 287, 288, 289, 290, 291, 292, 293] rfl (by decide +kernel)
set_option maxRecDepth 20000 in
theorem gX8_read_X8_whoLives : GoodIn wsX8_read (wsV RX8 58 RX8 yX8_whoLives wsX8_whoLives) := goodIn_app (goodIn_of _ (by decide +kernel)) ggX8_read_X8_whoLives
set_option maxRecDepth 20000 in
theorem ggX8_read_X8_roadGoes : GoodIn wsX8_read wsX8_roadGoes := goodIn_r _ [189, 1, 190, 191, 192, 6, 193, 194, 195, 142, 196, 197, 198, 160, 161, 162, 163, 5, 4, 135, 136, 137, 30, 138, 32, 35, 199, 200, 201, 202, 148, 149, 150, 151, 2, 3, 152, 153, 154, 155, 36, 164, 165, 166, 167, 38, 168, 169, 170, 11, 171, 13, 172, 173, 174, 175, 176, 203, 204, 205, 206, 14, 207, 208, 209, 210, 211, 212, 213, 214, 215, 216, 217, 218, 219, 18, 220, 221, 222, 223, 224, 225, 226, 227, 228, 229, 230, 231, 232, 233, 234, 235, 236, 237, 238, 239, 240, 241, 242, 243, 244, 245, 246, 247, 248, 249, 20, 266, 267, 268, 269, 270, 271, 272, 273, 274, 275, 276, 277, 278, 279, 280, 281, 282, 283, 284, 285, 286, 287, 288, 289, 290, 291, 292, 293, 294, 295, 296, 297, 298, 299, 300, 301, 302] rfl (by decide +kernel)
set_option maxRecDepth 20000 in
theorem gX8_read_X8_roadGoes : GoodIn wsX8_read (wsV RX8 61 RX8 yX8_roadGoes wsX8_roadGoes) := goodIn_app (goodIn_of _ (by decide +kernel)) ggX8_read_X8_roadGoes
set_option maxRecDepth 20000 in
theorem ggX8_read_X8_tasteIs : GoodIn wsX8_read wsX8_tasteIs := goodIn_r _ [253, 6, 1, 191, 192, 193, 194, 195, 142, 196, 197, 198, 160, 161, 162, 163, 5, 4, 135, 136, 137, 30, 138, 32, 35, 199, 200, 201, 202, 148, 149, 150, 151, 2, 3, 152, 153, 154, 155, 36, 164, 165, 166, 167, 38, 168, 169, 170, 11, 171, 13, 172, 177, 178, 179, 180, 254, 255, 256, 257, 21, 22, 15, 266, 267, 268, 269, 270, 271, 272, 273, 274, 275, 276, 277, 278, 279, 280, 281, 282, 283, 284, 285, 286, 287, 288, 289, 290, 291, 292, 293, 294, 295, 296, 297, 298, 299, 300, 301, 302] rfl (by decide +kernel)
set_option maxRecDepth 20000 in
theorem gX8_read_X8_tasteIs : GoodIn wsX8_read (wsV RX8 64 RX8 yX8_tasteIs wsX8_tasteIs) := goodIn_app (goodIn_of _ (by decide +kernel)) ggX8_read_X8_tasteIs
set_option maxRecDepth 20000 in
theorem ggX8_read_X8_doubtIs : GoodIn wsX8_read wsX8_doubtIs := goodIn_r _ [261, 1, 191, 192, 193, 194, 195, 142, 196, 197, 198, 160, 161, 162, 163, 5, 4, 6, 135, 136, 137, 30, 138, 32, 35, 199, 200, 201, 202, 148, 149, 150, 151, 2, 3, 152, 153, 154, 155, 36, 164, 165, 166, 167, 38, 168, 169, 170, 11, 171, 13, 172, 177, 178, 179, 180, 262, 263, 264, 265, 20, 19, 16, 266, 267, 268, 269, 270, 271, 272, 273, 274, 275, 276, 277, 278, 279, 280, 281, 282, 283, 284, 285, 286, 287, 288, 289, 290, 291, 292, 293, 294, 295, 296, 297, 298, 299, 300, 301, 302] rfl (by decide +kernel)
set_option maxRecDepth 20000 in
theorem gX8_read_X8_doubtIs : GoodIn wsX8_read (wsV RX8 67 RX8 yX8_doubtIs wsX8_doubtIs) := goodIn_app (goodIn_of _ (by decide +kernel)) ggX8_read_X8_doubtIs
set_option maxRecDepth 20000 in
theorem ggX8_read_X8_skip : GoodIn wsX8_read wsX8_skip := goodIn_r _ [176, 6, 148, 149, 150, 142, 151, 2, 4, 5, 3, 152, 153, 154, 30, 155, 32, 36, 160, 161, 162, 163, 135, 136, 137, 138, 35, 266, 267, 268, 269, 270, 271, 272, 273, 294, 295, 296, 297, 298, 299, 300, 301, 302] (by decide +kernel) (by decide +kernel)
set_option maxRecDepth 20000 in
theorem gX8_read_X8_skip : GoodIn wsX8_read (wsV RX8 70 RX8 yX8_skip wsX8_skip) := goodIn_app (goodIn_of _ (by decide +kernel)) ggX8_read_X8_skip
theorem dX8_read_0 : decode cX8_read 0 = .ok (.aload_n 0, 1) := by decide +kernel
theorem dX8_read_1 : decode cX8_read 1 = .ok (.getfield 12, 3) := by decide +kernel
theorem dX8_read_4 : decode cX8_read 4 = .ok (.invokevirtual 31, 3) := by decide +kernel
theorem dX8_read_7 : decode cX8_read 7 = .ok (.aload_n 0, 1) := by decide +kernel
theorem dX8_read_8 : decode cX8_read 8 = .ok (.iconst 0, 1) := by decide +kernel
theorem dX8_read_9 : decode cX8_read 9 = .ok (.putfield 34, 3) := by decide +kernel
theorem dX8_read_12 : decode cX8_read 12 = .ok (.aload_n 0, 1) := by decide +kernel
theorem dX8_read_13 : decode cX8_read 13 = .ok (.iconst (-1), 1) := by decide +kernel
theorem dX8_read_14 : decode cX8_read 14 = .ok (.putfield 18, 3) := by decide +kernel
theorem dX8_read_17 : decode cX8_read 17 = .ok (.aload_n 0, 1) := by decide +kernel
theorem dX8_read_18 : decode cX8_read 18 = .ok (.getfield 27, 3) := by decide +kernel
theorem dX8_read_21 : decode cX8_read 21 = .ok (.invokevirtual 37, 3) := by decide +kernel
theorem dX8_read_24 : decode cX8_read 24 = .ok (.aload_n 0, 1) := by decide +kernel
theorem dX8_read_25 : decode cX8_read 25 = .ok (.iconst 0, 1) := by decide +kernel
theorem dX8_read_26 : decode cX8_read 26 = .ok (.putfield 40, 3) := by decide +kernel
theorem dX8_read_29 : decode cX8_read 29 = .ok (.aload_n 0, 1) := by decide +kernel
theorem dX8_read_30 : decode cX8_read 30 = .ok (.aload_n 0, 1) := by decide +kernel
theorem dX8_read_31 : decode cX8_read 31 = .ok (.getfield 27, 3) := by decide +kernel
theorem dX8_read_34 : decode cX8_read 34 = .ok (.iconst 0, 1) := by decide +kernel
theorem dX8_read_35 : decode cX8_read 35 = .ok (.invokevirtual 43, 3) := by decide +kernel
theorem dX8_read_38 : decode cX8_read 38 = .ok (.putfield 47, 3) := by decide +kernel
theorem dX8_read_41 : decode cX8_read 41 = .ok (.iconst 0, 1) := by decide +kernel
theorem dX8_read_42 : decode cX8_read 42 = .ok (.istore_n 1, 1) := by decide +kernel
theorem dX8_read_43 : decode cX8_read 43 = .ok (.iload_n 1, 1) := by decide +kernel
theorem dX8_read_44 : decode cX8_read 44 = .ok (.sipush 900, 3) := by decide +kernel
theorem dX8_read_47 : decode cX8_read 47 = .ok (.if_icmp .ge 149, 3) := by decide +kernel
theorem dX8_read_50 : decode cX8_read 50 = .ok (.aload_n 0, 1) := by decide +kernel
theorem dX8_read_51 : decode cX8_read 51 = .ok (.getfield 47, 3) := by decide +kernel
theorem dX8_read_54 : decode cX8_read 54 = .ok (.iconst (-1), 1) := by decide +kernel
theorem dX8_read_55 : decode cX8_read 55 = .ok (.if_icmp .eq 141, 3) := by decide +kernel
theorem dX8_read_58 : decode cX8_read 58 = .ok (.aload_n 0, 1) := by decide +kernel
theorem dX8_read_59 : decode cX8_read 59 = .ok (.invokevirtual 50, 3) := by decide +kernel
theorem dX8_read_62 : decode cX8_read 62 = .ok (.ifCond .eq 9, 3) := by decide +kernel
theorem dX8_read_65 : decode cX8_read 65 = .ok (.aload_n 0, 1) := by decide +kernel
theorem dX8_read_66 : decode cX8_read 66 = .ok (.iconst 5, 1) := by decide +kernel
theorem dX8_read_67 : decode cX8_read 67 = .ok (.invokevirtual 54, 3) := by decide +kernel
theorem dX8_read_70 : decode cX8_read 70 = .ok (.ireturn, 1) := by decide +kernel
theorem dX8_read_71 : decode cX8_read 71 = .ok (.iconst 0, 1) := by decide +kernel
theorem dX8_read_72 : decode cX8_read 72 = .ok (.istore_n 2, 1) := by decide +kernel
theorem dX8_read_73 : decode cX8_read 73 = .ok (.aload_n 0, 1) := by decide +kernel
theorem dX8_read_74 : decode cX8_read 74 = .ok (.getfield 47, 3) := by decide +kernel
theorem dX8_read_77 : decode cX8_read 77 = .ok (.tableswitch 79 256 263 #[47, 79, 55, 79, 79, 63, 79, 71], 47) := by decide +kernel
theorem dX8_read_124 : decode cX8_read 124 = .ok (.aload_n 0, 1) := by decide +kernel
theorem dX8_read_125 : decode cX8_read 125 = .ok (.invokevirtual 58, 3) := by decide +kernel
theorem dX8_read_128 : decode cX8_read 128 = .ok (.istore_n 2, 1) := by decide +kernel
theorem dX8_read_129 : decode cX8_read 129 = .ok (.goto 33, 3) := by decide +kernel
theorem dX8_read_132 : decode cX8_read 132 = .ok (.aload_n 0, 1) := by decide +kernel
theorem dX8_read_133 : decode cX8_read 133 = .ok (.invokevirtual 61, 3) := by decide +kernel
theorem dX8_read_136 : decode cX8_read 136 = .ok (.istore_n 2, 1) := by decide +kernel
theorem dX8_read_137 : decode cX8_read 137 = .ok (.goto 25, 3) := by decide +kernel
theorem dX8_read_140 : decode cX8_read 140 = .ok (.aload_n 0, 1) := by decide +kernel
theorem dX8_read_141 : decode cX8_read 141 = .ok (.invokevirtual 64, 3) := by decide +kernel
theorem dX8_read_144 : decode cX8_read 144 = .ok (.istore_n 2, 1) := by decide +kernel
theorem dX8_read_145 : decode cX8_read 145 = .ok (.goto 17, 3) := by decide +kernel
theorem dX8_read_148 : decode cX8_read 148 = .ok (.aload_n 0, 1) := by decide +kernel
theorem dX8_read_149 : decode cX8_read 149 = .ok (.invokevirtual 67, 3) := by decide +kernel
theorem dX8_read_152 : decode cX8_read 152 = .ok (.istore_n 2, 1) := by decide +kernel
theorem dX8_read_153 : decode cX8_read 153 = .ok (.goto 9, 3) := by decide +kernel
theorem dX8_read_156 : decode cX8_read 156 = .ok (.aload_n 0, 1) := by decide +kernel
theorem dX8_read_157 : decode cX8_read 157 = .ok (.iconst 1, 1) := by decide +kernel
theorem dX8_read_158 : decode cX8_read 158 = .ok (.invokevirtual 54, 3) := by decide +kernel
theorem dX8_read_161 : decode cX8_read 161 = .ok (.ireturn, 1) := by decide +kernel
theorem dX8_read_162 : decode cX8_read 162 = .ok (.iload_n 2, 1) := by decide +kernel
theorem dX8_read_163 : decode cX8_read 163 = .ok (.ifCond .eq 12, 3) := by decide +kernel
theorem dX8_read_166 : decode cX8_read 166 = .ok (.aload_n 0, 1) := by decide +kernel
theorem dX8_read_167 : decode cX8_read 167 = .ok (.bipush 59, 2) := by decide +kernel
theorem dX8_read_169 : decode cX8_read 169 = .ok (.invokevirtual 70, 3) := by decide +kernel
theorem dX8_read_172 : decode cX8_read 172 = .ok (.ifCond .ne 5, 3) := by decide +kernel
theorem dX8_read_175 : decode cX8_read 175 = .ok (.iconst 0, 1) := by decide +kernel
theorem dX8_read_176 : decode cX8_read 176 = .ok (.ireturn, 1) := by decide +kernel
theorem dX8_read_177 : decode cX8_read 177 = .ok (.aload_n 0, 1) := by decide +kernel
theorem dX8_read_178 : decode cX8_read 178 = .ok (.getfield 12, 3) := by decide +kernel
theorem dX8_read_181 : decode cX8_read 181 = .ok (.dup, 1) := by decide +kernel
theorem dX8_read_182 : decode cX8_read 182 = .ok (.getfield 73, 3) := by decide +kernel
theorem dX8_read_185 : decode cX8_read 185 = .ok (.iconst 1, 1) := by decide +kernel
theorem dX8_read_186 : decode cX8_read 186 = .ok (.iadd, 1) := by decide +kernel
theorem dX8_read_187 : decode cX8_read 187 = .ok (.putfield 73, 3) := by decide +kernel
theorem dX8_read_190 : decode cX8_read 190 = .ok (.iinc 1 1, 3) := by decide +kernel
theorem dX8_read_193 : decode cX8_read 193 = .ok (.goto (-150), 3) := by decide +kernel
theorem dX8_read_196 : decode cX8_read 196 = .ok (.iconst 1, 1) := by decide +kernel
theorem dX8_read_197 : decode cX8_read 197 = .ok (.ireturn, 1) := by decide +kernel
theorem dX8_isTooMany_0 : decode cX8_isTooMany 0 = .ok (.aload_n 0, 1) := by decide +kernel
theorem dX8_isTooMany_1 : decode cX8_isTooMany 1 = .ok (.getfield 47, 3) := by decide +kernel
theorem dX8_isTooMany_4 : decode cX8_isTooMany 4 = .ok (.tableswitch 120 256 263 #[48, 120, 66, 120, 120, 84, 120, 102], 48) := by decide +kernel
theorem dX8_isTooMany_52 : decode cX8_isTooMany 52 = .ok (.aload_n 0, 1) := by decide +kernel
theorem dX8_isTooMany_53 : decode cX8_isTooMany 53 = .ok (.getfield 12, 3) := by decide +kernel
theorem dX8_isTooMany_56 : decode cX8_isTooMany 56 = .ok (.getfield 76, 3) := by decide +kernel
theorem dX8_isTooMany_59 : decode cX8_isTooMany 59 = .ok (.bipush 12, 2) := by decide +kernel
theorem dX8_isTooMany_61 : decode cX8_isTooMany 61 = .ok (.if_icmp .lt 7, 3) := by decide +kernel
theorem dX8_isTooMany_64 : decode cX8_isTooMany 64 = .ok (.iconst 1, 1) := by decide +kernel
theorem dX8_isTooMany_65 : decode cX8_isTooMany 65 = .ok (.goto 4, 3) := by decide +kernel
theorem dX8_isTooMany_68 : decode cX8_isTooMany 68 = .ok (.iconst 0, 1) := by decide +kernel
theorem dX8_isTooMany_69 : decode cX8_isTooMany 69 = .ok (.ireturn, 1) := by decide +kernel
theorem dX8_isTooMany_70 : decode cX8_isTooMany 70 = .ok (.aload_n 0, 1) := by decide +kernel
theorem dX8_isTooMany_71 : decode cX8_isTooMany 71 = .ok (.getfield 12, 3) := by decide +kernel
theorem dX8_isTooMany_74 : decode cX8_isTooMany 74 = .ok (.getfield 79, 3) := by decide +kernel
theorem dX8_isTooMany_77 : decode cX8_isTooMany 77 = .ok (.bipush 30, 2) := by decide +kernel
theorem dX8_isTooMany_79 : decode cX8_isTooMany 79 = .ok (.if_icmp .lt 7, 3) := by decide +kernel
theorem dX8_isTooMany_82 : decode cX8_isTooMany 82 = .ok (.iconst 1, 1) := by decide +kernel
theorem dX8_isTooMany_83 : decode cX8_isTooMany 83 = .ok (.goto 4, 3) := by decide +kernel
theorem dX8_isTooMany_86 : decode cX8_isTooMany 86 = .ok (.iconst 0, 1) := by decide +kernel
theorem dX8_isTooMany_87 : decode cX8_isTooMany 87 = .ok (.ireturn, 1) := by decide +kernel
theorem dX8_isTooMany_88 : decode cX8_isTooMany 88 = .ok (.aload_n 0, 1) := by decide +kernel
theorem dX8_isTooMany_89 : decode cX8_isTooMany 89 = .ok (.getfield 12, 3) := by decide +kernel
theorem dX8_isTooMany_92 : decode cX8_isTooMany 92 = .ok (.getfield 82, 3) := by decide +kernel
theorem dX8_isTooMany_95 : decode cX8_isTooMany 95 = .ok (.bipush 24, 2) := by decide +kernel
theorem dX8_isTooMany_97 : decode cX8_isTooMany 97 = .ok (.if_icmp .lt 7, 3) := by decide +kernel
theorem dX8_isTooMany_100 : decode cX8_isTooMany 100 = .ok (.iconst 1, 1) := by decide +kernel
theorem dX8_isTooMany_101 : decode cX8_isTooMany 101 = .ok (.goto 4, 3) := by decide +kernel
theorem dX8_isTooMany_104 : decode cX8_isTooMany 104 = .ok (.iconst 0, 1) := by decide +kernel
theorem dX8_isTooMany_105 : decode cX8_isTooMany 105 = .ok (.ireturn, 1) := by decide +kernel
theorem dX8_isTooMany_106 : decode cX8_isTooMany 106 = .ok (.aload_n 0, 1) := by decide +kernel
theorem dX8_isTooMany_107 : decode cX8_isTooMany 107 = .ok (.getfield 12, 3) := by decide +kernel
theorem dX8_isTooMany_110 : decode cX8_isTooMany 110 = .ok (.getfield 85, 3) := by decide +kernel
theorem dX8_isTooMany_113 : decode cX8_isTooMany 113 = .ok (.bipush 24, 2) := by decide +kernel
theorem dX8_isTooMany_115 : decode cX8_isTooMany 115 = .ok (.if_icmp .lt 7, 3) := by decide +kernel
theorem dX8_isTooMany_118 : decode cX8_isTooMany 118 = .ok (.iconst 1, 1) := by decide +kernel
theorem dX8_isTooMany_119 : decode cX8_isTooMany 119 = .ok (.goto 4, 3) := by decide +kernel
theorem dX8_isTooMany_122 : decode cX8_isTooMany 122 = .ok (.iconst 0, 1) := by decide +kernel
theorem dX8_isTooMany_123 : decode cX8_isTooMany 123 = .ok (.ireturn, 1) := by decide +kernel
theorem dX8_isTooMany_124 : decode cX8_isTooMany 124 = .ok (.iconst 0, 1) := by decide +kernel
theorem dX8_isTooMany_125 : decode cX8_isTooMany 125 = .ok (.ireturn, 1) := by decide +kernel
set_option maxRecDepth 20000 in
theorem ggX8_whoLives_X8_step : GoodIn wsX8_whoLives wsX8_step := goodIn_r _ [9, 3, 2, 1, 10, 11, 12, 13, 14, 15, 16, 53, 54, 55, 56, 57, 58, 59, 60, 61, 62, 63, 64, 65, 66, 67, 68, 69] (by decide +kernel) (by decide +kernel)
set_option maxRecDepth 20000 in
theorem gX8_whoLives_X8_step : GoodIn wsX8_whoLives (wsV RX8 88 RX8 yX8_step wsX8_step) := goodIn_app (goodIn_of _ (by decide +kernel)) ggX8_whoLives_X8_step
set_option maxRecDepth 20000 in
theorem ggX8_whoLives_X8_fail : GoodIn wsX8_whoLives wsX8_fail := goodIn_r _ [20, 21, 2, 3, 22, 23, 24, 25, 13, 26, 15, 27, 53, 54, 55, 56, 57, 58, 59, 60, 61, 62, 63, 64, 65, 66, 67, 68, 69] (by decide +kernel) (by decide +kernel)
set_option maxRecDepth 20000 in
theorem gX8_whoLives_X8_fail : GoodIn wsX8_whoLives (wsV RX8 54 RX8 yX8_fail wsX8_fail) := goodIn_app (goodIn_of _ (by decide +kernel)) ggX8_whoLives_X8_fail
set_option maxRecDepth 20000 in
theorem ggX8_whoLives_X9_valueAt : GoodIn wsX8_whoLives wsX9_valueAt := goodIn_r _ [31, 15, 32, 61, 62, 63, 64, 65, 66, 67, 68, 69] (by decide +kernel) (by decide +kernel)
set_option maxRecDepth 20000 in
theorem gX8_whoLives_X9_valueAt : GoodIn wsX8_whoLives (wsV RX8 91 RX9 yX9_valueAt wsX9_valueAt) := goodIn_app (goodIn_of _ (by decide +kernel)) ggX8_whoLives_X9_valueAt
set_option maxRecDepth 20000 in
theorem ggX8_whoLives_X6_whoIs : GoodIn wsX8_whoLives wsX6_whoIs := goodIn_r _ [37, 38, 39, 70, 71, 72, 73, 74, 75, 76, 77, 78, 79, 80, 81, 82, 83, 84, 85, 86, 87, 88, 89] (by decide +kernel) (by decide +kernel)
set_option maxRecDepth 20000 in
theorem gX8_whoLives_X6_whoIs : GoodIn wsX8_whoLives (wsV RX8 94 RX6 yX6_whoIs wsX6_whoIs) := goodIn_app (goodIn_of _ (by decide +kernel)) ggX8_whoLives_X6_whoIs
set_option maxRecDepth 20000 in
theorem ggX8_whoLives_X8_skip : GoodIn wsX8_whoLives wsX8_skip := goodIn_r _ [43, 1, 17, 18, 19, 8, 20, 21, 2, 3, 22, 23, 24, 25, 13, 26, 15, 27, 5, 6, 7, 9, 10, 11, 12, 14, 16, 53, 54, 55, 56, 57, 58, 59, 60, 61, 62, 63, 64, 65, 66, 67, 68, 69] (by decide +kernel) (by decide +kernel)
set_option maxRecDepth 20000 in
theorem gX8_whoLives_X8_skip : GoodIn wsX8_whoLives (wsV RX8 70 RX8 yX8_skip wsX8_skip) := goodIn_app (goodIn_of _ (by decide +kernel)) ggX8_whoLives_X8_skip
set_option maxRecDepth 20000 in
theorem ggX8_whoLives_X8_number : GoodIn wsX8_whoLives wsX8_number := goodIn_r _ [47, 1, 2, 3, 17, 18, 19, 8, 20, 21, 22, 23, 24, 25, 13, 26, 15, 27, 28, 29, 30, 31, 32, 5, 6, 7, 9, 10, 11, 12, 14, 16, 53, 54, 55, 56, 57, 58, 59, 60, 61, 62, 63, 64, 65, 66, 67, 68, 69] (by decide +kernel) (by decide +kernel)
set_option maxRecDepth 20000 in
theorem gX8_whoLives_X8_number : GoodIn wsX8_whoLives (wsV RX8 97 RX8 yX8_number wsX8_number) := goodIn_app (goodIn_of _ (by decide +kernel)) ggX8_whoLives_X8_number
set_option maxRecDepth 20000 in
theorem ggX8_whoLives_X6_addWho : GoodIn wsX8_whoLives wsX6_addWho := goodIn_r _ [51, 38, 39, 52, 70, 71, 72, 73, 74, 75, 76, 77, 78, 79, 80, 81, 82, 83, 84, 85, 86, 87, 88, 89] (by decide +kernel) (by decide +kernel)
set_option maxRecDepth 20000 in
theorem gX8_whoLives_X6_addWho : GoodIn wsX8_whoLives (wsV RX8 101 RX6 yX6_addWho wsX6_addWho) := goodIn_app (goodIn_of _ (by decide +kernel)) ggX8_whoLives_X6_addWho
theorem dX8_whoLives_0 : decode cX8_whoLives 0 = .ok (.aload_n 0, 1) := by decide +kernel
theorem dX8_whoLives_1 : decode cX8_whoLives 1 = .ok (.invokevirtual 88, 3) := by decide +kernel
theorem dX8_whoLives_4 : decode cX8_whoLives 4 = .ok (.aload_n 0, 1) := by decide +kernel
theorem dX8_whoLives_5 : decode cX8_whoLives 5 = .ok (.getfield 47, 3) := by decide +kernel
theorem dX8_whoLives_8 : decode cX8_whoLives 8 = .ok (.sipush 280, 3) := by decide +kernel
theorem dX8_whoLives_11 : decode cX8_whoLives 11 = .ok (.if_icmp .eq 9, 3) := by decide +kernel
theorem dX8_whoLives_14 : decode cX8_whoLives 14 = .ok (.aload_n 0, 1) := by decide +kernel
theorem dX8_whoLives_15 : decode cX8_whoLives 15 = .ok (.iconst 1, 1) := by decide +kernel
theorem dX8_whoLives_16 : decode cX8_whoLives 16 = .ok (.invokevirtual 54, 3) := by decide +kernel
theorem dX8_whoLives_19 : decode cX8_whoLives 19 = .ok (.ireturn, 1) := by decide +kernel
theorem dX8_whoLives_20 : decode cX8_whoLives 20 = .ok (.aload_n 0, 1) := by decide +kernel
theorem dX8_whoLives_21 : decode cX8_whoLives 21 = .ok (.getfield 27, 3) := by decide +kernel
theorem dX8_whoLives_24 : decode cX8_whoLives 24 = .ok (.aload_n 0, 1) := by decide +kernel
theorem dX8_whoLives_25 : decode cX8_whoLives 25 = .ok (.getfield 40, 3) := by decide +kernel
theorem dX8_whoLives_28 : decode cX8_whoLives 28 = .ok (.invokevirtual 91, 3) := by decide +kernel
theorem dX8_whoLives_31 : decode cX8_whoLives 31 = .ok (.istore_n 1, 1) := by decide +kernel
theorem dX8_whoLives_32 : decode cX8_whoLives 32 = .ok (.aload_n 0, 1) := by decide +kernel
theorem dX8_whoLives_33 : decode cX8_whoLives 33 = .ok (.getfield 12, 3) := by decide +kernel
theorem dX8_whoLives_36 : decode cX8_whoLives 36 = .ok (.iload_n 1, 1) := by decide +kernel
theorem dX8_whoLives_37 : decode cX8_whoLives 37 = .ok (.invokevirtual 94, 3) := by decide +kernel
theorem dX8_whoLives_40 : decode cX8_whoLives 40 = .ok (.iconst (-1), 1) := by decide +kernel
theorem dX8_whoLives_41 : decode cX8_whoLives 41 = .ok (.if_icmp .eq 9, 3) := by decide +kernel
theorem dX8_whoLives_44 : decode cX8_whoLives 44 = .ok (.aload_n 0, 1) := by decide +kernel
theorem dX8_whoLives_45 : decode cX8_whoLives 45 = .ok (.iconst 2, 1) := by decide +kernel
theorem dX8_whoLives_46 : decode cX8_whoLives 46 = .ok (.invokevirtual 54, 3) := by decide +kernel
theorem dX8_whoLives_49 : decode cX8_whoLives 49 = .ok (.ireturn, 1) := by decide +kernel
theorem dX8_whoLives_50 : decode cX8_whoLives 50 = .ok (.aload_n 0, 1) := by decide +kernel
theorem dX8_whoLives_51 : decode cX8_whoLives 51 = .ok (.invokevirtual 88, 3) := by decide +kernel
theorem dX8_whoLives_54 : decode cX8_whoLives 54 = .ok (.aload_n 0, 1) := by decide +kernel
theorem dX8_whoLives_55 : decode cX8_whoLives 55 = .ok (.sipush 257, 3) := by decide +kernel
theorem dX8_whoLives_58 : decode cX8_whoLives 58 = .ok (.invokevirtual 70, 3) := by decide +kernel
theorem dX8_whoLives_61 : decode cX8_whoLives 61 = .ok (.ifCond .ne 5, 3) := by decide +kernel
theorem dX8_whoLives_64 : decode cX8_whoLives 64 = .ok (.iconst 0, 1) := by decide +kernel
theorem dX8_whoLives_65 : decode cX8_whoLives 65 = .ok (.ireturn, 1) := by decide +kernel
theorem dX8_whoLives_66 : decode cX8_whoLives 66 = .ok (.aload_n 0, 1) := by decide +kernel
theorem dX8_whoLives_67 : decode cX8_whoLives 67 = .ok (.invokevirtual 97, 3) := by decide +kernel
theorem dX8_whoLives_70 : decode cX8_whoLives 70 = .ok (.istore_n 2, 1) := by decide +kernel
theorem dX8_whoLives_71 : decode cX8_whoLives 71 = .ok (.iload_n 2, 1) := by decide +kernel
theorem dX8_whoLives_72 : decode cX8_whoLives 72 = .ok (.iconst (-1), 1) := by decide +kernel
theorem dX8_whoLives_73 : decode cX8_whoLives 73 = .ok (.if_icmp .ne 5, 3) := by decide +kernel
theorem dX8_whoLives_76 : decode cX8_whoLives 76 = .ok (.iconst 0, 1) := by decide +kernel
theorem dX8_whoLives_77 : decode cX8_whoLives 77 = .ok (.ireturn, 1) := by decide +kernel
theorem dX8_whoLives_78 : decode cX8_whoLives 78 = .ok (.aload_n 0, 1) := by decide +kernel
theorem dX8_whoLives_79 : decode cX8_whoLives 79 = .ok (.getfield 12, 3) := by decide +kernel
theorem dX8_whoLives_82 : decode cX8_whoLives 82 = .ok (.iload_n 1, 1) := by decide +kernel
theorem dX8_whoLives_83 : decode cX8_whoLives 83 = .ok (.iload_n 2, 1) := by decide +kernel
theorem dX8_whoLives_84 : decode cX8_whoLives 84 = .ok (.invokevirtual 101, 3) := by decide +kernel
theorem dX8_whoLives_87 : decode cX8_whoLives 87 = .ok (.iconst 1, 1) := by decide +kernel
theorem dX8_whoLives_88 : decode cX8_whoLives 88 = .ok (.ireturn, 1) := by decide +kernel
set_option maxRecDepth 20000 in
theorem ggX8_roadGoes_X8_twoNames : GoodIn wsX8_roadGoes wsX8_twoNames := goodIn_r _ [10, 3, 4, 1, 11, 12, 13, 14, 15, 9, 16, 17, 18, 5, 19, 20, 21, 22, 23, 24, 25, 26, 27, 28, 29, 30, 31, 32, 33, 34, 35, 36, 37, 38, 39, 40, 41, 42, 43, 44, 45, 46, 47, 48, 49, 50, 51, 52, 107, 108, 109, 110, 111, 112, 113, 114, 115, 116, 117, 118, 119, 120, 121, 122, 123, 124, 125, 126, 127, 128, 129, 130, 131, 132, 133, 134, 135, 136, 137, 138, 139, 140, 141, 142, 143] rfl (by decide +kernel)
set_option maxRecDepth 20000 in
theorem gX8_roadGoes_X8_twoNames : GoodIn wsX8_roadGoes (wsV RX8 105 RX8 yX8_twoNames wsX8_twoNames) := goodIn_app (goodIn_of _ (by decide +kernel)) ggX8_roadGoes_X8_twoNames
set_option maxRecDepth 20000 in
theorem ggX8_roadGoes_X8_skip : GoodIn wsX8_roadGoes wsX8_skip := goodIn_r _ [56, 5, 30, 31, 32, 9, 33, 34, 18, 17, 35, 36, 37, 38, 22, 39, 24, 40, 13, 14, 15, 16, 19, 20, 21, 23, 25, 107, 108, 109, 110, 111, 112, 113, 114, 135, 136, 137, 138, 139, 140, 141, 142, 143] (by decide +kernel) (by decide +kernel)
set_option maxRecDepth 20000 in
theorem gX8_roadGoes_X8_skip : GoodIn wsX8_roadGoes (wsV RX8 70 RX8 yX8_skip wsX8_skip) := goodIn_app (goodIn_of _ (by decide +kernel)) ggX8_roadGoes_X8_skip
set_option maxRecDepth 20000 in
theorem ggX8_roadGoes_X6_beginRoad : GoodIn wsX8_roadGoes wsX6_beginRoad := goodIn_r _ [60, 61, 62, 63, 115, 116, 117, 118, 119, 120, 121, 122, 123, 124, 125, 126, 127, 128, 129, 130, 131, 132, 133, 134] (by decide +kernel) (by decide +kernel)
set_option maxRecDepth 20000 in
theorem gX8_roadGoes_X6_beginRoad : GoodIn wsX8_roadGoes (wsV RX8 117 RX6 yX6_beginRoad wsX6_beginRoad) := goodIn_app (goodIn_of _ (by decide +kernel)) ggX8_roadGoes_X6_beginRoad
set_option maxRecDepth 20000 in
theorem ggX8_roadGoes_X8_sum : GoodIn wsX8_roadGoes wsX8_sum := goodIn_r _ [67, 5, 1, 68, 69, 70, 9, 13, 14, 15, 16, 17, 18, 19, 20, 21, 22, 23, 24, 25, 71, 72, 73, 49, 74, 75, 76, 77, 78, 41, 42, 43, 44, 45, 26, 27, 28, 29, 30, 31, 32, 33, 34, 35, 36, 37, 38, 39, 40, 46, 47, 48, 50, 51, 52, 79, 80, 81, 82, 64, 65, 66, 53, 54, 55, 56, 83, 84, 85, 86, 107, 108, 109, 110, 111, 112, 113, 114, 115, 116, 117, 118, 119, 120, 121, 122, 123, 124, 125, 126, 127, 128, 129, 130, 131, 132, 133, 134, 135, 136, 137, 138, 139, 140, 141, 142, 143] rfl (by decide +kernel)
set_option maxRecDepth 20000 in
theorem gX8_roadGoes_X8_sum : GoodIn wsX8_roadGoes (wsV RX8 120 RX8 yX8_sum wsX8_sum) := goodIn_app (goodIn_of _ (by decide +kernel)) ggX8_roadGoes_X8_sum
set_option maxRecDepth 20000 in
theorem ggX8_roadGoes_X8_step : GoodIn wsX8_roadGoes wsX8_step := goodIn_r _ [16, 17, 18, 5, 19, 20, 21, 22, 23, 24, 25, 107, 108, 109, 110, 111, 112, 113, 114, 135, 136, 137, 138, 139, 140, 141, 142, 143] (by decide +kernel) (by decide +kernel)
set_option maxRecDepth 20000 in
theorem gX8_roadGoes_X8_step : GoodIn wsX8_roadGoes (wsV RX8 88 RX8 yX8_step wsX8_step) := goodIn_app (goodIn_of _ (by decide +kernel)) ggX8_roadGoes_X8_step
set_option maxRecDepth 20000 in
theorem ggX8_roadGoes_X8_test : GoodIn wsX8_roadGoes wsX8_test := goodIn_r _ [90, 5, 1, 91, 92, 93, 9, 13, 14, 15, 16, 17, 18, 19, 20, 21, 22, 23, 24, 25, 71, 72, 73, 49, 74, 75, 76, 94, 95, 96, 97, 98, 79, 80, 81, 82, 30, 31, 32, 33, 34, 35, 36, 37, 38, 39, 40, 87, 88, 89, 53, 54, 55, 56, 64, 65, 66, 67, 68, 69, 70, 77, 78, 41, 42, 43, 44, 45, 26, 27, 28, 29, 46, 47, 48, 50, 51, 52, 83, 84, 85, 86, 107, 108, 109, 110, 111, 112, 113, 114, 135, 136, 137, 138, 139, 140, 141, 142, 143, 115, 116, 117, 118, 119, 120, 121, 122, 123, 124, 125, 126, 127, 128, 129, 130, 131, 132, 133, 134] rfl (by decide +kernel)
set_option maxRecDepth 20000 in
theorem gX8_roadGoes_X8_test : GoodIn wsX8_roadGoes (wsV RX8 123 RX8 yX8_test wsX8_test) := goodIn_app (goodIn_of _ (by decide +kernel)) ggX8_roadGoes_X8_test
set_option maxRecDepth 20000 in
theorem ggX8_roadGoes_X6_endRoad : GoodIn wsX8_roadGoes wsX6_endRoad := goodIn_r _ [102, 61, 103, 104, 105, 75, 106, 62, 63, 115, 116, 117, 118, 119, 120, 121, 122, 123, 124, 125, 126, 127, 128, 129, 130, 131, 132, 133, 134] (by decide +kernel) (by decide +kernel)
set_option maxRecDepth 20000 in
theorem gX8_roadGoes_X6_endRoad : GoodIn wsX8_roadGoes (wsV RX8 126 RX6 yX6_endRoad wsX6_endRoad) := goodIn_app (goodIn_of _ (by decide +kernel)) ggX8_roadGoes_X6_endRoad
theorem dX8_roadGoes_0 : decode cX8_roadGoes 0 = .ok (.aload_n 0, 1) := by decide +kernel
theorem dX8_roadGoes_1 : decode cX8_roadGoes 1 = .ok (.sipush 258, 3) := by decide +kernel
theorem dX8_roadGoes_4 : decode cX8_roadGoes 4 = .ok (.invokevirtual 105, 3) := by decide +kernel
theorem dX8_roadGoes_7 : decode cX8_roadGoes 7 = .ok (.ifCond .eq 13, 3) := by decide +kernel
theorem dX8_roadGoes_10 : decode cX8_roadGoes 10 = .ok (.aload_n 0, 1) := by decide +kernel
theorem dX8_roadGoes_11 : decode cX8_roadGoes 11 = .ok (.sipush 259, 3) := by decide +kernel
theorem dX8_roadGoes_14 : decode cX8_roadGoes 14 = .ok (.invokevirtual 70, 3) := by decide +kernel
theorem dX8_roadGoes_17 : decode cX8_roadGoes 17 = .ok (.ifCond .ne 5, 3) := by decide +kernel
theorem dX8_roadGoes_20 : decode cX8_roadGoes 20 = .ok (.iconst 0, 1) := by decide +kernel
theorem dX8_roadGoes_21 : decode cX8_roadGoes 21 = .ok (.ireturn, 1) := by decide +kernel
theorem dX8_roadGoes_22 : decode cX8_roadGoes 22 = .ok (.aload_n 0, 1) := by decide +kernel
theorem dX8_roadGoes_23 : decode cX8_roadGoes 23 = .ok (.getfield 12, 3) := by decide +kernel
theorem dX8_roadGoes_26 : decode cX8_roadGoes 26 = .ok (.getfield 108, 3) := by decide +kernel
theorem dX8_roadGoes_29 : decode cX8_roadGoes 29 = .ok (.istore_n 1, 1) := by decide +kernel
theorem dX8_roadGoes_30 : decode cX8_roadGoes 30 = .ok (.aload_n 0, 1) := by decide +kernel
theorem dX8_roadGoes_31 : decode cX8_roadGoes 31 = .ok (.getfield 12, 3) := by decide +kernel
theorem dX8_roadGoes_34 : decode cX8_roadGoes 34 = .ok (.aload_n 0, 1) := by decide +kernel
theorem dX8_roadGoes_35 : decode cX8_roadGoes 35 = .ok (.getfield 111, 3) := by decide +kernel
theorem dX8_roadGoes_38 : decode cX8_roadGoes 38 = .ok (.aload_n 0, 1) := by decide +kernel
theorem dX8_roadGoes_39 : decode cX8_roadGoes 39 = .ok (.getfield 114, 3) := by decide +kernel
theorem dX8_roadGoes_42 : decode cX8_roadGoes 42 = .ok (.invokevirtual 117, 3) := by decide +kernel
theorem dX8_roadGoes_45 : decode cX8_roadGoes 45 = .ok (.aload_n 0, 1) := by decide +kernel
theorem dX8_roadGoes_46 : decode cX8_roadGoes 46 = .ok (.iconst 0, 1) := by decide +kernel
theorem dX8_roadGoes_47 : decode cX8_roadGoes 47 = .ok (.invokevirtual 120, 3) := by decide +kernel
theorem dX8_roadGoes_50 : decode cX8_roadGoes 50 = .ok (.ifCond .ne 5, 3) := by decide +kernel
theorem dX8_roadGoes_53 : decode cX8_roadGoes 53 = .ok (.iconst 0, 1) := by decide +kernel
theorem dX8_roadGoes_54 : decode cX8_roadGoes 54 = .ok (.ireturn, 1) := by decide +kernel
theorem dX8_roadGoes_55 : decode cX8_roadGoes 55 = .ok (.aload_n 0, 1) := by decide +kernel
theorem dX8_roadGoes_56 : decode cX8_roadGoes 56 = .ok (.getfield 12, 3) := by decide +kernel
theorem dX8_roadGoes_59 : decode cX8_roadGoes 59 = .ok (.getfield 108, 3) := by decide +kernel
theorem dX8_roadGoes_62 : decode cX8_roadGoes 62 = .ok (.istore_n 2, 1) := by decide +kernel
theorem dX8_roadGoes_63 : decode cX8_roadGoes 63 = .ok (.aload_n 0, 1) := by decide +kernel
theorem dX8_roadGoes_64 : decode cX8_roadGoes 64 = .ok (.getfield 47, 3) := by decide +kernel
theorem dX8_roadGoes_67 : decode cX8_roadGoes 67 = .ok (.sipush 260, 3) := by decide +kernel
theorem dX8_roadGoes_70 : decode cX8_roadGoes 70 = .ok (.if_icmp .ne 17, 3) := by decide +kernel
theorem dX8_roadGoes_73 : decode cX8_roadGoes 73 = .ok (.aload_n 0, 1) := by decide +kernel
theorem dX8_roadGoes_74 : decode cX8_roadGoes 74 = .ok (.invokevirtual 88, 3) := by decide +kernel
theorem dX8_roadGoes_77 : decode cX8_roadGoes 77 = .ok (.aload_n 0, 1) := by decide +kernel
theorem dX8_roadGoes_78 : decode cX8_roadGoes 78 = .ok (.iconst 0, 1) := by decide +kernel
theorem dX8_roadGoes_79 : decode cX8_roadGoes 79 = .ok (.invokevirtual 123, 3) := by decide +kernel
theorem dX8_roadGoes_82 : decode cX8_roadGoes 82 = .ok (.ifCond .ne 5, 3) := by decide +kernel
theorem dX8_roadGoes_85 : decode cX8_roadGoes 85 = .ok (.iconst 0, 1) := by decide +kernel
theorem dX8_roadGoes_86 : decode cX8_roadGoes 86 = .ok (.ireturn, 1) := by decide +kernel
theorem dX8_roadGoes_87 : decode cX8_roadGoes 87 = .ok (.aload_n 0, 1) := by decide +kernel
theorem dX8_roadGoes_88 : decode cX8_roadGoes 88 = .ok (.getfield 12, 3) := by decide +kernel
theorem dX8_roadGoes_91 : decode cX8_roadGoes 91 = .ok (.iload_n 1, 1) := by decide +kernel
theorem dX8_roadGoes_92 : decode cX8_roadGoes 92 = .ok (.iload_n 2, 1) := by decide +kernel
theorem dX8_roadGoes_93 : decode cX8_roadGoes 93 = .ok (.invokevirtual 126, 3) := by decide +kernel
theorem dX8_roadGoes_96 : decode cX8_roadGoes 96 = .ok (.iconst 1, 1) := by decide +kernel
theorem dX8_roadGoes_97 : decode cX8_roadGoes 97 = .ok (.ireturn, 1) := by decide +kernel
set_option maxRecDepth 20000 in
theorem ggX8_tasteIs_X8_twoNames : GoodIn wsX8_tasteIs wsX8_twoNames := goodIn_r _ [9, 3, 4, 2, 10, 11, 12, 13, 14, 8, 15, 16, 17, 1, 18, 19, 20, 21, 22, 23, 24, 25, 26, 27, 28, 29, 30, 31, 32, 33, 34, 35, 36, 37, 38, 39, 40, 41, 42, 43, 44, 45, 46, 47, 48, 49, 50, 51, 63, 64, 65, 66, 67, 68, 69, 70, 71, 72, 73, 74, 75, 76, 77, 78, 79, 80, 81, 82, 83, 84, 85, 86, 87, 88, 89, 90, 91, 92, 93, 94, 95, 96, 97, 98, 99] rfl (by decide +kernel)
set_option maxRecDepth 20000 in
theorem gX8_tasteIs_X8_twoNames : GoodIn wsX8_tasteIs (wsV RX8 105 RX8 yX8_twoNames wsX8_twoNames) := goodIn_app (goodIn_of _ (by decide +kernel)) ggX8_tasteIs_X8_twoNames
set_option maxRecDepth 20000 in
theorem ggX8_tasteIs_X8_step : GoodIn wsX8_tasteIs wsX8_step := goodIn_r _ [15, 16, 17, 1, 18, 19, 20, 21, 22, 23, 24, 63, 64, 65, 66, 67, 68, 69, 70, 91, 92, 93, 94, 95, 96, 97, 98, 99] (by decide +kernel) (by decide +kernel)
set_option maxRecDepth 20000 in
theorem gX8_tasteIs_X8_step : GoodIn wsX8_tasteIs (wsV RX8 88 RX8 yX8_step wsX8_step) := goodIn_app (goodIn_of _ (by decide +kernel)) ggX8_tasteIs_X8_step
set_option maxRecDepth 20000 in
theorem ggX8_tasteIs_X8_number : GoodIn wsX8_tasteIs wsX8_number := goodIn_r _ [55, 1, 17, 16, 29, 30, 31, 8, 32, 33, 34, 35, 36, 37, 21, 38, 23, 39, 40, 41, 42, 43, 44, 12, 13, 14, 15, 18, 19, 20, 22, 24, 63, 64, 65, 66, 67, 68, 69, 70, 91, 92, 93, 94, 95, 96, 97, 98, 99] (by decide +kernel) (by decide +kernel)
set_option maxRecDepth 20000 in
theorem gX8_tasteIs_X8_number : GoodIn wsX8_tasteIs (wsV RX8 97 RX8 yX8_number wsX8_number) := goodIn_app (goodIn_of _ (by decide +kernel)) ggX8_tasteIs_X8_number
set_option maxRecDepth 20000 in
theorem ggX8_tasteIs_X6_addTaste : GoodIn wsX8_tasteIs wsX6_addTaste := goodIn_r _ [59, 60, 61, 62, 71, 72, 73, 74, 75, 76, 77, 78, 79, 80, 81, 82, 83, 84, 85, 86, 87, 88, 89, 90] (by decide +kernel) (by decide +kernel)
set_option maxRecDepth 20000 in
theorem gX8_tasteIs_X6_addTaste : GoodIn wsX8_tasteIs (wsV RX8 129 RX6 yX6_addTaste wsX6_addTaste) := goodIn_app (goodIn_of _ (by decide +kernel)) ggX8_tasteIs_X6_addTaste
theorem dX8_tasteIs_0 : decode cX8_tasteIs 0 = .ok (.aload_n 0, 1) := by decide +kernel
theorem dX8_tasteIs_1 : decode cX8_tasteIs 1 = .ok (.sipush 261, 3) := by decide +kernel
theorem dX8_tasteIs_4 : decode cX8_tasteIs 4 = .ok (.invokevirtual 105, 3) := by decide +kernel
theorem dX8_tasteIs_7 : decode cX8_tasteIs 7 = .ok (.ifCond .ne 5, 3) := by decide +kernel
theorem dX8_tasteIs_10 : decode cX8_tasteIs 10 = .ok (.iconst 0, 1) := by decide +kernel
theorem dX8_tasteIs_11 : decode cX8_tasteIs 11 = .ok (.ireturn, 1) := by decide +kernel
theorem dX8_tasteIs_12 : decode cX8_tasteIs 12 = .ok (.aload_n 0, 1) := by decide +kernel
theorem dX8_tasteIs_13 : decode cX8_tasteIs 13 = .ok (.getfield 47, 3) := by decide +kernel
theorem dX8_tasteIs_16 : decode cX8_tasteIs 16 = .ok (.sipush 262, 3) := by decide +kernel
theorem dX8_tasteIs_19 : decode cX8_tasteIs 19 = .ok (.if_icmp .ne 7, 3) := by decide +kernel
theorem dX8_tasteIs_22 : decode cX8_tasteIs 22 = .ok (.iconst 1, 1) := by decide +kernel
theorem dX8_tasteIs_23 : decode cX8_tasteIs 23 = .ok (.goto 4, 3) := by decide +kernel
theorem dX8_tasteIs_26 : decode cX8_tasteIs 26 = .ok (.iconst 0, 1) := by decide +kernel
theorem dX8_tasteIs_27 : decode cX8_tasteIs 27 = .ok (.istore_n 1, 1) := by decide +kernel
theorem dX8_tasteIs_28 : decode cX8_tasteIs 28 = .ok (.iload_n 1, 1) := by decide +kernel
theorem dX8_tasteIs_29 : decode cX8_tasteIs 29 = .ok (.ifCond .eq 7, 3) := by decide +kernel
theorem dX8_tasteIs_32 : decode cX8_tasteIs 32 = .ok (.aload_n 0, 1) := by decide +kernel
theorem dX8_tasteIs_33 : decode cX8_tasteIs 33 = .ok (.invokevirtual 88, 3) := by decide +kernel
theorem dX8_tasteIs_36 : decode cX8_tasteIs 36 = .ok (.aload_n 0, 1) := by decide +kernel
theorem dX8_tasteIs_37 : decode cX8_tasteIs 37 = .ok (.invokevirtual 97, 3) := by decide +kernel
theorem dX8_tasteIs_40 : decode cX8_tasteIs 40 = .ok (.istore_n 2, 1) := by decide +kernel
theorem dX8_tasteIs_41 : decode cX8_tasteIs 41 = .ok (.iload_n 2, 1) := by decide +kernel
theorem dX8_tasteIs_42 : decode cX8_tasteIs 42 = .ok (.iconst (-1), 1) := by decide +kernel
theorem dX8_tasteIs_43 : decode cX8_tasteIs 43 = .ok (.if_icmp .ne 5, 3) := by decide +kernel
theorem dX8_tasteIs_46 : decode cX8_tasteIs 46 = .ok (.iconst 0, 1) := by decide +kernel
theorem dX8_tasteIs_47 : decode cX8_tasteIs 47 = .ok (.ireturn, 1) := by decide +kernel
theorem dX8_tasteIs_48 : decode cX8_tasteIs 48 = .ok (.aload_n 0, 1) := by decide +kernel
theorem dX8_tasteIs_49 : decode cX8_tasteIs 49 = .ok (.getfield 12, 3) := by decide +kernel
theorem dX8_tasteIs_52 : decode cX8_tasteIs 52 = .ok (.aload_n 0, 1) := by decide +kernel
theorem dX8_tasteIs_53 : decode cX8_tasteIs 53 = .ok (.getfield 111, 3) := by decide +kernel
theorem dX8_tasteIs_56 : decode cX8_tasteIs 56 = .ok (.aload_n 0, 1) := by decide +kernel
theorem dX8_tasteIs_57 : decode cX8_tasteIs 57 = .ok (.getfield 114, 3) := by decide +kernel
theorem dX8_tasteIs_60 : decode cX8_tasteIs 60 = .ok (.iload_n 1, 1) := by decide +kernel
theorem dX8_tasteIs_61 : decode cX8_tasteIs 61 = .ok (.ifCond .eq 8, 3) := by decide +kernel
theorem dX8_tasteIs_64 : decode cX8_tasteIs 64 = .ok (.iload_n 2, 1) := by decide +kernel
theorem dX8_tasteIs_65 : decode cX8_tasteIs 65 = .ok (.ineg, 1) := by decide +kernel
theorem dX8_tasteIs_66 : decode cX8_tasteIs 66 = .ok (.goto 4, 3) := by decide +kernel
theorem dX8_tasteIs_69 : decode cX8_tasteIs 69 = .ok (.iload_n 2, 1) := by decide +kernel
theorem dX8_tasteIs_70 : decode cX8_tasteIs 70 = .ok (.invokevirtual 129, 3) := by decide +kernel
theorem dX8_tasteIs_73 : decode cX8_tasteIs 73 = .ok (.iconst 1, 1) := by decide +kernel
theorem dX8_tasteIs_74 : decode cX8_tasteIs 74 = .ok (.ireturn, 1) := by decide +kernel
set_option maxRecDepth 20000 in
theorem ggX8_doubtIs_X8_twoNames : GoodIn wsX8_doubtIs wsX8_twoNames := goodIn_r _ [8, 2, 3, 1, 9, 10, 11, 12, 13, 7, 14, 15, 16, 17, 18, 19, 20, 21, 22, 23, 24, 25, 26, 27, 28, 29, 30, 31, 32, 33, 34, 35, 36, 37, 38, 39, 40, 41, 42, 43, 44, 45, 46, 47, 48, 49, 50, 51, 63, 64, 65, 66, 67, 68, 69, 70, 71, 72, 73, 74, 75, 76, 77, 78, 79, 80, 81, 82, 83, 84, 85, 86, 87, 88, 89, 90, 91, 92, 93, 94, 95, 96, 97, 98, 99] rfl (by decide +kernel)
set_option maxRecDepth 20000 in
theorem gX8_doubtIs_X8_twoNames : GoodIn wsX8_doubtIs (wsV RX8 105 RX8 yX8_twoNames wsX8_twoNames) := goodIn_app (goodIn_of _ (by decide +kernel)) ggX8_doubtIs_X8_twoNames
set_option maxRecDepth 20000 in
theorem ggX8_doubtIs_X8_number : GoodIn wsX8_doubtIs wsX8_number := goodIn_r _ [55, 17, 16, 15, 29, 30, 31, 7, 32, 33, 34, 35, 36, 37, 21, 38, 23, 39, 40, 41, 42, 43, 44, 11, 12, 13, 14, 18, 19, 20, 22, 24, 63, 64, 65, 66, 67, 68, 69, 70, 91, 92, 93, 94, 95, 96, 97, 98, 99] (by decide +kernel) (by decide +kernel)
set_option maxRecDepth 20000 in
theorem gX8_doubtIs_X8_number : GoodIn wsX8_doubtIs (wsV RX8 97 RX8 yX8_number wsX8_number) := goodIn_app (goodIn_of _ (by decide +kernel)) ggX8_doubtIs_X8_number
set_option maxRecDepth 20000 in
theorem ggX8_doubtIs_X6_addDoubt : GoodIn wsX8_doubtIs wsX6_addDoubt := goodIn_r _ [59, 60, 61, 62, 71, 72, 73, 74, 75, 76, 77, 78, 79, 80, 81, 82, 83, 84, 85, 86, 87, 88, 89, 90] (by decide +kernel) (by decide +kernel)
set_option maxRecDepth 20000 in
theorem gX8_doubtIs_X6_addDoubt : GoodIn wsX8_doubtIs (wsV RX8 133 RX6 yX6_addDoubt wsX6_addDoubt) := goodIn_app (goodIn_of _ (by decide +kernel)) ggX8_doubtIs_X6_addDoubt
theorem dX8_doubtIs_0 : decode cX8_doubtIs 0 = .ok (.aload_n 0, 1) := by decide +kernel
theorem dX8_doubtIs_1 : decode cX8_doubtIs 1 = .ok (.sipush 263, 3) := by decide +kernel
theorem dX8_doubtIs_4 : decode cX8_doubtIs 4 = .ok (.invokevirtual 105, 3) := by decide +kernel
theorem dX8_doubtIs_7 : decode cX8_doubtIs 7 = .ok (.ifCond .ne 5, 3) := by decide +kernel
theorem dX8_doubtIs_10 : decode cX8_doubtIs 10 = .ok (.iconst 0, 1) := by decide +kernel
theorem dX8_doubtIs_11 : decode cX8_doubtIs 11 = .ok (.ireturn, 1) := by decide +kernel
theorem dX8_doubtIs_12 : decode cX8_doubtIs 12 = .ok (.aload_n 0, 1) := by decide +kernel
theorem dX8_doubtIs_13 : decode cX8_doubtIs 13 = .ok (.invokevirtual 97, 3) := by decide +kernel
theorem dX8_doubtIs_16 : decode cX8_doubtIs 16 = .ok (.istore_n 1, 1) := by decide +kernel
theorem dX8_doubtIs_17 : decode cX8_doubtIs 17 = .ok (.iload_n 1, 1) := by decide +kernel
theorem dX8_doubtIs_18 : decode cX8_doubtIs 18 = .ok (.iconst (-1), 1) := by decide +kernel
theorem dX8_doubtIs_19 : decode cX8_doubtIs 19 = .ok (.if_icmp .ne 5, 3) := by decide +kernel
theorem dX8_doubtIs_22 : decode cX8_doubtIs 22 = .ok (.iconst 0, 1) := by decide +kernel
theorem dX8_doubtIs_23 : decode cX8_doubtIs 23 = .ok (.ireturn, 1) := by decide +kernel
theorem dX8_doubtIs_24 : decode cX8_doubtIs 24 = .ok (.aload_n 0, 1) := by decide +kernel
theorem dX8_doubtIs_25 : decode cX8_doubtIs 25 = .ok (.getfield 12, 3) := by decide +kernel
theorem dX8_doubtIs_28 : decode cX8_doubtIs 28 = .ok (.aload_n 0, 1) := by decide +kernel
theorem dX8_doubtIs_29 : decode cX8_doubtIs 29 = .ok (.getfield 111, 3) := by decide +kernel
theorem dX8_doubtIs_32 : decode cX8_doubtIs 32 = .ok (.aload_n 0, 1) := by decide +kernel
theorem dX8_doubtIs_33 : decode cX8_doubtIs 33 = .ok (.getfield 114, 3) := by decide +kernel
theorem dX8_doubtIs_36 : decode cX8_doubtIs 36 = .ok (.iload_n 1, 1) := by decide +kernel
theorem dX8_doubtIs_37 : decode cX8_doubtIs 37 = .ok (.invokevirtual 133, 3) := by decide +kernel
theorem dX8_doubtIs_40 : decode cX8_doubtIs 40 = .ok (.iconst 1, 1) := by decide +kernel
theorem dX8_doubtIs_41 : decode cX8_doubtIs 41 = .ok (.ireturn, 1) := by decide +kernel
set_option maxRecDepth 20000 in
theorem ggX8_twoNames_X8_step : GoodIn wsX8_twoNames wsX8_step := goodIn_r _ [10, 11, 12, 13, 14, 15, 16, 17, 18, 19, 20, 48, 49, 50, 51, 52, 53, 54, 55, 76, 77, 78, 79, 80, 81, 82, 83, 84] (by decide +kernel) (by decide +kernel)
set_option maxRecDepth 20000 in
theorem gX8_twoNames_X8_step : GoodIn wsX8_twoNames (wsV RX8 88 RX8 yX8_step wsX8_step) := goodIn_app (goodIn_of _ (by decide +kernel)) ggX8_twoNames_X8_step
set_option maxRecDepth 20000 in
theorem ggX8_twoNames_X8_somebody : GoodIn wsX8_twoNames wsX8_somebody := goodIn_r _ [24, 13, 3, 12, 11, 25, 26, 27, 9, 28, 29, 30, 31, 32, 33, 17, 34, 19, 35, 36, 37, 38, 39, 40, 41, 42, 43, 44, 45, 46, 47, 48, 49, 50, 51, 52, 53, 54, 55, 76, 77, 78, 79, 80, 81, 82, 83, 84, 56, 57, 58, 59, 60, 61, 62, 63, 64, 65, 66, 67, 68, 69, 70, 71, 72, 73, 74, 75] (by decide +kernel) (by decide +kernel)
set_option maxRecDepth 20000 in
theorem gX8_twoNames_X8_somebody : GoodIn wsX8_twoNames (wsV RX8 136 RX8 yX8_somebody wsX8_somebody) := goodIn_app (goodIn_of _ (by decide +kernel)) ggX8_twoNames_X8_somebody
set_option maxRecDepth 20000 in
theorem ggX8_twoNames_X8_fail : GoodIn wsX8_twoNames wsX8_fail := goodIn_r _ [28, 29, 12, 11, 30, 31, 32, 33, 17, 34, 19, 35, 48, 49, 50, 51, 52, 53, 54, 55, 76, 77, 78, 79, 80, 81, 82, 83, 84] (by decide +kernel) (by decide +kernel)
set_option maxRecDepth 20000 in
theorem gX8_twoNames_X8_fail : GoodIn wsX8_twoNames (wsV RX8 54 RX8 yX8_fail wsX8_fail) := goodIn_app (goodIn_of _ (by decide +kernel)) ggX8_twoNames_X8_fail
theorem dX8_twoNames_0 : decode cX8_twoNames 0 = .ok (.aload_n 0, 1) := by decide +kernel
theorem dX8_twoNames_1 : decode cX8_twoNames 1 = .ok (.invokevirtual 88, 3) := by decide +kernel
theorem dX8_twoNames_4 : decode cX8_twoNames 4 = .ok (.aload_n 0, 1) := by decide +kernel
theorem dX8_twoNames_5 : decode cX8_twoNames 5 = .ok (.aload_n 0, 1) := by decide +kernel
theorem dX8_twoNames_6 : decode cX8_twoNames 6 = .ok (.invokevirtual 136, 3) := by decide +kernel
theorem dX8_twoNames_9 : decode cX8_twoNames 9 = .ok (.putfield 111, 3) := by decide +kernel
theorem dX8_twoNames_12 : decode cX8_twoNames 12 = .ok (.aload_n 0, 1) := by decide +kernel
theorem dX8_twoNames_13 : decode cX8_twoNames 13 = .ok (.getfield 111, 3) := by decide +kernel
theorem dX8_twoNames_16 : decode cX8_twoNames 16 = .ok (.iconst (-1), 1) := by decide +kernel
theorem dX8_twoNames_17 : decode cX8_twoNames 17 = .ok (.if_icmp .ne 5, 3) := by decide +kernel
theorem dX8_twoNames_20 : decode cX8_twoNames 20 = .ok (.iconst 0, 1) := by decide +kernel
theorem dX8_twoNames_21 : decode cX8_twoNames 21 = .ok (.ireturn, 1) := by decide +kernel
theorem dX8_twoNames_22 : decode cX8_twoNames 22 = .ok (.aload_n 0, 1) := by decide +kernel
theorem dX8_twoNames_23 : decode cX8_twoNames 23 = .ok (.invokevirtual 88, 3) := by decide +kernel
theorem dX8_twoNames_26 : decode cX8_twoNames 26 = .ok (.aload_n 0, 1) := by decide +kernel
theorem dX8_twoNames_27 : decode cX8_twoNames 27 = .ok (.aload_n 0, 1) := by decide +kernel
theorem dX8_twoNames_28 : decode cX8_twoNames 28 = .ok (.invokevirtual 136, 3) := by decide +kernel
theorem dX8_twoNames_31 : decode cX8_twoNames 31 = .ok (.putfield 114, 3) := by decide +kernel
theorem dX8_twoNames_34 : decode cX8_twoNames 34 = .ok (.aload_n 0, 1) := by decide +kernel
theorem dX8_twoNames_35 : decode cX8_twoNames 35 = .ok (.getfield 114, 3) := by decide +kernel
theorem dX8_twoNames_38 : decode cX8_twoNames 38 = .ok (.iconst (-1), 1) := by decide +kernel
theorem dX8_twoNames_39 : decode cX8_twoNames 39 = .ok (.if_icmp .ne 5, 3) := by decide +kernel
theorem dX8_twoNames_42 : decode cX8_twoNames 42 = .ok (.iconst 0, 1) := by decide +kernel
theorem dX8_twoNames_43 : decode cX8_twoNames 43 = .ok (.ireturn, 1) := by decide +kernel
theorem dX8_twoNames_44 : decode cX8_twoNames 44 = .ok (.aload_n 0, 1) := by decide +kernel
theorem dX8_twoNames_45 : decode cX8_twoNames 45 = .ok (.getfield 111, 3) := by decide +kernel
theorem dX8_twoNames_48 : decode cX8_twoNames 48 = .ok (.aload_n 0, 1) := by decide +kernel
theorem dX8_twoNames_49 : decode cX8_twoNames 49 = .ok (.getfield 114, 3) := by decide +kernel
theorem dX8_twoNames_52 : decode cX8_twoNames 52 = .ok (.if_icmp .ne 9, 3) := by decide +kernel
theorem dX8_twoNames_55 : decode cX8_twoNames 55 = .ok (.aload_n 0, 1) := by decide +kernel
theorem dX8_twoNames_56 : decode cX8_twoNames 56 = .ok (.iconst 3, 1) := by decide +kernel
theorem dX8_twoNames_57 : decode cX8_twoNames 57 = .ok (.invokevirtual 54, 3) := by decide +kernel
theorem dX8_twoNames_60 : decode cX8_twoNames 60 = .ok (.ireturn, 1) := by decide +kernel
theorem dX8_twoNames_61 : decode cX8_twoNames 61 = .ok (.aload_n 0, 1) := by decide +kernel
theorem dX8_twoNames_62 : decode cX8_twoNames 62 = .ok (.getfield 12, 3) := by decide +kernel
theorem dX8_twoNames_65 : decode cX8_twoNames 65 = .ok (.getfield 139, 3) := by decide +kernel
theorem dX8_twoNames_68 : decode cX8_twoNames 68 = .ok (.aload_n 0, 1) := by decide +kernel
theorem dX8_twoNames_69 : decode cX8_twoNames 69 = .ok (.getfield 111, 3) := by decide +kernel
theorem dX8_twoNames_72 : decode cX8_twoNames 72 = .ok (.aaload, 1) := by decide +kernel
theorem dX8_twoNames_73 : decode cX8_twoNames 73 = .ok (.aload_n 0, 1) := by decide +kernel
theorem dX8_twoNames_74 : decode cX8_twoNames 74 = .ok (.getfield 114, 3) := by decide +kernel
theorem dX8_twoNames_77 : decode cX8_twoNames 77 = .ok (.iaload, 1) := by decide +kernel
theorem dX8_twoNames_78 : decode cX8_twoNames 78 = .ok (.iconst (-1), 1) := by decide +kernel
theorem dX8_twoNames_79 : decode cX8_twoNames 79 = .ok (.if_icmp .eq 7, 3) := by decide +kernel
theorem dX8_twoNames_82 : decode cX8_twoNames 82 = .ok (.iconst 1, 1) := by decide +kernel
theorem dX8_twoNames_83 : decode cX8_twoNames 83 = .ok (.goto 4, 3) := by decide +kernel
theorem dX8_twoNames_86 : decode cX8_twoNames 86 = .ok (.iconst 0, 1) := by decide +kernel
theorem dX8_twoNames_87 : decode cX8_twoNames 87 = .ok (.istore_n 2, 1) := by decide +kernel
theorem dX8_twoNames_88 : decode cX8_twoNames 88 = .ok (.aload_n 0, 1) := by decide +kernel
theorem dX8_twoNames_89 : decode cX8_twoNames 89 = .ok (.getfield 12, 3) := by decide +kernel
theorem dX8_twoNames_92 : decode cX8_twoNames 92 = .ok (.getfield 143, 3) := by decide +kernel
theorem dX8_twoNames_95 : decode cX8_twoNames 95 = .ok (.aload_n 0, 1) := by decide +kernel
theorem dX8_twoNames_96 : decode cX8_twoNames 96 = .ok (.getfield 111, 3) := by decide +kernel
theorem dX8_twoNames_99 : decode cX8_twoNames 99 = .ok (.bipush 12, 2) := by decide +kernel
theorem dX8_twoNames_101 : decode cX8_twoNames 101 = .ok (.imul, 1) := by decide +kernel
theorem dX8_twoNames_102 : decode cX8_twoNames 102 = .ok (.aload_n 0, 1) := by decide +kernel
theorem dX8_twoNames_103 : decode cX8_twoNames 103 = .ok (.getfield 114, 3) := by decide +kernel
theorem dX8_twoNames_106 : decode cX8_twoNames 106 = .ok (.iadd, 1) := by decide +kernel
theorem dX8_twoNames_107 : decode cX8_twoNames 107 = .ok (.baload, 1) := by decide +kernel
theorem dX8_twoNames_108 : decode cX8_twoNames 108 = .ok (.istore_n 3, 1) := by decide +kernel
theorem dX8_twoNames_109 : decode cX8_twoNames 109 = .ok (.iload_n 1, 1) := by decide +kernel
theorem dX8_twoNames_110 : decode cX8_twoNames 110 = .ok (.sipush 258, 3) := by decide +kernel
theorem dX8_twoNames_113 : decode cX8_twoNames 113 = .ok (.if_icmp .ne 7, 3) := by decide +kernel
theorem dX8_twoNames_116 : decode cX8_twoNames 116 = .ok (.iload_n 2, 1) := by decide +kernel
theorem dX8_twoNames_117 : decode cX8_twoNames 117 = .ok (.ifCond .ne 14, 3) := by decide +kernel
theorem dX8_twoNames_120 : decode cX8_twoNames 120 = .ok (.iload_n 1, 1) := by decide +kernel
theorem dX8_twoNames_121 : decode cX8_twoNames 121 = .ok (.sipush 261, 3) := by decide +kernel
theorem dX8_twoNames_124 : decode cX8_twoNames 124 = .ok (.if_icmp .ne 13, 3) := by decide +kernel
theorem dX8_twoNames_127 : decode cX8_twoNames 127 = .ok (.iload_n 3, 1) := by decide +kernel
theorem dX8_twoNames_128 : decode cX8_twoNames 128 = .ok (.ifCond .eq 9, 3) := by decide +kernel
theorem dX8_twoNames_131 : decode cX8_twoNames 131 = .ok (.aload_n 0, 1) := by decide +kernel
theorem dX8_twoNames_132 : decode cX8_twoNames 132 = .ok (.iconst 2, 1) := by decide +kernel
theorem dX8_twoNames_133 : decode cX8_twoNames 133 = .ok (.invokevirtual 54, 3) := by decide +kernel
theorem dX8_twoNames_136 : decode cX8_twoNames 136 = .ok (.ireturn, 1) := by decide +kernel
theorem dX8_twoNames_137 : decode cX8_twoNames 137 = .ok (.iload_n 1, 1) := by decide +kernel
theorem dX8_twoNames_138 : decode cX8_twoNames 138 = .ok (.sipush 263, 3) := by decide +kernel
theorem dX8_twoNames_141 : decode cX8_twoNames 141 = .ok (.if_icmp .ne 13, 3) := by decide +kernel
theorem dX8_twoNames_144 : decode cX8_twoNames 144 = .ok (.iload_n 2, 1) := by decide +kernel
theorem dX8_twoNames_145 : decode cX8_twoNames 145 = .ok (.ifCond .ne 9, 3) := by decide +kernel
theorem dX8_twoNames_148 : decode cX8_twoNames 148 = .ok (.aload_n 0, 1) := by decide +kernel
theorem dX8_twoNames_149 : decode cX8_twoNames 149 = .ok (.iconst 3, 1) := by decide +kernel
theorem dX8_twoNames_150 : decode cX8_twoNames 150 = .ok (.invokevirtual 54, 3) := by decide +kernel
theorem dX8_twoNames_153 : decode cX8_twoNames 153 = .ok (.ireturn, 1) := by decide +kernel
theorem dX8_twoNames_154 : decode cX8_twoNames 154 = .ok (.aload_n 0, 1) := by decide +kernel
theorem dX8_twoNames_155 : decode cX8_twoNames 155 = .ok (.invokevirtual 88, 3) := by decide +kernel
theorem dX8_twoNames_158 : decode cX8_twoNames 158 = .ok (.iconst 1, 1) := by decide +kernel
theorem dX8_twoNames_159 : decode cX8_twoNames 159 = .ok (.ireturn, 1) := by decide +kernel
set_option maxRecDepth 20000 in
theorem ggX8_somebody_X8_fail : GoodIn wsX8_somebody wsX8_fail := goodIn_r _ [9, 10, 3, 4, 11, 12, 13, 14, 15, 16, 17, 18, 31, 32, 33, 34, 35, 36, 37, 38, 39, 40, 41, 42, 43, 44, 45, 46, 47] (by decide +kernel) (by decide +kernel)
set_option maxRecDepth 20000 in
theorem gX8_somebody_X8_fail : GoodIn wsX8_somebody (wsV RX8 54 RX8 yX8_fail wsX8_fail) := goodIn_app (goodIn_of _ (by decide +kernel)) ggX8_somebody_X8_fail
set_option maxRecDepth 20000 in
theorem ggX8_somebody_X9_valueAt : GoodIn wsX8_somebody wsX9_valueAt := goodIn_r _ [22, 17, 23, 39, 40, 41, 42, 43, 44, 45, 46, 47] (by decide +kernel) (by decide +kernel)
set_option maxRecDepth 20000 in
theorem gX8_somebody_X9_valueAt : GoodIn wsX8_somebody (wsV RX8 91 RX9 yX9_valueAt wsX9_valueAt) := goodIn_app (goodIn_of _ (by decide +kernel)) ggX8_somebody_X9_valueAt
set_option maxRecDepth 20000 in
theorem ggX8_somebody_X6_whoIs : GoodIn wsX8_somebody wsX6_whoIs := goodIn_r _ [28, 29, 30, 48, 49, 50, 51, 52, 53, 54, 55, 56, 57, 58, 59, 60, 61, 62, 63, 64, 65, 66, 67] (by decide +kernel) (by decide +kernel)
set_option maxRecDepth 20000 in
theorem gX8_somebody_X6_whoIs : GoodIn wsX8_somebody (wsV RX8 94 RX6 yX6_whoIs wsX6_whoIs) := goodIn_app (goodIn_of _ (by decide +kernel)) ggX8_somebody_X6_whoIs
theorem dX8_somebody_0 : decode cX8_somebody 0 = .ok (.aload_n 0, 1) := by decide +kernel
theorem dX8_somebody_1 : decode cX8_somebody 1 = .ok (.getfield 47, 3) := by decide +kernel
theorem dX8_somebody_4 : decode cX8_somebody 4 = .ok (.sipush 280, 3) := by decide +kernel
theorem dX8_somebody_7 : decode cX8_somebody 7 = .ok (.if_icmp .eq 11, 3) := by decide +kernel
theorem dX8_somebody_10 : decode cX8_somebody 10 = .ok (.aload_n 0, 1) := by decide +kernel
theorem dX8_somebody_11 : decode cX8_somebody 11 = .ok (.iconst 1, 1) := by decide +kernel
theorem dX8_somebody_12 : decode cX8_somebody 12 = .ok (.invokevirtual 54, 3) := by decide +kernel
theorem dX8_somebody_15 : decode cX8_somebody 15 = .ok (.pop, 1) := by decide +kernel
theorem dX8_somebody_16 : decode cX8_somebody 16 = .ok (.iconst (-1), 1) := by decide +kernel
theorem dX8_somebody_17 : decode cX8_somebody 17 = .ok (.ireturn, 1) := by decide +kernel
theorem dX8_somebody_18 : decode cX8_somebody 18 = .ok (.aload_n 0, 1) := by decide +kernel
theorem dX8_somebody_19 : decode cX8_somebody 19 = .ok (.getfield 12, 3) := by decide +kernel
theorem dX8_somebody_22 : decode cX8_somebody 22 = .ok (.aload_n 0, 1) := by decide +kernel
theorem dX8_somebody_23 : decode cX8_somebody 23 = .ok (.getfield 27, 3) := by decide +kernel
theorem dX8_somebody_26 : decode cX8_somebody 26 = .ok (.aload_n 0, 1) := by decide +kernel
theorem dX8_somebody_27 : decode cX8_somebody 27 = .ok (.getfield 40, 3) := by decide +kernel
theorem dX8_somebody_30 : decode cX8_somebody 30 = .ok (.invokevirtual 91, 3) := by decide +kernel
theorem dX8_somebody_33 : decode cX8_somebody 33 = .ok (.invokevirtual 94, 3) := by decide +kernel
theorem dX8_somebody_36 : decode cX8_somebody 36 = .ok (.istore_n 1, 1) := by decide +kernel
theorem dX8_somebody_37 : decode cX8_somebody 37 = .ok (.iload_n 1, 1) := by decide +kernel
theorem dX8_somebody_38 : decode cX8_somebody 38 = .ok (.iconst (-1), 1) := by decide +kernel
theorem dX8_somebody_39 : decode cX8_somebody 39 = .ok (.if_icmp .ne 9, 3) := by decide +kernel
theorem dX8_somebody_42 : decode cX8_somebody 42 = .ok (.aload_n 0, 1) := by decide +kernel
theorem dX8_somebody_43 : decode cX8_somebody 43 = .ok (.iconst 3, 1) := by decide +kernel
theorem dX8_somebody_44 : decode cX8_somebody 44 = .ok (.invokevirtual 54, 3) := by decide +kernel
theorem dX8_somebody_47 : decode cX8_somebody 47 = .ok (.pop, 1) := by decide +kernel
theorem dX8_somebody_48 : decode cX8_somebody 48 = .ok (.iload_n 1, 1) := by decide +kernel
theorem dX8_somebody_49 : decode cX8_somebody 49 = .ok (.ireturn, 1) := by decide +kernel
set_option maxRecDepth 20000 in
theorem ggX8_number_X8_fail : GoodIn wsX8_number wsX8_fail := goodIn_r _ [8, 9, 2, 3, 10, 11, 12, 13, 14, 15, 16, 17, 32, 33, 34, 35, 36, 37, 38, 39, 40, 41, 42, 43, 44, 45, 46, 47, 48] (by decide +kernel) (by decide +kernel)
set_option maxRecDepth 20000 in
theorem gX8_number_X8_fail : GoodIn wsX8_number (wsV RX8 54 RX8 yX8_fail wsX8_fail) := goodIn_app (goodIn_of _ (by decide +kernel)) ggX8_number_X8_fail
set_option maxRecDepth 20000 in
theorem ggX8_number_X9_valueAt : GoodIn wsX8_number wsX9_valueAt := goodIn_r _ [21, 16, 22, 40, 41, 42, 43, 44, 45, 46, 47, 48] (by decide +kernel) (by decide +kernel)
set_option maxRecDepth 20000 in
theorem gX8_number_X9_valueAt : GoodIn wsX8_number (wsV RX8 91 RX9 yX9_valueAt wsX9_valueAt) := goodIn_app (goodIn_of _ (by decide +kernel)) ggX8_number_X9_valueAt
set_option maxRecDepth 20000 in
theorem ggX8_number_X8_step : GoodIn wsX8_number wsX8_step := goodIn_r _ [26, 3, 2, 1, 27, 28, 29, 14, 30, 16, 31, 32, 33, 34, 35, 36, 37, 38, 39, 40, 41, 42, 43, 44, 45, 46, 47, 48] (by decide +kernel) (by decide +kernel)
set_option maxRecDepth 20000 in
theorem gX8_number_X8_step : GoodIn wsX8_number (wsV RX8 88 RX8 yX8_step wsX8_step) := goodIn_app (goodIn_of _ (by decide +kernel)) ggX8_number_X8_step
theorem dX8_number_0 : decode cX8_number 0 = .ok (.aload_n 0, 1) := by decide +kernel
theorem dX8_number_1 : decode cX8_number 1 = .ok (.getfield 47, 3) := by decide +kernel
theorem dX8_number_4 : decode cX8_number 4 = .ok (.sipush 281, 3) := by decide +kernel
theorem dX8_number_7 : decode cX8_number 7 = .ok (.if_icmp .eq 11, 3) := by decide +kernel
theorem dX8_number_10 : decode cX8_number 10 = .ok (.aload_n 0, 1) := by decide +kernel
theorem dX8_number_11 : decode cX8_number 11 = .ok (.iconst 1, 1) := by decide +kernel
theorem dX8_number_12 : decode cX8_number 12 = .ok (.invokevirtual 54, 3) := by decide +kernel
theorem dX8_number_15 : decode cX8_number 15 = .ok (.pop, 1) := by decide +kernel
theorem dX8_number_16 : decode cX8_number 16 = .ok (.iconst (-1), 1) := by decide +kernel
theorem dX8_number_17 : decode cX8_number 17 = .ok (.ireturn, 1) := by decide +kernel
theorem dX8_number_18 : decode cX8_number 18 = .ok (.aload_n 0, 1) := by decide +kernel
theorem dX8_number_19 : decode cX8_number 19 = .ok (.getfield 27, 3) := by decide +kernel
theorem dX8_number_22 : decode cX8_number 22 = .ok (.aload_n 0, 1) := by decide +kernel
theorem dX8_number_23 : decode cX8_number 23 = .ok (.getfield 40, 3) := by decide +kernel
theorem dX8_number_26 : decode cX8_number 26 = .ok (.invokevirtual 91, 3) := by decide +kernel
theorem dX8_number_29 : decode cX8_number 29 = .ok (.istore_n 1, 1) := by decide +kernel
theorem dX8_number_30 : decode cX8_number 30 = .ok (.aload_n 0, 1) := by decide +kernel
theorem dX8_number_31 : decode cX8_number 31 = .ok (.invokevirtual 88, 3) := by decide +kernel
theorem dX8_number_34 : decode cX8_number 34 = .ok (.iload_n 1, 1) := by decide +kernel
theorem dX8_number_35 : decode cX8_number 35 = .ok (.ireturn, 1) := by decide +kernel
set_option maxRecDepth 20000 in
theorem ggX8_test_X8_both : GoodIn wsX8_test wsX8_both := goodIn_r _ [27, 1, 2, 28, 29, 30, 6, 7, 8, 9, 10, 11, 12, 13, 14, 15, 16, 17, 18, 19, 20, 21, 22, 23, 24, 25, 26, 31, 32, 33, 34, 35, 36, 37, 38, 39, 40, 41, 42, 43, 44, 45, 46, 47, 48, 49, 50, 51, 52, 53, 54, 55, 56, 57, 58, 59, 60, 61, 62, 63, 64, 65, 66, 67, 68, 69, 70, 71, 72, 73, 74, 75, 76, 77, 78, 79, 80, 81, 0, 3, 4, 5, 82, 83, 84, 85, 86, 87, 88, 89, 90, 91, 92, 93, 94, 95, 96, 97, 98, 99, 100, 101, 102, 103, 104, 105, 106, 107, 108, 109, 110, 111, 112, 113, 114, 115, 116, 117, 118] rfl (by decide +kernel)
set_option maxRecDepth 20000 in
theorem gX8_test_X8_both : GoodIn wsX8_test (wsV RX8 147 RX8 yX8_both wsX8_both) := goodIn_app (goodIn_of _ (by decide +kernel)) ggX8_test_X8_both
set_option maxRecDepth 20000 in
theorem ggX8_test_X8_step : GoodIn wsX8_test wsX8_step := goodIn_r _ [10, 11, 12, 1, 13, 14, 15, 16, 17, 18, 19, 82, 83, 84, 85, 86, 87, 88, 89, 90, 91, 92, 93, 94, 95, 96, 97, 98] (by decide +kernel) (by decide +kernel)
set_option maxRecDepth 20000 in
theorem gX8_test_X8_step : GoodIn wsX8_test (wsV RX8 88 RX8 yX8_step wsX8_step) := goodIn_app (goodIn_of _ (by decide +kernel)) ggX8_test_X8_step
set_option maxRecDepth 20000 in
theorem ggX8_test_X6_emit : GoodIn wsX8_test wsX6_emit := goodIn_r _ [24, 25, 26, 99, 100, 101, 102, 103, 104, 105, 106, 107, 108, 109, 110, 111, 112, 113, 114, 115, 116, 117, 118] (by decide +kernel) (by decide +kernel)
set_option maxRecDepth 20000 in
theorem gX8_test_X6_emit : GoodIn wsX8_test (wsV RX8 150 RX6 yX6_emit wsX6_emit) := goodIn_app (goodIn_of _ (by decide +kernel)) ggX8_test_X6_emit
theorem dX8_test_0 : decode cX8_test 0 = .ok (.aload_n 0, 1) := by decide +kernel
theorem dX8_test_1 : decode cX8_test 1 = .ok (.iload_n 1, 1) := by decide +kernel
theorem dX8_test_2 : decode cX8_test 2 = .ok (.invokevirtual 147, 3) := by decide +kernel
theorem dX8_test_5 : decode cX8_test 5 = .ok (.ifCond .ne 5, 3) := by decide +kernel
theorem dX8_test_8 : decode cX8_test 8 = .ok (.iconst 0, 1) := by decide +kernel
theorem dX8_test_9 : decode cX8_test 9 = .ok (.ireturn, 1) := by decide +kernel
theorem dX8_test_10 : decode cX8_test 10 = .ok (.iconst 0, 1) := by decide +kernel
theorem dX8_test_11 : decode cX8_test 11 = .ok (.istore_n 2, 1) := by decide +kernel
theorem dX8_test_12 : decode cX8_test 12 = .ok (.iload_n 2, 1) := by decide +kernel
theorem dX8_test_13 : decode cX8_test 13 = .ok (.sipush 900, 3) := by decide +kernel
theorem dX8_test_16 : decode cX8_test 16 = .ok (.if_icmp .ge 43, 3) := by decide +kernel
theorem dX8_test_19 : decode cX8_test 19 = .ok (.aload_n 0, 1) := by decide +kernel
theorem dX8_test_20 : decode cX8_test 20 = .ok (.getfield 47, 3) := by decide +kernel
theorem dX8_test_23 : decode cX8_test 23 = .ok (.sipush 264, 3) := by decide +kernel
theorem dX8_test_26 : decode cX8_test 26 = .ok (.if_icmp .ne 33, 3) := by decide +kernel
theorem dX8_test_29 : decode cX8_test 29 = .ok (.aload_n 0, 1) := by decide +kernel
theorem dX8_test_30 : decode cX8_test 30 = .ok (.invokevirtual 88, 3) := by decide +kernel
theorem dX8_test_33 : decode cX8_test 33 = .ok (.aload_n 0, 1) := by decide +kernel
theorem dX8_test_34 : decode cX8_test 34 = .ok (.iload_n 1, 1) := by decide +kernel
theorem dX8_test_35 : decode cX8_test 35 = .ok (.invokevirtual 147, 3) := by decide +kernel
theorem dX8_test_38 : decode cX8_test 38 = .ok (.ifCond .ne 5, 3) := by decide +kernel
theorem dX8_test_41 : decode cX8_test 41 = .ok (.iconst 0, 1) := by decide +kernel
theorem dX8_test_42 : decode cX8_test 42 = .ok (.ireturn, 1) := by decide +kernel
theorem dX8_test_43 : decode cX8_test 43 = .ok (.aload_n 0, 1) := by decide +kernel
theorem dX8_test_44 : decode cX8_test 44 = .ok (.getfield 12, 3) := by decide +kernel
theorem dX8_test_47 : decode cX8_test 47 = .ok (.sipush (-264), 3) := by decide +kernel
theorem dX8_test_50 : decode cX8_test 50 = .ok (.invokevirtual 150, 3) := by decide +kernel
theorem dX8_test_53 : decode cX8_test 53 = .ok (.iinc 2 1, 3) := by decide +kernel
theorem dX8_test_56 : decode cX8_test 56 = .ok (.goto (-44), 3) := by decide +kernel
theorem dX8_test_59 : decode cX8_test 59 = .ok (.iconst 1, 1) := by decide +kernel
theorem dX8_test_60 : decode cX8_test 60 = .ok (.ireturn, 1) := by decide +kernel
set_option maxRecDepth 20000 in
theorem ggX8_both_X8_fact : GoodIn wsX8_both wsX8_fact := goodIn_r _ [27, 1, 2, 7, 8, 9, 6, 10, 11, 12, 13, 14, 15, 16, 17, 18, 19, 28, 29, 30, 31, 32, 33, 34, 35, 36, 37, 38, 39, 40, 41, 42, 43, 44, 45, 46, 47, 48, 49, 20, 21, 22, 23, 24, 25, 26, 50, 51, 52, 53, 54, 55, 56, 57, 58, 59, 60, 61, 62, 63, 64, 65, 66, 67, 68, 69, 70, 71, 72, 73, 74, 75, 76, 77, 0, 3, 4, 5, 78, 79, 80, 81, 82, 83, 84, 85, 86, 87, 88, 89, 90, 91, 92, 93, 94, 95, 96, 97, 98, 99, 100, 101, 102, 103, 104, 105, 106, 107, 108, 109, 110, 111, 112, 113, 114, 115, 116, 117, 118] rfl (by decide +kernel)
set_option maxRecDepth 20000 in
theorem gX8_both_X8_fact : GoodIn wsX8_both (wsV RX8 154 RX8 yX8_fact wsX8_fact) := goodIn_app (goodIn_of _ (by decide +kernel)) ggX8_both_X8_fact
set_option maxRecDepth 20000 in
theorem ggX8_both_X8_step : GoodIn wsX8_both wsX8_step := goodIn_r _ [10, 11, 12, 1, 13, 14, 15, 16, 17, 18, 19, 82, 83, 84, 85, 86, 87, 88, 89, 90, 91, 92, 93, 94, 95, 96, 97, 98] (by decide +kernel) (by decide +kernel)
set_option maxRecDepth 20000 in
theorem gX8_both_X8_step : GoodIn wsX8_both (wsV RX8 88 RX8 yX8_step wsX8_step) := goodIn_app (goodIn_of _ (by decide +kernel)) ggX8_both_X8_step
set_option maxRecDepth 20000 in
theorem ggX8_both_X6_emit : GoodIn wsX8_both wsX6_emit := goodIn_r _ [24, 25, 26, 99, 100, 101, 102, 103, 104, 105, 106, 107, 108, 109, 110, 111, 112, 113, 114, 115, 116, 117, 118] (by decide +kernel) (by decide +kernel)
set_option maxRecDepth 20000 in
theorem gX8_both_X6_emit : GoodIn wsX8_both (wsV RX8 150 RX6 yX6_emit wsX6_emit) := goodIn_app (goodIn_of _ (by decide +kernel)) ggX8_both_X6_emit
theorem dX8_both_0 : decode cX8_both 0 = .ok (.aload_n 0, 1) := by decide +kernel
theorem dX8_both_1 : decode cX8_both 1 = .ok (.iload_n 1, 1) := by decide +kernel
theorem dX8_both_2 : decode cX8_both 2 = .ok (.invokevirtual 154, 3) := by decide +kernel
theorem dX8_both_5 : decode cX8_both 5 = .ok (.ifCond .ne 5, 3) := by decide +kernel
theorem dX8_both_8 : decode cX8_both 8 = .ok (.iconst 0, 1) := by decide +kernel
theorem dX8_both_9 : decode cX8_both 9 = .ok (.ireturn, 1) := by decide +kernel
theorem dX8_both_10 : decode cX8_both 10 = .ok (.iconst 0, 1) := by decide +kernel
theorem dX8_both_11 : decode cX8_both 11 = .ok (.istore_n 2, 1) := by decide +kernel
theorem dX8_both_12 : decode cX8_both 12 = .ok (.iload_n 2, 1) := by decide +kernel
theorem dX8_both_13 : decode cX8_both 13 = .ok (.sipush 900, 3) := by decide +kernel
theorem dX8_both_16 : decode cX8_both 16 = .ok (.if_icmp .ge 43, 3) := by decide +kernel
theorem dX8_both_19 : decode cX8_both 19 = .ok (.aload_n 0, 1) := by decide +kernel
theorem dX8_both_20 : decode cX8_both 20 = .ok (.getfield 47, 3) := by decide +kernel
theorem dX8_both_23 : decode cX8_both 23 = .ok (.sipush 265, 3) := by decide +kernel
theorem dX8_both_26 : decode cX8_both 26 = .ok (.if_icmp .ne 33, 3) := by decide +kernel
theorem dX8_both_29 : decode cX8_both 29 = .ok (.aload_n 0, 1) := by decide +kernel
theorem dX8_both_30 : decode cX8_both 30 = .ok (.invokevirtual 88, 3) := by decide +kernel
theorem dX8_both_33 : decode cX8_both 33 = .ok (.aload_n 0, 1) := by decide +kernel
theorem dX8_both_34 : decode cX8_both 34 = .ok (.iload_n 1, 1) := by decide +kernel
theorem dX8_both_35 : decode cX8_both 35 = .ok (.invokevirtual 154, 3) := by decide +kernel
theorem dX8_both_38 : decode cX8_both 38 = .ok (.ifCond .ne 5, 3) := by decide +kernel
theorem dX8_both_41 : decode cX8_both 41 = .ok (.iconst 0, 1) := by decide +kernel
theorem dX8_both_42 : decode cX8_both 42 = .ok (.ireturn, 1) := by decide +kernel
theorem dX8_both_43 : decode cX8_both 43 = .ok (.aload_n 0, 1) := by decide +kernel
theorem dX8_both_44 : decode cX8_both 44 = .ok (.getfield 12, 3) := by decide +kernel
theorem dX8_both_47 : decode cX8_both 47 = .ok (.sipush (-265), 3) := by decide +kernel
theorem dX8_both_50 : decode cX8_both 50 = .ok (.invokevirtual 150, 3) := by decide +kernel
theorem dX8_both_53 : decode cX8_both 53 = .ok (.iinc 2 1, 3) := by decide +kernel
theorem dX8_both_56 : decode cX8_both 56 = .ok (.goto (-44), 3) := by decide +kernel
theorem dX8_both_59 : decode cX8_both 59 = .ok (.iconst 1, 1) := by decide +kernel
theorem dX8_both_60 : decode cX8_both 60 = .ok (.ireturn, 1) := by decide +kernel
set_option maxRecDepth 20000 in
theorem ggX8_fact_X8_step : GoodIn wsX8_fact wsX8_step := goodIn_r _ [7, 8, 9, 1, 10, 11, 12, 13, 14, 15, 16, 82, 83, 84, 85, 86, 87, 88, 89, 90, 91, 92, 93, 94, 95, 96, 97, 98] (by decide +kernel) (by decide +kernel)
set_option maxRecDepth 20000 in
theorem gX8_fact_X8_step : GoodIn wsX8_fact (wsV RX8 88 RX8 yX8_step wsX8_step) := goodIn_app (goodIn_of _ (by decide +kernel)) ggX8_fact_X8_step
set_option maxRecDepth 20000 in
theorem ggX8_fact_X8_opens : GoodIn wsX8_fact wsX8_opens := goodIn_r _ [20, 1, 21, 22, 23, 6, 24, 25, 9, 8, 26, 27, 28, 29, 13, 30, 15, 31, 3, 4, 5, 7, 10, 11, 12, 14, 16, 82, 83, 84, 85, 86, 87, 88, 89, 90, 91, 92, 93, 94, 95, 96, 97, 98] (by decide +kernel) (by decide +kernel)
set_option maxRecDepth 20000 in
theorem gX8_fact_X8_opens : GoodIn wsX8_fact (wsV RX8 157 RX8 yX8_opens wsX8_opens) := goodIn_app (goodIn_of _ (by decide +kernel)) ggX8_fact_X8_opens
set_option maxRecDepth 20000 in
theorem ggX8_fact_X8_test : GoodIn wsX8_fact wsX8_test := goodIn_r _ [78, 1, 2, 79, 80, 81, 6, 3, 4, 5, 7, 8, 9, 10, 11, 12, 13, 14, 15, 16, 39, 40, 41, 42, 43, 44, 45, 74, 75, 76, 77, 0, 17, 18, 19, 20, 21, 22, 23, 24, 25, 26, 27, 28, 29, 30, 31, 32, 33, 34, 35, 36, 37, 38, 46, 47, 48, 49, 50, 51, 52, 53, 54, 55, 56, 57, 58, 59, 60, 61, 62, 63, 64, 65, 66, 67, 68, 69, 70, 71, 72, 73, 82, 83, 84, 85, 86, 87, 88, 89, 90, 91, 92, 93, 94, 95, 96, 97, 98, 99, 100, 101, 102, 103, 104, 105, 106, 107, 108, 109, 110, 111, 112, 113, 114, 115, 116, 117, 118] rfl (by decide +kernel)
set_option maxRecDepth 20000 in
theorem gX8_fact_X8_test : GoodIn wsX8_fact (wsV RX8 123 RX8 yX8_test wsX8_test) := goodIn_app (goodIn_of _ (by decide +kernel)) ggX8_fact_X8_test
set_option maxRecDepth 20000 in
theorem ggX8_fact_X8_skip : GoodIn wsX8_fact wsX8_skip := goodIn_r _ [38, 1, 21, 22, 23, 6, 24, 25, 9, 8, 26, 27, 28, 29, 13, 30, 15, 31, 3, 4, 5, 7, 10, 11, 12, 14, 16, 82, 83, 84, 85, 86, 87, 88, 89, 90, 91, 92, 93, 94, 95, 96, 97, 98] (by decide +kernel) (by decide +kernel)
set_option maxRecDepth 20000 in
theorem gX8_fact_X8_skip : GoodIn wsX8_fact (wsV RX8 70 RX8 yX8_skip wsX8_skip) := goodIn_app (goodIn_of _ (by decide +kernel)) ggX8_fact_X8_skip
set_option maxRecDepth 20000 in
theorem ggX8_fact_X6_emit : GoodIn wsX8_fact wsX6_emit := goodIn_r _ [43, 44, 45, 99, 100, 101, 102, 103, 104, 105, 106, 107, 108, 109, 110, 111, 112, 113, 114, 115, 116, 117, 118] (by decide +kernel) (by decide +kernel)
set_option maxRecDepth 20000 in
theorem gX8_fact_X6_emit : GoodIn wsX8_fact (wsV RX8 150 RX6 yX6_emit wsX6_emit) := goodIn_app (goodIn_of _ (by decide +kernel)) ggX8_fact_X6_emit
set_option maxRecDepth 20000 in
theorem ggX8_fact_X8_sum : GoodIn wsX8_fact wsX8_sum := goodIn_r _ [49, 1, 2, 50, 51, 52, 6, 3, 4, 5, 7, 8, 9, 10, 11, 12, 13, 14, 15, 16, 39, 40, 41, 42, 43, 44, 45, 53, 54, 55, 56, 57, 58, 59, 60, 61, 62, 63, 21, 22, 23, 24, 25, 26, 27, 28, 29, 30, 31, 64, 65, 66, 67, 68, 69, 17, 18, 19, 20, 46, 47, 48, 35, 36, 37, 38, 70, 71, 72, 73, 82, 83, 84, 85, 86, 87, 88, 89, 99, 100, 101, 102, 103, 104, 105, 106, 107, 108, 109, 110, 111, 112, 113, 114, 115, 116, 117, 118, 90, 91, 92, 93, 94, 95, 96, 97, 98] rfl (by decide +kernel)
set_option maxRecDepth 20000 in
theorem gX8_fact_X8_sum : GoodIn wsX8_fact (wsV RX8 120 RX8 yX8_sum wsX8_sum) := goodIn_app (goodIn_of _ (by decide +kernel)) ggX8_fact_X8_sum
set_option maxRecDepth 20000 in
theorem ggX8_fact_X8_fail : GoodIn wsX8_fact wsX8_fail := goodIn_r _ [24, 25, 9, 8, 26, 27, 28, 29, 13, 30, 15, 31, 82, 83, 84, 85, 86, 87, 88, 89, 90, 91, 92, 93, 94, 95, 96, 97, 98] (by decide +kernel) (by decide +kernel)
set_option maxRecDepth 20000 in
theorem gX8_fact_X8_fail : GoodIn wsX8_fact (wsV RX8 54 RX8 yX8_fail wsX8_fail) := goodIn_app (goodIn_of _ (by decide +kernel)) ggX8_fact_X8_fail
theorem dX8_fact_0 : decode cX8_fact 0 = .ok (.iconst 0, 1) := by decide +kernel
theorem dX8_fact_1 : decode cX8_fact 1 = .ok (.istore_n 2, 1) := by decide +kernel
theorem dX8_fact_2 : decode cX8_fact 2 = .ok (.iconst 0, 1) := by decide +kernel
theorem dX8_fact_3 : decode cX8_fact 3 = .ok (.istore_n 3, 1) := by decide +kernel
theorem dX8_fact_4 : decode cX8_fact 4 = .ok (.iload_n 3, 1) := by decide +kernel
theorem dX8_fact_5 : decode cX8_fact 5 = .ok (.sipush 900, 3) := by decide +kernel
theorem dX8_fact_8 : decode cX8_fact 8 = .ok (.if_icmp .ge 33, 3) := by decide +kernel
theorem dX8_fact_11 : decode cX8_fact 11 = .ok (.aload_n 0, 1) := by decide +kernel
theorem dX8_fact_12 : decode cX8_fact 12 = .ok (.getfield 47, 3) := by decide +kernel
theorem dX8_fact_15 : decode cX8_fact 15 = .ok (.sipush 266, 3) := by decide +kernel
theorem dX8_fact_18 : decode cX8_fact 18 = .ok (.if_icmp .ne 23, 3) := by decide +kernel
theorem dX8_fact_21 : decode cX8_fact 21 = .ok (.iload_n 2, 1) := by decide +kernel
theorem dX8_fact_22 : decode cX8_fact 22 = .ok (.ifCond .ne 7, 3) := by decide +kernel
theorem dX8_fact_25 : decode cX8_fact 25 = .ok (.iconst 1, 1) := by decide +kernel
theorem dX8_fact_26 : decode cX8_fact 26 = .ok (.goto 4, 3) := by decide +kernel
theorem dX8_fact_29 : decode cX8_fact 29 = .ok (.iconst 0, 1) := by decide +kernel
theorem dX8_fact_30 : decode cX8_fact 30 = .ok (.istore_n 2, 1) := by decide +kernel
theorem dX8_fact_31 : decode cX8_fact 31 = .ok (.aload_n 0, 1) := by decide +kernel
theorem dX8_fact_32 : decode cX8_fact 32 = .ok (.invokevirtual 88, 3) := by decide +kernel
theorem dX8_fact_35 : decode cX8_fact 35 = .ok (.iinc 3 1, 3) := by decide +kernel
theorem dX8_fact_38 : decode cX8_fact 38 = .ok (.goto (-34), 3) := by decide +kernel
theorem dX8_fact_41 : decode cX8_fact 41 = .ok (.aload_n 0, 1) := by decide +kernel
theorem dX8_fact_42 : decode cX8_fact 42 = .ok (.getfield 47, 3) := by decide +kernel
theorem dX8_fact_45 : decode cX8_fact 45 = .ok (.bipush 91, 2) := by decide +kernel
theorem dX8_fact_47 : decode cX8_fact 47 = .ok (.if_icmp .ne 34, 3) := by decide +kernel
theorem dX8_fact_50 : decode cX8_fact 50 = .ok (.aload_n 0, 1) := by decide +kernel
theorem dX8_fact_51 : decode cX8_fact 51 = .ok (.bipush 91, 2) := by decide +kernel
theorem dX8_fact_53 : decode cX8_fact 53 = .ok (.iload_n 1, 1) := by decide +kernel
theorem dX8_fact_54 : decode cX8_fact 54 = .ok (.invokevirtual 157, 3) := by decide +kernel
theorem dX8_fact_57 : decode cX8_fact 57 = .ok (.ifCond .eq 22, 3) := by decide +kernel
theorem dX8_fact_60 : decode cX8_fact 60 = .ok (.aload_n 0, 1) := by decide +kernel
theorem dX8_fact_61 : decode cX8_fact 61 = .ok (.iload_n 1, 1) := by decide +kernel
theorem dX8_fact_62 : decode cX8_fact 62 = .ok (.iconst 1, 1) := by decide +kernel
theorem dX8_fact_63 : decode cX8_fact 63 = .ok (.iadd, 1) := by decide +kernel
theorem dX8_fact_64 : decode cX8_fact 64 = .ok (.invokevirtual 123, 3) := by decide +kernel
theorem dX8_fact_67 : decode cX8_fact 67 = .ok (.ifCond .eq 12, 3) := by decide +kernel
theorem dX8_fact_70 : decode cX8_fact 70 = .ok (.aload_n 0, 1) := by decide +kernel
theorem dX8_fact_71 : decode cX8_fact 71 = .ok (.bipush 93, 2) := by decide +kernel
theorem dX8_fact_73 : decode cX8_fact 73 = .ok (.invokevirtual 70, 3) := by decide +kernel
theorem dX8_fact_76 : decode cX8_fact 76 = .ok (.ifCond .ne 92, 3) := by decide +kernel
theorem dX8_fact_79 : decode cX8_fact 79 = .ok (.iconst 0, 1) := by decide +kernel
theorem dX8_fact_80 : decode cX8_fact 80 = .ok (.ireturn, 1) := by decide +kernel
theorem dX8_fact_81 : decode cX8_fact 81 = .ok (.aload_n 0, 1) := by decide +kernel
theorem dX8_fact_82 : decode cX8_fact 82 = .ok (.getfield 47, 3) := by decide +kernel
theorem dX8_fact_85 : decode cX8_fact 85 = .ok (.sipush 267, 3) := by decide +kernel
theorem dX8_fact_88 : decode cX8_fact 88 = .ok (.if_icmp .ne 18, 3) := by decide +kernel
theorem dX8_fact_91 : decode cX8_fact 91 = .ok (.aload_n 0, 1) := by decide +kernel
theorem dX8_fact_92 : decode cX8_fact 92 = .ok (.getfield 12, 3) := by decide +kernel
theorem dX8_fact_95 : decode cX8_fact 95 = .ok (.iconst 1, 1) := by decide +kernel
theorem dX8_fact_96 : decode cX8_fact 96 = .ok (.invokevirtual 150, 3) := by decide +kernel
theorem dX8_fact_99 : decode cX8_fact 99 = .ok (.aload_n 0, 1) := by decide +kernel
theorem dX8_fact_100 : decode cX8_fact 100 = .ok (.invokevirtual 88, 3) := by decide +kernel
theorem dX8_fact_103 : decode cX8_fact 103 = .ok (.goto 65, 3) := by decide +kernel
theorem dX8_fact_106 : decode cX8_fact 106 = .ok (.aload_n 0, 1) := by decide +kernel
theorem dX8_fact_107 : decode cX8_fact 107 = .ok (.iload_n 1, 1) := by decide +kernel
theorem dX8_fact_108 : decode cX8_fact 108 = .ok (.invokevirtual 120, 3) := by decide +kernel
theorem dX8_fact_111 : decode cX8_fact 111 = .ok (.ifCond .ne 5, 3) := by decide +kernel
theorem dX8_fact_114 : decode cX8_fact 114 = .ok (.iconst 0, 1) := by decide +kernel
theorem dX8_fact_115 : decode cX8_fact 115 = .ok (.ireturn, 1) := by decide +kernel
theorem dX8_fact_116 : decode cX8_fact 116 = .ok (.aload_n 0, 1) := by decide +kernel
theorem dX8_fact_117 : decode cX8_fact 117 = .ok (.getfield 47, 3) := by decide +kernel
theorem dX8_fact_120 : decode cX8_fact 120 = .ok (.istore_n 3, 1) := by decide +kernel
theorem dX8_fact_121 : decode cX8_fact 121 = .ok (.iload_n 3, 1) := by decide +kernel
theorem dX8_fact_122 : decode cX8_fact 122 = .ok (.bipush 60, 2) := by decide +kernel
theorem dX8_fact_124 : decode cX8_fact 124 = .ok (.if_icmp .eq 21, 3) := by decide +kernel
theorem dX8_fact_127 : decode cX8_fact 127 = .ok (.iload_n 3, 1) := by decide +kernel
theorem dX8_fact_128 : decode cX8_fact 128 = .ok (.bipush 62, 2) := by decide +kernel
theorem dX8_fact_130 : decode cX8_fact 130 = .ok (.if_icmp .eq 15, 3) := by decide +kernel
theorem dX8_fact_133 : decode cX8_fact 133 = .ok (.iload_n 3, 1) := by decide +kernel
theorem dX8_fact_134 : decode cX8_fact 134 = .ok (.bipush 61, 2) := by decide +kernel
theorem dX8_fact_136 : decode cX8_fact 136 = .ok (.if_icmp .eq 9, 3) := by decide +kernel
theorem dX8_fact_139 : decode cX8_fact 139 = .ok (.aload_n 0, 1) := by decide +kernel
theorem dX8_fact_140 : decode cX8_fact 140 = .ok (.iconst 1, 1) := by decide +kernel
theorem dX8_fact_141 : decode cX8_fact 141 = .ok (.invokevirtual 54, 3) := by decide +kernel
theorem dX8_fact_144 : decode cX8_fact 144 = .ok (.ireturn, 1) := by decide +kernel
theorem dX8_fact_145 : decode cX8_fact 145 = .ok (.aload_n 0, 1) := by decide +kernel
theorem dX8_fact_146 : decode cX8_fact 146 = .ok (.invokevirtual 88, 3) := by decide +kernel
theorem dX8_fact_149 : decode cX8_fact 149 = .ok (.aload_n 0, 1) := by decide +kernel
theorem dX8_fact_150 : decode cX8_fact 150 = .ok (.iload_n 1, 1) := by decide +kernel
theorem dX8_fact_151 : decode cX8_fact 151 = .ok (.invokevirtual 120, 3) := by decide +kernel
theorem dX8_fact_154 : decode cX8_fact 154 = .ok (.ifCond .ne 5, 3) := by decide +kernel
theorem dX8_fact_157 : decode cX8_fact 157 = .ok (.iconst 0, 1) := by decide +kernel
theorem dX8_fact_158 : decode cX8_fact 158 = .ok (.ireturn, 1) := by decide +kernel
theorem dX8_fact_159 : decode cX8_fact 159 = .ok (.aload_n 0, 1) := by decide +kernel
theorem dX8_fact_160 : decode cX8_fact 160 = .ok (.getfield 12, 3) := by decide +kernel
theorem dX8_fact_163 : decode cX8_fact 163 = .ok (.iload_n 3, 1) := by decide +kernel
theorem dX8_fact_164 : decode cX8_fact 164 = .ok (.ineg, 1) := by decide +kernel
theorem dX8_fact_165 : decode cX8_fact 165 = .ok (.invokevirtual 150, 3) := by decide +kernel
theorem dX8_fact_168 : decode cX8_fact 168 = .ok (.iload_n 2, 1) := by decide +kernel
theorem dX8_fact_169 : decode cX8_fact 169 = .ok (.ifCond .eq 13, 3) := by decide +kernel
theorem dX8_fact_172 : decode cX8_fact 172 = .ok (.aload_n 0, 1) := by decide +kernel
theorem dX8_fact_173 : decode cX8_fact 173 = .ok (.getfield 12, 3) := by decide +kernel
theorem dX8_fact_176 : decode cX8_fact 176 = .ok (.sipush (-266), 3) := by decide +kernel
theorem dX8_fact_179 : decode cX8_fact 179 = .ok (.invokevirtual 150, 3) := by decide +kernel
theorem dX8_fact_182 : decode cX8_fact 182 = .ok (.iconst 1, 1) := by decide +kernel
theorem dX8_fact_183 : decode cX8_fact 183 = .ok (.ireturn, 1) := by decide +kernel
set_option maxRecDepth 20000 in
theorem ggX8_sum_X8_product : GoodIn wsX8_sum wsX8_product := goodIn_r _ [66, 1, 2, 67, 68, 69, 6, 7, 8, 9, 10, 11, 12, 13, 14, 15, 16, 17, 18, 19, 20, 21, 22, 23, 24, 25, 26, 27, 28, 29, 30, 31, 32, 33, 34, 35, 36, 37, 38, 39, 40, 41, 42, 43, 44, 45, 46, 47, 48, 49, 50, 51, 52, 53, 54, 55, 56, 57, 58, 59, 60, 61, 62, 63, 64, 65, 0, 3, 4, 5, 70, 71, 72, 73, 74, 75, 76, 77, 78, 79, 80, 81, 82, 83, 84, 85, 86, 87, 88, 89, 90, 91, 92, 93, 94, 95, 96, 97, 98, 99, 100, 101, 102, 103, 104, 105, 106] rfl (by decide +kernel)
set_option maxRecDepth 20000 in
theorem gX8_sum_X8_product : GoodIn wsX8_sum (wsV RX8 161 RX8 yX8_product wsX8_product) := goodIn_app (goodIn_of _ (by decide +kernel)) ggX8_sum_X8_product
set_option maxRecDepth 20000 in
theorem ggX8_sum_X8_step : GoodIn wsX8_sum wsX8_step := goodIn_r _ [10, 11, 12, 1, 13, 14, 15, 16, 17, 18, 19, 70, 71, 72, 73, 74, 75, 76, 77, 98, 99, 100, 101, 102, 103, 104, 105, 106] (by decide +kernel) (by decide +kernel)
set_option maxRecDepth 20000 in
theorem gX8_sum_X8_step : GoodIn wsX8_sum (wsV RX8 88 RX8 yX8_step wsX8_step) := goodIn_app (goodIn_of _ (by decide +kernel)) ggX8_sum_X8_step
set_option maxRecDepth 20000 in
theorem ggX8_sum_X6_emit : GoodIn wsX8_sum wsX6_emit := goodIn_r _ [24, 25, 26, 78, 79, 80, 81, 82, 83, 84, 85, 86, 87, 88, 89, 90, 91, 92, 93, 94, 95, 96, 97] (by decide +kernel) (by decide +kernel)
set_option maxRecDepth 20000 in
theorem gX8_sum_X6_emit : GoodIn wsX8_sum (wsV RX8 150 RX6 yX6_emit wsX6_emit) := goodIn_app (goodIn_of _ (by decide +kernel)) ggX8_sum_X6_emit
theorem dX8_sum_0 : decode cX8_sum 0 = .ok (.aload_n 0, 1) := by decide +kernel
theorem dX8_sum_1 : decode cX8_sum 1 = .ok (.iload_n 1, 1) := by decide +kernel
theorem dX8_sum_2 : decode cX8_sum 2 = .ok (.invokevirtual 161, 3) := by decide +kernel
theorem dX8_sum_5 : decode cX8_sum 5 = .ok (.ifCond .ne 5, 3) := by decide +kernel
theorem dX8_sum_8 : decode cX8_sum 8 = .ok (.iconst 0, 1) := by decide +kernel
theorem dX8_sum_9 : decode cX8_sum 9 = .ok (.ireturn, 1) := by decide +kernel
theorem dX8_sum_10 : decode cX8_sum 10 = .ok (.iconst 0, 1) := by decide +kernel
theorem dX8_sum_11 : decode cX8_sum 11 = .ok (.istore_n 2, 1) := by decide +kernel
theorem dX8_sum_12 : decode cX8_sum 12 = .ok (.iload_n 2, 1) := by decide +kernel
theorem dX8_sum_13 : decode cX8_sum 13 = .ok (.sipush 900, 3) := by decide +kernel
theorem dX8_sum_16 : decode cX8_sum 16 = .ok (.if_icmp .ge 55, 3) := by decide +kernel
theorem dX8_sum_19 : decode cX8_sum 19 = .ok (.aload_n 0, 1) := by decide +kernel
theorem dX8_sum_20 : decode cX8_sum 20 = .ok (.getfield 47, 3) := by decide +kernel
theorem dX8_sum_23 : decode cX8_sum 23 = .ok (.bipush 43, 2) := by decide +kernel
theorem dX8_sum_25 : decode cX8_sum 25 = .ok (.if_icmp .eq 12, 3) := by decide +kernel
theorem dX8_sum_28 : decode cX8_sum 28 = .ok (.aload_n 0, 1) := by decide +kernel
theorem dX8_sum_29 : decode cX8_sum 29 = .ok (.getfield 47, 3) := by decide +kernel
theorem dX8_sum_32 : decode cX8_sum 32 = .ok (.bipush 45, 2) := by decide +kernel
theorem dX8_sum_34 : decode cX8_sum 34 = .ok (.if_icmp .ne 37, 3) := by decide +kernel
theorem dX8_sum_37 : decode cX8_sum 37 = .ok (.aload_n 0, 1) := by decide +kernel
theorem dX8_sum_38 : decode cX8_sum 38 = .ok (.getfield 47, 3) := by decide +kernel
theorem dX8_sum_41 : decode cX8_sum 41 = .ok (.istore_n 3, 1) := by decide +kernel
theorem dX8_sum_42 : decode cX8_sum 42 = .ok (.aload_n 0, 1) := by decide +kernel
theorem dX8_sum_43 : decode cX8_sum 43 = .ok (.invokevirtual 88, 3) := by decide +kernel
theorem dX8_sum_46 : decode cX8_sum 46 = .ok (.aload_n 0, 1) := by decide +kernel
theorem dX8_sum_47 : decode cX8_sum 47 = .ok (.iload_n 1, 1) := by decide +kernel
theorem dX8_sum_48 : decode cX8_sum 48 = .ok (.invokevirtual 161, 3) := by decide +kernel
theorem dX8_sum_51 : decode cX8_sum 51 = .ok (.ifCond .ne 5, 3) := by decide +kernel
theorem dX8_sum_54 : decode cX8_sum 54 = .ok (.iconst 0, 1) := by decide +kernel
theorem dX8_sum_55 : decode cX8_sum 55 = .ok (.ireturn, 1) := by decide +kernel
theorem dX8_sum_56 : decode cX8_sum 56 = .ok (.aload_n 0, 1) := by decide +kernel
theorem dX8_sum_57 : decode cX8_sum 57 = .ok (.getfield 12, 3) := by decide +kernel
theorem dX8_sum_60 : decode cX8_sum 60 = .ok (.iload_n 3, 1) := by decide +kernel
theorem dX8_sum_61 : decode cX8_sum 61 = .ok (.ineg, 1) := by decide +kernel
theorem dX8_sum_62 : decode cX8_sum 62 = .ok (.invokevirtual 150, 3) := by decide +kernel
theorem dX8_sum_65 : decode cX8_sum 65 = .ok (.iinc 2 1, 3) := by decide +kernel
theorem dX8_sum_68 : decode cX8_sum 68 = .ok (.goto (-56), 3) := by decide +kernel
theorem dX8_sum_71 : decode cX8_sum 71 = .ok (.iconst 1, 1) := by decide +kernel
theorem dX8_sum_72 : decode cX8_sum 72 = .ok (.ireturn, 1) := by decide +kernel
set_option maxRecDepth 20000 in
theorem ggX8_product_X8_part : GoodIn wsX8_product wsX8_part := goodIn_r _ [27, 1, 2, 12, 11, 28, 29, 30, 31, 16, 32, 18, 33, 20, 21, 22, 23, 24, 25, 26, 7, 8, 9, 6, 10, 13, 14, 15, 17, 19, 34, 35, 36, 37, 38, 39, 40, 41, 42, 43, 44, 45, 46, 47, 48, 49, 50, 51, 52, 53, 54, 55, 56, 57, 58, 59, 60, 61, 62, 63, 64, 65, 0, 3, 4, 5, 66, 67, 68, 69, 70, 71, 72, 73, 74, 75, 76, 77, 78, 79, 80, 81, 82, 83, 84, 85, 86, 87, 88, 89, 90, 91, 92, 93, 94, 95, 96, 97, 98, 99, 100, 101, 102, 103, 104, 105, 106] rfl (by decide +kernel)
set_option maxRecDepth 20000 in
theorem gX8_product_X8_part : GoodIn wsX8_product (wsV RX8 164 RX8 yX8_part wsX8_part) := goodIn_app (goodIn_of _ (by decide +kernel)) ggX8_product_X8_part
set_option maxRecDepth 20000 in
theorem ggX8_product_X8_step : GoodIn wsX8_product wsX8_step := goodIn_r _ [10, 11, 12, 1, 13, 14, 15, 16, 17, 18, 19, 70, 71, 72, 73, 74, 75, 76, 77, 98, 99, 100, 101, 102, 103, 104, 105, 106] (by decide +kernel) (by decide +kernel)
set_option maxRecDepth 20000 in
theorem gX8_product_X8_step : GoodIn wsX8_product (wsV RX8 88 RX8 yX8_step wsX8_step) := goodIn_app (goodIn_of _ (by decide +kernel)) ggX8_product_X8_step
set_option maxRecDepth 20000 in
theorem ggX8_product_X6_emit : GoodIn wsX8_product wsX6_emit := goodIn_r _ [24, 25, 26, 78, 79, 80, 81, 82, 83, 84, 85, 86, 87, 88, 89, 90, 91, 92, 93, 94, 95, 96, 97] (by decide +kernel) (by decide +kernel)
set_option maxRecDepth 20000 in
theorem gX8_product_X6_emit : GoodIn wsX8_product (wsV RX8 150 RX6 yX6_emit wsX6_emit) := goodIn_app (goodIn_of _ (by decide +kernel)) ggX8_product_X6_emit
theorem dX8_product_0 : decode cX8_product 0 = .ok (.aload_n 0, 1) := by decide +kernel
theorem dX8_product_1 : decode cX8_product 1 = .ok (.iload_n 1, 1) := by decide +kernel
theorem dX8_product_2 : decode cX8_product 2 = .ok (.invokevirtual 164, 3) := by decide +kernel
theorem dX8_product_5 : decode cX8_product 5 = .ok (.ifCond .ne 5, 3) := by decide +kernel
theorem dX8_product_8 : decode cX8_product 8 = .ok (.iconst 0, 1) := by decide +kernel
theorem dX8_product_9 : decode cX8_product 9 = .ok (.ireturn, 1) := by decide +kernel
theorem dX8_product_10 : decode cX8_product 10 = .ok (.iconst 0, 1) := by decide +kernel
theorem dX8_product_11 : decode cX8_product 11 = .ok (.istore_n 2, 1) := by decide +kernel
theorem dX8_product_12 : decode cX8_product 12 = .ok (.iload_n 2, 1) := by decide +kernel
theorem dX8_product_13 : decode cX8_product 13 = .ok (.sipush 900, 3) := by decide +kernel
theorem dX8_product_16 : decode cX8_product 16 = .ok (.if_icmp .ge 64, 3) := by decide +kernel
theorem dX8_product_19 : decode cX8_product 19 = .ok (.aload_n 0, 1) := by decide +kernel
theorem dX8_product_20 : decode cX8_product 20 = .ok (.getfield 47, 3) := by decide +kernel
theorem dX8_product_23 : decode cX8_product 23 = .ok (.bipush 42, 2) := by decide +kernel
theorem dX8_product_25 : decode cX8_product 25 = .ok (.if_icmp .eq 21, 3) := by decide +kernel
theorem dX8_product_28 : decode cX8_product 28 = .ok (.aload_n 0, 1) := by decide +kernel
theorem dX8_product_29 : decode cX8_product 29 = .ok (.getfield 47, 3) := by decide +kernel
theorem dX8_product_32 : decode cX8_product 32 = .ok (.bipush 47, 2) := by decide +kernel
theorem dX8_product_34 : decode cX8_product 34 = .ok (.if_icmp .eq 12, 3) := by decide +kernel
theorem dX8_product_37 : decode cX8_product 37 = .ok (.aload_n 0, 1) := by decide +kernel
theorem dX8_product_38 : decode cX8_product 38 = .ok (.getfield 47, 3) := by decide +kernel
theorem dX8_product_41 : decode cX8_product 41 = .ok (.bipush 37, 2) := by decide +kernel
theorem dX8_product_43 : decode cX8_product 43 = .ok (.if_icmp .ne 37, 3) := by decide +kernel
theorem dX8_product_46 : decode cX8_product 46 = .ok (.aload_n 0, 1) := by decide +kernel
theorem dX8_product_47 : decode cX8_product 47 = .ok (.getfield 47, 3) := by decide +kernel
theorem dX8_product_50 : decode cX8_product 50 = .ok (.istore_n 3, 1) := by decide +kernel
theorem dX8_product_51 : decode cX8_product 51 = .ok (.aload_n 0, 1) := by decide +kernel
theorem dX8_product_52 : decode cX8_product 52 = .ok (.invokevirtual 88, 3) := by decide +kernel
theorem dX8_product_55 : decode cX8_product 55 = .ok (.aload_n 0, 1) := by decide +kernel
theorem dX8_product_56 : decode cX8_product 56 = .ok (.iload_n 1, 1) := by decide +kernel
theorem dX8_product_57 : decode cX8_product 57 = .ok (.invokevirtual 164, 3) := by decide +kernel
theorem dX8_product_60 : decode cX8_product 60 = .ok (.ifCond .ne 5, 3) := by decide +kernel
theorem dX8_product_63 : decode cX8_product 63 = .ok (.iconst 0, 1) := by decide +kernel
theorem dX8_product_64 : decode cX8_product 64 = .ok (.ireturn, 1) := by decide +kernel
theorem dX8_product_65 : decode cX8_product 65 = .ok (.aload_n 0, 1) := by decide +kernel
theorem dX8_product_66 : decode cX8_product 66 = .ok (.getfield 12, 3) := by decide +kernel
theorem dX8_product_69 : decode cX8_product 69 = .ok (.iload_n 3, 1) := by decide +kernel
theorem dX8_product_70 : decode cX8_product 70 = .ok (.ineg, 1) := by decide +kernel
theorem dX8_product_71 : decode cX8_product 71 = .ok (.invokevirtual 150, 3) := by decide +kernel
theorem dX8_product_74 : decode cX8_product 74 = .ok (.iinc 2 1, 3) := by decide +kernel
theorem dX8_product_77 : decode cX8_product 77 = .ok (.goto (-65), 3) := by decide +kernel
theorem dX8_product_80 : decode cX8_product 80 = .ok (.iconst 1, 1) := by decide +kernel
theorem dX8_product_81 : decode cX8_product 81 = .ok (.ireturn, 1) := by decide +kernel
set_option maxRecDepth 20000 in
theorem ggX8_part_X9_valueAt : GoodIn wsX8_part wsX9_valueAt := goodIn_r _ [10, 11, 12, 98, 99, 100, 101, 102, 103, 104, 105, 106] (by decide +kernel) (by decide +kernel)
set_option maxRecDepth 20000 in
theorem gX8_part_X9_valueAt : GoodIn wsX8_part (wsV RX8 91 RX9 yX9_valueAt wsX9_valueAt) := goodIn_app (goodIn_of _ (by decide +kernel)) ggX8_part_X9_valueAt
set_option maxRecDepth 20000 in
theorem ggX8_part_X6_emit : GoodIn wsX8_part wsX6_emit := goodIn_r _ [17, 18, 19, 78, 79, 80, 81, 82, 83, 84, 85, 86, 87, 88, 89, 90, 91, 92, 93, 94, 95, 96, 97] (by decide +kernel) (by decide +kernel)
set_option maxRecDepth 20000 in
theorem gX8_part_X6_emit : GoodIn wsX8_part (wsV RX8 150 RX6 yX6_emit wsX6_emit) := goodIn_app (goodIn_of _ (by decide +kernel)) ggX8_part_X6_emit
set_option maxRecDepth 20000 in
theorem ggX8_part_X8_step : GoodIn wsX8_part wsX8_step := goodIn_r _ [24, 4, 3, 1, 25, 26, 27, 9, 28, 11, 29, 70, 71, 72, 73, 74, 75, 76, 77, 98, 99, 100, 101, 102, 103, 104, 105, 106] (by decide +kernel) (by decide +kernel)
set_option maxRecDepth 20000 in
theorem gX8_part_X8_step : GoodIn wsX8_part (wsV RX8 88 RX8 yX8_step wsX8_step) := goodIn_app (goodIn_of _ (by decide +kernel)) ggX8_part_X8_step
set_option maxRecDepth 20000 in
theorem ggX8_part_X8_somebody : GoodIn wsX8_part wsX8_somebody := goodIn_r _ [33, 1, 2, 3, 4, 34, 35, 36, 23, 37, 38, 39, 40, 41, 42, 9, 43, 11, 44, 6, 7, 8, 10, 12, 45, 46, 47, 16, 48, 49, 50, 70, 71, 72, 73, 74, 75, 76, 77, 98, 99, 100, 101, 102, 103, 104, 105, 106, 78, 79, 80, 81, 82, 83, 84, 85, 86, 87, 88, 89, 90, 91, 92, 93, 94, 95, 96, 97] (by decide +kernel) (by decide +kernel)
set_option maxRecDepth 20000 in
theorem gX8_part_X8_somebody : GoodIn wsX8_part (wsV RX8 136 RX8 yX8_somebody wsX8_somebody) := goodIn_app (goodIn_of _ (by decide +kernel)) ggX8_part_X8_somebody
set_option maxRecDepth 20000 in
theorem ggX8_part_X8_opens : GoodIn wsX8_part wsX8_opens := goodIn_r _ [54, 1, 34, 35, 36, 23, 37, 38, 3, 4, 39, 40, 41, 42, 9, 43, 11, 44, 20, 21, 22, 24, 25, 26, 27, 28, 29, 70, 71, 72, 73, 74, 75, 76, 77, 98, 99, 100, 101, 102, 103, 104, 105, 106] (by decide +kernel) (by decide +kernel)
set_option maxRecDepth 20000 in
theorem gX8_part_X8_opens : GoodIn wsX8_part (wsV RX8 157 RX8 yX8_opens wsX8_opens) := goodIn_app (goodIn_of _ (by decide +kernel)) ggX8_part_X8_opens
set_option maxRecDepth 20000 in
theorem ggX8_part_X8_sum : GoodIn wsX8_part wsX8_sum := goodIn_r _ [66, 1, 2, 67, 68, 69, 23, 20, 21, 22, 24, 4, 3, 25, 26, 27, 9, 28, 11, 29, 13, 14, 15, 16, 17, 18, 19, 0, 5, 6, 7, 8, 10, 12, 30, 31, 32, 33, 34, 35, 36, 37, 38, 39, 40, 41, 42, 43, 44, 45, 46, 47, 48, 49, 50, 51, 52, 53, 54, 55, 56, 57, 58, 59, 60, 61, 62, 63, 64, 65, 70, 71, 72, 73, 74, 75, 76, 77, 78, 79, 80, 81, 82, 83, 84, 85, 86, 87, 88, 89, 90, 91, 92, 93, 94, 95, 96, 97, 98, 99, 100, 101, 102, 103, 104, 105, 106] rfl (by decide +kernel)
set_option maxRecDepth 20000 in
theorem gX8_part_X8_sum : GoodIn wsX8_part (wsV RX8 120 RX8 yX8_sum wsX8_sum) := goodIn_app (goodIn_of _ (by decide +kernel)) ggX8_part_X8_sum
set_option maxRecDepth 20000 in
theorem ggX8_part_X8_skip : GoodIn wsX8_part wsX8_skip := goodIn_r _ [61, 1, 34, 35, 36, 23, 37, 38, 3, 4, 39, 40, 41, 42, 9, 43, 11, 44, 20, 21, 22, 24, 25, 26, 27, 28, 29, 70, 71, 72, 73, 74, 75, 76, 77, 98, 99, 100, 101, 102, 103, 104, 105, 106] (by decide +kernel) (by decide +kernel)
set_option maxRecDepth 20000 in
theorem gX8_part_X8_skip : GoodIn wsX8_part (wsV RX8 70 RX8 yX8_skip wsX8_skip) := goodIn_app (goodIn_of _ (by decide +kernel)) ggX8_part_X8_skip
set_option maxRecDepth 20000 in
theorem ggX8_part_X8_fail : GoodIn wsX8_part wsX8_fail := goodIn_r _ [37, 38, 3, 4, 39, 40, 41, 42, 9, 43, 11, 44, 70, 71, 72, 73, 74, 75, 76, 77, 98, 99, 100, 101, 102, 103, 104, 105, 106] (by decide +kernel) (by decide +kernel)
set_option maxRecDepth 20000 in
theorem gX8_part_X8_fail : GoodIn wsX8_part (wsV RX8 54 RX8 yX8_fail wsX8_fail) := goodIn_app (goodIn_of _ (by decide +kernel)) ggX8_part_X8_fail
theorem dX8_part_0 : decode cX8_part 0 = .ok (.aload_n 0, 1) := by decide +kernel
theorem dX8_part_1 : decode cX8_part 1 = .ok (.getfield 47, 3) := by decide +kernel
theorem dX8_part_4 : decode cX8_part 4 = .ok (.istore_n 2, 1) := by decide +kernel
theorem dX8_part_5 : decode cX8_part 5 = .ok (.iload_n 2, 1) := by decide +kernel
theorem dX8_part_6 : decode cX8_part 6 = .ok (.lookupswitch 251 #[(40, 151), (257, 113), (268, 98), (269, 98), (270, 98), (271, 186), (272, 186), (281, 74)], 74) := by decide +kernel
theorem dX8_part_80 : decode cX8_part 80 = .ok (.aload_n 0, 1) := by decide +kernel
theorem dX8_part_81 : decode cX8_part 81 = .ok (.getfield 12, 3) := by decide +kernel
theorem dX8_part_84 : decode cX8_part 84 = .ok (.aload_n 0, 1) := by decide +kernel
theorem dX8_part_85 : decode cX8_part 85 = .ok (.getfield 27, 3) := by decide +kernel
theorem dX8_part_88 : decode cX8_part 88 = .ok (.aload_n 0, 1) := by decide +kernel
theorem dX8_part_89 : decode cX8_part 89 = .ok (.getfield 40, 3) := by decide +kernel
theorem dX8_part_92 : decode cX8_part 92 = .ok (.invokevirtual 91, 3) := by decide +kernel
theorem dX8_part_95 : decode cX8_part 95 = .ok (.invokevirtual 150, 3) := by decide +kernel
theorem dX8_part_98 : decode cX8_part 98 = .ok (.aload_n 0, 1) := by decide +kernel
theorem dX8_part_99 : decode cX8_part 99 = .ok (.invokevirtual 88, 3) := by decide +kernel
theorem dX8_part_102 : decode cX8_part 102 = .ok (.iconst 1, 1) := by decide +kernel
theorem dX8_part_103 : decode cX8_part 103 = .ok (.ireturn, 1) := by decide +kernel
theorem dX8_part_104 : decode cX8_part 104 = .ok (.aload_n 0, 1) := by decide +kernel
theorem dX8_part_105 : decode cX8_part 105 = .ok (.getfield 12, 3) := by decide +kernel
theorem dX8_part_108 : decode cX8_part 108 = .ok (.iload_n 2, 1) := by decide +kernel
theorem dX8_part_109 : decode cX8_part 109 = .ok (.ineg, 1) := by decide +kernel
theorem dX8_part_110 : decode cX8_part 110 = .ok (.invokevirtual 150, 3) := by decide +kernel
theorem dX8_part_113 : decode cX8_part 113 = .ok (.aload_n 0, 1) := by decide +kernel
theorem dX8_part_114 : decode cX8_part 114 = .ok (.invokevirtual 88, 3) := by decide +kernel
theorem dX8_part_117 : decode cX8_part 117 = .ok (.iconst 1, 1) := by decide +kernel
theorem dX8_part_118 : decode cX8_part 118 = .ok (.ireturn, 1) := by decide +kernel
theorem dX8_part_119 : decode cX8_part 119 = .ok (.aload_n 0, 1) := by decide +kernel
theorem dX8_part_120 : decode cX8_part 120 = .ok (.invokevirtual 88, 3) := by decide +kernel
theorem dX8_part_123 : decode cX8_part 123 = .ok (.aload_n 0, 1) := by decide +kernel
theorem dX8_part_124 : decode cX8_part 124 = .ok (.invokevirtual 136, 3) := by decide +kernel
theorem dX8_part_127 : decode cX8_part 127 = .ok (.istore_n 3, 1) := by decide +kernel
theorem dX8_part_128 : decode cX8_part 128 = .ok (.iload_n 3, 1) := by decide +kernel
theorem dX8_part_129 : decode cX8_part 129 = .ok (.iconst (-1), 1) := by decide +kernel
theorem dX8_part_130 : decode cX8_part 130 = .ok (.if_icmp .ne 5, 3) := by decide +kernel
theorem dX8_part_133 : decode cX8_part 133 = .ok (.iconst 0, 1) := by decide +kernel
theorem dX8_part_134 : decode cX8_part 134 = .ok (.ireturn, 1) := by decide +kernel
theorem dX8_part_135 : decode cX8_part 135 = .ok (.aload_n 0, 1) := by decide +kernel
theorem dX8_part_136 : decode cX8_part 136 = .ok (.getfield 12, 3) := by decide +kernel
theorem dX8_part_139 : decode cX8_part 139 = .ok (.aload_n 0, 1) := by decide +kernel
theorem dX8_part_140 : decode cX8_part 140 = .ok (.getfield 12, 3) := by decide +kernel
theorem dX8_part_143 : decode cX8_part 143 = .ok (.getfield 167, 3) := by decide +kernel
theorem dX8_part_146 : decode cX8_part 146 = .ok (.iload_n 3, 1) := by decide +kernel
theorem dX8_part_147 : decode cX8_part 147 = .ok (.iaload, 1) := by decide +kernel
theorem dX8_part_148 : decode cX8_part 148 = .ok (.invokevirtual 150, 3) := by decide +kernel
theorem dX8_part_151 : decode cX8_part 151 = .ok (.aload_n 0, 1) := by decide +kernel
theorem dX8_part_152 : decode cX8_part 152 = .ok (.invokevirtual 88, 3) := by decide +kernel
theorem dX8_part_155 : decode cX8_part 155 = .ok (.iconst 1, 1) := by decide +kernel
theorem dX8_part_156 : decode cX8_part 156 = .ok (.ireturn, 1) := by decide +kernel
theorem dX8_part_157 : decode cX8_part 157 = .ok (.aload_n 0, 1) := by decide +kernel
theorem dX8_part_158 : decode cX8_part 158 = .ok (.bipush 40, 2) := by decide +kernel
theorem dX8_part_160 : decode cX8_part 160 = .ok (.iload_n 1, 1) := by decide +kernel
theorem dX8_part_161 : decode cX8_part 161 = .ok (.invokevirtual 157, 3) := by decide +kernel
theorem dX8_part_164 : decode cX8_part 164 = .ok (.ifCond .eq 26, 3) := by decide +kernel
theorem dX8_part_167 : decode cX8_part 167 = .ok (.aload_n 0, 1) := by decide +kernel
theorem dX8_part_168 : decode cX8_part 168 = .ok (.iload_n 1, 1) := by decide +kernel
theorem dX8_part_169 : decode cX8_part 169 = .ok (.iconst 1, 1) := by decide +kernel
theorem dX8_part_170 : decode cX8_part 170 = .ok (.iadd, 1) := by decide +kernel
theorem dX8_part_171 : decode cX8_part 171 = .ok (.invokevirtual 120, 3) := by decide +kernel
theorem dX8_part_174 : decode cX8_part 174 = .ok (.ifCond .eq 16, 3) := by decide +kernel
theorem dX8_part_177 : decode cX8_part 177 = .ok (.aload_n 0, 1) := by decide +kernel
theorem dX8_part_178 : decode cX8_part 178 = .ok (.bipush 41, 2) := by decide +kernel
theorem dX8_part_180 : decode cX8_part 180 = .ok (.invokevirtual 70, 3) := by decide +kernel
theorem dX8_part_183 : decode cX8_part 183 = .ok (.ifCond .eq 7, 3) := by decide +kernel
theorem dX8_part_186 : decode cX8_part 186 = .ok (.iconst 1, 1) := by decide +kernel
theorem dX8_part_187 : decode cX8_part 187 = .ok (.goto 4, 3) := by decide +kernel
theorem dX8_part_190 : decode cX8_part 190 = .ok (.iconst 0, 1) := by decide +kernel
theorem dX8_part_191 : decode cX8_part 191 = .ok (.ireturn, 1) := by decide +kernel
theorem dX8_part_192 : decode cX8_part 192 = .ok (.aload_n 0, 1) := by decide +kernel
theorem dX8_part_193 : decode cX8_part 193 = .ok (.invokevirtual 88, 3) := by decide +kernel
theorem dX8_part_196 : decode cX8_part 196 = .ok (.aload_n 0, 1) := by decide +kernel
theorem dX8_part_197 : decode cX8_part 197 = .ok (.bipush 40, 2) := by decide +kernel
theorem dX8_part_199 : decode cX8_part 199 = .ok (.iload_n 1, 1) := by decide +kernel
theorem dX8_part_200 : decode cX8_part 200 = .ok (.invokevirtual 157, 3) := by decide +kernel
theorem dX8_part_203 : decode cX8_part 203 = .ok (.ifCond .eq 41, 3) := by decide +kernel
theorem dX8_part_206 : decode cX8_part 206 = .ok (.aload_n 0, 1) := by decide +kernel
theorem dX8_part_207 : decode cX8_part 207 = .ok (.iload_n 1, 1) := by decide +kernel
theorem dX8_part_208 : decode cX8_part 208 = .ok (.iconst 1, 1) := by decide +kernel
theorem dX8_part_209 : decode cX8_part 209 = .ok (.iadd, 1) := by decide +kernel
theorem dX8_part_210 : decode cX8_part 210 = .ok (.invokevirtual 120, 3) := by decide +kernel
theorem dX8_part_213 : decode cX8_part 213 = .ok (.ifCond .eq 31, 3) := by decide +kernel
theorem dX8_part_216 : decode cX8_part 216 = .ok (.aload_n 0, 1) := by decide +kernel
theorem dX8_part_217 : decode cX8_part 217 = .ok (.bipush 44, 2) := by decide +kernel
theorem dX8_part_219 : decode cX8_part 219 = .ok (.invokevirtual 70, 3) := by decide +kernel
theorem dX8_part_222 : decode cX8_part 222 = .ok (.ifCond .eq 22, 3) := by decide +kernel
theorem dX8_part_225 : decode cX8_part 225 = .ok (.aload_n 0, 1) := by decide +kernel
theorem dX8_part_226 : decode cX8_part 226 = .ok (.iload_n 1, 1) := by decide +kernel
theorem dX8_part_227 : decode cX8_part 227 = .ok (.iconst 1, 1) := by decide +kernel
theorem dX8_part_228 : decode cX8_part 228 = .ok (.iadd, 1) := by decide +kernel
theorem dX8_part_229 : decode cX8_part 229 = .ok (.invokevirtual 120, 3) := by decide +kernel
theorem dX8_part_232 : decode cX8_part 232 = .ok (.ifCond .eq 12, 3) := by decide +kernel
theorem dX8_part_235 : decode cX8_part 235 = .ok (.aload_n 0, 1) := by decide +kernel
theorem dX8_part_236 : decode cX8_part 236 = .ok (.bipush 41, 2) := by decide +kernel
theorem dX8_part_238 : decode cX8_part 238 = .ok (.invokevirtual 70, 3) := by decide +kernel
theorem dX8_part_241 : decode cX8_part 241 = .ok (.ifCond .ne 5, 3) := by decide +kernel
theorem dX8_part_244 : decode cX8_part 244 = .ok (.iconst 0, 1) := by decide +kernel
theorem dX8_part_245 : decode cX8_part 245 = .ok (.ireturn, 1) := by decide +kernel
theorem dX8_part_246 : decode cX8_part 246 = .ok (.aload_n 0, 1) := by decide +kernel
theorem dX8_part_247 : decode cX8_part 247 = .ok (.getfield 12, 3) := by decide +kernel
theorem dX8_part_250 : decode cX8_part 250 = .ok (.iload_n 2, 1) := by decide +kernel
theorem dX8_part_251 : decode cX8_part 251 = .ok (.ineg, 1) := by decide +kernel
theorem dX8_part_252 : decode cX8_part 252 = .ok (.invokevirtual 150, 3) := by decide +kernel
theorem dX8_part_255 : decode cX8_part 255 = .ok (.iconst 1, 1) := by decide +kernel
theorem dX8_part_256 : decode cX8_part 256 = .ok (.ireturn, 1) := by decide +kernel
theorem dX8_part_257 : decode cX8_part 257 = .ok (.aload_n 0, 1) := by decide +kernel
theorem dX8_part_258 : decode cX8_part 258 = .ok (.iconst 1, 1) := by decide +kernel
theorem dX8_part_259 : decode cX8_part 259 = .ok (.invokevirtual 54, 3) := by decide +kernel
theorem dX8_part_262 : decode cX8_part 262 = .ok (.ireturn, 1) := by decide +kernel
set_option maxRecDepth 20000 in
theorem ggX8_opens_X8_fail : GoodIn wsX8_opens wsX8_fail := goodIn_r _ [6, 7, 8, 9, 10, 11, 12, 13, 14, 15, 16, 17, 27, 28, 29, 30, 31, 32, 33, 34, 35, 36, 37, 38, 39, 40, 41, 42, 43] (by decide +kernel) (by decide +kernel)
set_option maxRecDepth 20000 in
theorem gX8_opens_X8_fail : GoodIn wsX8_opens (wsV RX8 54 RX8 yX8_fail wsX8_fail) := goodIn_app (goodIn_of _ (by decide +kernel)) ggX8_opens_X8_fail
set_option maxRecDepth 20000 in
theorem ggX8_opens_X8_step : GoodIn wsX8_opens wsX8_step := goodIn_r _ [21, 9, 8, 1, 22, 23, 24, 14, 25, 16, 26, 27, 28, 29, 30, 31, 32, 33, 34, 35, 36, 37, 38, 39, 40, 41, 42, 43] (by decide +kernel) (by decide +kernel)
set_option maxRecDepth 20000 in
theorem gX8_opens_X8_step : GoodIn wsX8_opens (wsV RX8 88 RX8 yX8_step wsX8_step) := goodIn_app (goodIn_of _ (by decide +kernel)) ggX8_opens_X8_step
theorem dX8_opens_0 : decode cX8_opens 0 = .ok (.aload_n 0, 1) := by decide +kernel
theorem dX8_opens_1 : decode cX8_opens 1 = .ok (.getfield 47, 3) := by decide +kernel
theorem dX8_opens_4 : decode cX8_opens 4 = .ok (.iload_n 1, 1) := by decide +kernel
theorem dX8_opens_5 : decode cX8_opens 5 = .ok (.if_icmp .eq 9, 3) := by decide +kernel
theorem dX8_opens_8 : decode cX8_opens 8 = .ok (.aload_n 0, 1) := by decide +kernel
theorem dX8_opens_9 : decode cX8_opens 9 = .ok (.iconst 1, 1) := by decide +kernel
theorem dX8_opens_10 : decode cX8_opens 10 = .ok (.invokevirtual 54, 3) := by decide +kernel
theorem dX8_opens_13 : decode cX8_opens 13 = .ok (.ireturn, 1) := by decide +kernel
theorem dX8_opens_14 : decode cX8_opens 14 = .ok (.iload_n 2, 1) := by decide +kernel
theorem dX8_opens_15 : decode cX8_opens 15 = .ok (.bipush 8, 2) := by decide +kernel
theorem dX8_opens_17 : decode cX8_opens 17 = .ok (.if_icmp .lt 9, 3) := by decide +kernel
theorem dX8_opens_20 : decode cX8_opens 20 = .ok (.aload_n 0, 1) := by decide +kernel
theorem dX8_opens_21 : decode cX8_opens 21 = .ok (.iconst 5, 1) := by decide +kernel
theorem dX8_opens_22 : decode cX8_opens 22 = .ok (.invokevirtual 54, 3) := by decide +kernel
theorem dX8_opens_25 : decode cX8_opens 25 = .ok (.ireturn, 1) := by decide +kernel
theorem dX8_opens_26 : decode cX8_opens 26 = .ok (.aload_n 0, 1) := by decide +kernel
theorem dX8_opens_27 : decode cX8_opens 27 = .ok (.invokevirtual 88, 3) := by decide +kernel
theorem dX8_opens_30 : decode cX8_opens 30 = .ok (.iconst 1, 1) := by decide +kernel
theorem dX8_opens_31 : decode cX8_opens 31 = .ok (.ireturn, 1) := by decide +kernel
set_option maxRecDepth 20000 in
theorem ggX8_skip_X8_fail : GoodIn wsX8_skip wsX8_fail := goodIn_r _ [6, 7, 8, 9, 10, 11, 12, 13, 14, 15, 16, 17, 27, 28, 29, 30, 31, 32, 33, 34, 35, 36, 37, 38, 39, 40, 41, 42, 43] (by decide +kernel) (by decide +kernel)
set_option maxRecDepth 20000 in
theorem gX8_skip_X8_fail : GoodIn wsX8_skip (wsV RX8 54 RX8 yX8_fail wsX8_fail) := goodIn_app (goodIn_of _ (by decide +kernel)) ggX8_skip_X8_fail
set_option maxRecDepth 20000 in
theorem ggX8_skip_X8_step : GoodIn wsX8_skip wsX8_step := goodIn_r _ [21, 9, 8, 1, 22, 23, 24, 14, 25, 16, 26, 27, 28, 29, 30, 31, 32, 33, 34, 35, 36, 37, 38, 39, 40, 41, 42, 43] (by decide +kernel) (by decide +kernel)
set_option maxRecDepth 20000 in
theorem gX8_skip_X8_step : GoodIn wsX8_skip (wsV RX8 88 RX8 yX8_step wsX8_step) := goodIn_app (goodIn_of _ (by decide +kernel)) ggX8_skip_X8_step
theorem dX8_skip_0 : decode cX8_skip 0 = .ok (.aload_n 0, 1) := by decide +kernel
theorem dX8_skip_1 : decode cX8_skip 1 = .ok (.getfield 47, 3) := by decide +kernel
theorem dX8_skip_4 : decode cX8_skip 4 = .ok (.iload_n 1, 1) := by decide +kernel
theorem dX8_skip_5 : decode cX8_skip 5 = .ok (.if_icmp .eq 9, 3) := by decide +kernel
theorem dX8_skip_8 : decode cX8_skip 8 = .ok (.aload_n 0, 1) := by decide +kernel
theorem dX8_skip_9 : decode cX8_skip 9 = .ok (.iconst 1, 1) := by decide +kernel
theorem dX8_skip_10 : decode cX8_skip 10 = .ok (.invokevirtual 54, 3) := by decide +kernel
theorem dX8_skip_13 : decode cX8_skip 13 = .ok (.ireturn, 1) := by decide +kernel
theorem dX8_skip_14 : decode cX8_skip 14 = .ok (.aload_n 0, 1) := by decide +kernel
theorem dX8_skip_15 : decode cX8_skip 15 = .ok (.invokevirtual 88, 3) := by decide +kernel
theorem dX8_skip_18 : decode cX8_skip 18 = .ok (.iconst 1, 1) := by decide +kernel
theorem dX8_skip_19 : decode cX8_skip 19 = .ok (.ireturn, 1) := by decide +kernel
set_option maxRecDepth 20000 in
theorem ggX8_step_X9_kindAt : GoodIn wsX8_step wsX9_kindAt := goodIn_r _ [8, 9, 10, 19, 20, 21, 22, 23, 24, 25, 26, 27] (by decide +kernel) (by decide +kernel)
set_option maxRecDepth 20000 in
theorem gX8_step_X9_kindAt : GoodIn wsX8_step (wsV RX8 43 RX9 yX9_kindAt wsX9_kindAt) := goodIn_app (goodIn_of _ (by decide +kernel)) ggX8_step_X9_kindAt
theorem dX8_step_0 : decode cX8_step 0 = .ok (.aload_n 0, 1) := by decide +kernel
theorem dX8_step_1 : decode cX8_step 1 = .ok (.dup, 1) := by decide +kernel
theorem dX8_step_2 : decode cX8_step 2 = .ok (.getfield 40, 3) := by decide +kernel
theorem dX8_step_5 : decode cX8_step 5 = .ok (.iconst 1, 1) := by decide +kernel
theorem dX8_step_6 : decode cX8_step 6 = .ok (.iadd, 1) := by decide +kernel
theorem dX8_step_7 : decode cX8_step 7 = .ok (.putfield 40, 3) := by decide +kernel
theorem dX8_step_10 : decode cX8_step 10 = .ok (.aload_n 0, 1) := by decide +kernel
theorem dX8_step_11 : decode cX8_step 11 = .ok (.aload_n 0, 1) := by decide +kernel
theorem dX8_step_12 : decode cX8_step 12 = .ok (.getfield 27, 3) := by decide +kernel
theorem dX8_step_15 : decode cX8_step 15 = .ok (.aload_n 0, 1) := by decide +kernel
theorem dX8_step_16 : decode cX8_step 16 = .ok (.getfield 40, 3) := by decide +kernel
theorem dX8_step_19 : decode cX8_step 19 = .ok (.invokevirtual 43, 3) := by decide +kernel
theorem dX8_step_22 : decode cX8_step 22 = .ok (.putfield 47, 3) := by decide +kernel
theorem dX8_step_25 : decode cX8_step 25 = .ok (.return_, 1) := by decide +kernel
set_option maxRecDepth 20000 in
theorem ggX8_fail_X9_startAt : GoodIn wsX8_fail wsX9_startAt := goodIn_r _ [9, 10, 11, 20, 21, 22, 23, 24, 25, 26, 27, 28] (by decide +kernel) (by decide +kernel)
set_option maxRecDepth 20000 in
theorem gX8_fail_X9_startAt : GoodIn wsX8_fail (wsV RX8 171 RX9 yX9_startAt wsX9_startAt) := goodIn_app (goodIn_of _ (by decide +kernel)) ggX8_fail_X9_startAt
theorem dX8_fail_0 : decode cX8_fail 0 = .ok (.aload_n 0, 1) := by decide +kernel
theorem dX8_fail_1 : decode cX8_fail 1 = .ok (.iload_n 1, 1) := by decide +kernel
theorem dX8_fail_2 : decode cX8_fail 2 = .ok (.putfield 34, 3) := by decide +kernel
theorem dX8_fail_5 : decode cX8_fail 5 = .ok (.aload_n 0, 1) := by decide +kernel
theorem dX8_fail_6 : decode cX8_fail 6 = .ok (.aload_n 0, 1) := by decide +kernel
theorem dX8_fail_7 : decode cX8_fail 7 = .ok (.getfield 27, 3) := by decide +kernel
theorem dX8_fail_10 : decode cX8_fail 10 = .ok (.aload_n 0, 1) := by decide +kernel
theorem dX8_fail_11 : decode cX8_fail 11 = .ok (.getfield 40, 3) := by decide +kernel
theorem dX8_fail_14 : decode cX8_fail 14 = .ok (.invokevirtual 171, 3) := by decide +kernel
theorem dX8_fail_17 : decode cX8_fail 17 = .ok (.putfield 18, 3) := by decide +kernel
theorem dX8_fail_20 : decode cX8_fail 20 = .ok (.iconst 0, 1) := by decide +kernel
theorem dX8_fail_21 : decode cX8_fail 21 = .ok (.ireturn, 1) := by decide +kernel
theorem dX9_init_0 : decode cX9_init 0 = .ok (.aload_n 0, 1) := by decide +kernel
theorem dX9_init_1 : decode cX9_init 1 = .ok (.invokespecial 3, 3) := by decide +kernel
theorem dX9_init_4 : decode cX9_init 4 = .ok (.aload_n 0, 1) := by decide +kernel
theorem dX9_init_5 : decode cX9_init 5 = .ok (.sipush 901, 3) := by decide +kernel
theorem dX9_init_8 : decode cX9_init 8 = .ok (.newarray .int, 2) := by decide +kernel
theorem dX9_init_10 : decode cX9_init 10 = .ok (.putfield 9, 3) := by decide +kernel
theorem dX9_init_13 : decode cX9_init 13 = .ok (.aload_n 0, 1) := by decide +kernel
theorem dX9_init_14 : decode cX9_init 14 = .ok (.sipush 901, 3) := by decide +kernel
theorem dX9_init_17 : decode cX9_init 17 = .ok (.newarray .int, 2) := by decide +kernel
theorem dX9_init_19 : decode cX9_init 19 = .ok (.putfield 15, 3) := by decide +kernel
theorem dX9_init_22 : decode cX9_init 22 = .ok (.aload_n 0, 1) := by decide +kernel
theorem dX9_init_23 : decode cX9_init 23 = .ok (.sipush 901, 3) := by decide +kernel
theorem dX9_init_26 : decode cX9_init 26 = .ok (.newarray .int, 2) := by decide +kernel
theorem dX9_init_28 : decode cX9_init 28 = .ok (.putfield 18, 3) := by decide +kernel
theorem dX9_init_31 : decode cX9_init 31 = .ok (.aload_n 0, 1) := by decide +kernel
theorem dX9_init_32 : decode cX9_init 32 = .ok (.aload_n 1, 1) := by decide +kernel
theorem dX9_init_33 : decode cX9_init 33 = .ok (.putfield 21, 3) := by decide +kernel
theorem dX9_init_36 : decode cX9_init 36 = .ok (.return_, 1) := by decide +kernel
set_option maxRecDepth 20000 in
theorem ggX9_scan_X9_takeNext : GoodIn wsX9_scan wsX9_takeNext := goodIn_r _ [13, 2, 3, 6, 14, 15, 16, 12, 17, 18, 19, 20, 21, 22, 23, 24, 25, 26, 27, 28, 29, 30, 31, 32, 33, 34, 35, 36, 37, 38, 39, 40, 41, 8, 42, 43, 44, 45, 46, 47, 48, 49, 50, 51, 52, 53, 54, 55, 56, 57, 58, 59, 60, 61, 62, 63, 64, 65, 66, 67, 68, 69, 70, 71, 72, 73, 74, 75, 76, 77, 78, 79, 80, 81, 82, 83, 84, 85, 86, 87, 88, 89, 90, 91, 92, 93, 94, 95, 96, 97, 98, 99, 100, 101, 102, 103, 104, 105, 106, 107, 108, 109, 110, 111, 112, 113, 114, 115] rfl (by decide +kernel)
set_option maxRecDepth 20000 in
theorem gX9_scan_X9_takeNext : GoodIn wsX9_scan (wsV RX9 35 RX9 yX9_takeNext wsX9_takeNext) := goodIn_app (goodIn_of _ (by decide +kernel)) ggX9_scan_X9_takeNext
theorem dX9_scan_0 : decode cX9_scan 0 = .ok (.aload_n 0, 1) := by decide +kernel
theorem dX9_scan_1 : decode cX9_scan 1 = .ok (.iconst 0, 1) := by decide +kernel
theorem dX9_scan_2 : decode cX9_scan 2 = .ok (.putfield 25, 3) := by decide +kernel
theorem dX9_scan_5 : decode cX9_scan 5 = .ok (.aload_n 0, 1) := by decide +kernel
theorem dX9_scan_6 : decode cX9_scan 6 = .ok (.iconst (-1), 1) := by decide +kernel
theorem dX9_scan_7 : decode cX9_scan 7 = .ok (.putfield 29, 3) := by decide +kernel
theorem dX9_scan_10 : decode cX9_scan 10 = .ok (.aload_n 0, 1) := by decide +kernel
theorem dX9_scan_11 : decode cX9_scan 11 = .ok (.iconst 0, 1) := by decide +kernel
theorem dX9_scan_12 : decode cX9_scan 12 = .ok (.putfield 32, 3) := by decide +kernel
theorem dX9_scan_15 : decode cX9_scan 15 = .ok (.iconst 0, 1) := by decide +kernel
theorem dX9_scan_16 : decode cX9_scan 16 = .ok (.istore_n 1, 1) := by decide +kernel
theorem dX9_scan_17 : decode cX9_scan 17 = .ok (.iload_n 1, 1) := by decide +kernel
theorem dX9_scan_18 : decode cX9_scan 18 = .ok (.sipush 900, 3) := by decide +kernel
theorem dX9_scan_21 : decode cX9_scan 21 = .ok (.if_icmp .gt 60, 3) := by decide +kernel
theorem dX9_scan_24 : decode cX9_scan 24 = .ok (.aload_n 0, 1) := by decide +kernel
theorem dX9_scan_25 : decode cX9_scan 25 = .ok (.invokevirtual 35, 3) := by decide +kernel
theorem dX9_scan_28 : decode cX9_scan 28 = .ok (.aload_n 0, 1) := by decide +kernel
theorem dX9_scan_29 : decode cX9_scan 29 = .ok (.getfield 9, 3) := by decide +kernel
theorem dX9_scan_32 : decode cX9_scan 32 = .ok (.iload_n 1, 1) := by decide +kernel
theorem dX9_scan_33 : decode cX9_scan 33 = .ok (.aload_n 0, 1) := by decide +kernel
theorem dX9_scan_34 : decode cX9_scan 34 = .ok (.getfield 29, 3) := by decide +kernel
theorem dX9_scan_37 : decode cX9_scan 37 = .ok (.iastore, 1) := by decide +kernel
theorem dX9_scan_38 : decode cX9_scan 38 = .ok (.aload_n 0, 1) := by decide +kernel
theorem dX9_scan_39 : decode cX9_scan 39 = .ok (.getfield 15, 3) := by decide +kernel
theorem dX9_scan_42 : decode cX9_scan 42 = .ok (.iload_n 1, 1) := by decide +kernel
theorem dX9_scan_43 : decode cX9_scan 43 = .ok (.aload_n 0, 1) := by decide +kernel
theorem dX9_scan_44 : decode cX9_scan 44 = .ok (.getfield 38, 3) := by decide +kernel
theorem dX9_scan_47 : decode cX9_scan 47 = .ok (.iastore, 1) := by decide +kernel
theorem dX9_scan_48 : decode cX9_scan 48 = .ok (.aload_n 0, 1) := by decide +kernel
theorem dX9_scan_49 : decode cX9_scan 49 = .ok (.getfield 18, 3) := by decide +kernel
theorem dX9_scan_52 : decode cX9_scan 52 = .ok (.iload_n 1, 1) := by decide +kernel
theorem dX9_scan_53 : decode cX9_scan 53 = .ok (.aload_n 0, 1) := by decide +kernel
theorem dX9_scan_54 : decode cX9_scan 54 = .ok (.getfield 41, 3) := by decide +kernel
theorem dX9_scan_57 : decode cX9_scan 57 = .ok (.iastore, 1) := by decide +kernel
theorem dX9_scan_58 : decode cX9_scan 58 = .ok (.aload_n 0, 1) := by decide +kernel
theorem dX9_scan_59 : decode cX9_scan 59 = .ok (.iload_n 1, 1) := by decide +kernel
theorem dX9_scan_60 : decode cX9_scan 60 = .ok (.iconst 1, 1) := by decide +kernel
theorem dX9_scan_61 : decode cX9_scan 61 = .ok (.iadd, 1) := by decide +kernel
theorem dX9_scan_62 : decode cX9_scan 62 = .ok (.putfield 25, 3) := by decide +kernel
theorem dX9_scan_65 : decode cX9_scan 65 = .ok (.aload_n 0, 1) := by decide +kernel
theorem dX9_scan_66 : decode cX9_scan 66 = .ok (.getfield 29, 3) := by decide +kernel
theorem dX9_scan_69 : decode cX9_scan 69 = .ok (.ifCond .ge 6, 3) := by decide +kernel
theorem dX9_scan_72 : decode cX9_scan 72 = .ok (.goto 9, 3) := by decide +kernel
theorem dX9_scan_75 : decode cX9_scan 75 = .ok (.iinc 1 1, 3) := by decide +kernel
theorem dX9_scan_78 : decode cX9_scan 78 = .ok (.goto (-61), 3) := by decide +kernel
theorem dX9_scan_81 : decode cX9_scan 81 = .ok (.return_, 1) := by decide +kernel
theorem dX9_kindAt_0 : decode cX9_kindAt 0 = .ok (.iload_n 1, 1) := by decide +kernel
theorem dX9_kindAt_1 : decode cX9_kindAt 1 = .ok (.ifCond .lt 20, 3) := by decide +kernel
theorem dX9_kindAt_4 : decode cX9_kindAt 4 = .ok (.iload_n 1, 1) := by decide +kernel
theorem dX9_kindAt_5 : decode cX9_kindAt 5 = .ok (.aload_n 0, 1) := by decide +kernel
theorem dX9_kindAt_6 : decode cX9_kindAt 6 = .ok (.getfield 25, 3) := by decide +kernel
theorem dX9_kindAt_9 : decode cX9_kindAt 9 = .ok (.if_icmp .ge 12, 3) := by decide +kernel
theorem dX9_kindAt_12 : decode cX9_kindAt 12 = .ok (.aload_n 0, 1) := by decide +kernel
theorem dX9_kindAt_13 : decode cX9_kindAt 13 = .ok (.getfield 9, 3) := by decide +kernel
theorem dX9_kindAt_16 : decode cX9_kindAt 16 = .ok (.iload_n 1, 1) := by decide +kernel
theorem dX9_kindAt_17 : decode cX9_kindAt 17 = .ok (.iaload, 1) := by decide +kernel
theorem dX9_kindAt_18 : decode cX9_kindAt 18 = .ok (.goto 4, 3) := by decide +kernel
theorem dX9_kindAt_21 : decode cX9_kindAt 21 = .ok (.iconst (-1), 1) := by decide +kernel
theorem dX9_kindAt_22 : decode cX9_kindAt 22 = .ok (.ireturn, 1) := by decide +kernel
theorem dX9_startAt_0 : decode cX9_startAt 0 = .ok (.iload_n 1, 1) := by decide +kernel
theorem dX9_startAt_1 : decode cX9_startAt 1 = .ok (.ifCond .lt 20, 3) := by decide +kernel
theorem dX9_startAt_4 : decode cX9_startAt 4 = .ok (.iload_n 1, 1) := by decide +kernel
theorem dX9_startAt_5 : decode cX9_startAt 5 = .ok (.aload_n 0, 1) := by decide +kernel
theorem dX9_startAt_6 : decode cX9_startAt 6 = .ok (.getfield 25, 3) := by decide +kernel
theorem dX9_startAt_9 : decode cX9_startAt 9 = .ok (.if_icmp .ge 12, 3) := by decide +kernel
theorem dX9_startAt_12 : decode cX9_startAt 12 = .ok (.aload_n 0, 1) := by decide +kernel
theorem dX9_startAt_13 : decode cX9_startAt 13 = .ok (.getfield 15, 3) := by decide +kernel
theorem dX9_startAt_16 : decode cX9_startAt 16 = .ok (.iload_n 1, 1) := by decide +kernel
theorem dX9_startAt_17 : decode cX9_startAt 17 = .ok (.iaload, 1) := by decide +kernel
theorem dX9_startAt_18 : decode cX9_startAt 18 = .ok (.goto 4, 3) := by decide +kernel
theorem dX9_startAt_21 : decode cX9_startAt 21 = .ok (.iconst (-1), 1) := by decide +kernel
theorem dX9_startAt_22 : decode cX9_startAt 22 = .ok (.ireturn, 1) := by decide +kernel
theorem dX9_valueAt_0 : decode cX9_valueAt 0 = .ok (.iload_n 1, 1) := by decide +kernel
theorem dX9_valueAt_1 : decode cX9_valueAt 1 = .ok (.ifCond .lt 20, 3) := by decide +kernel
theorem dX9_valueAt_4 : decode cX9_valueAt 4 = .ok (.iload_n 1, 1) := by decide +kernel
theorem dX9_valueAt_5 : decode cX9_valueAt 5 = .ok (.aload_n 0, 1) := by decide +kernel
theorem dX9_valueAt_6 : decode cX9_valueAt 6 = .ok (.getfield 25, 3) := by decide +kernel
theorem dX9_valueAt_9 : decode cX9_valueAt 9 = .ok (.if_icmp .ge 12, 3) := by decide +kernel
theorem dX9_valueAt_12 : decode cX9_valueAt 12 = .ok (.aload_n 0, 1) := by decide +kernel
theorem dX9_valueAt_13 : decode cX9_valueAt 13 = .ok (.getfield 18, 3) := by decide +kernel
theorem dX9_valueAt_16 : decode cX9_valueAt 16 = .ok (.iload_n 1, 1) := by decide +kernel
theorem dX9_valueAt_17 : decode cX9_valueAt 17 = .ok (.iaload, 1) := by decide +kernel
theorem dX9_valueAt_18 : decode cX9_valueAt 18 = .ok (.goto 4, 3) := by decide +kernel
theorem dX9_valueAt_21 : decode cX9_valueAt 21 = .ok (.iconst 0, 1) := by decide +kernel
theorem dX9_valueAt_22 : decode cX9_valueAt 22 = .ok (.ireturn, 1) := by decide +kernel
set_option maxRecDepth 20000 in
theorem ggX9_takeNext_X9_isLong : GoodIn wsX9_takeNext wsX9_isLong := goodIn_r _ [8] (by decide +kernel) (by decide +kernel)
set_option maxRecDepth 20000 in
theorem gX9_takeNext_X9_isLong : GoodIn wsX9_takeNext (va_wsS RX9 44 yX9_isLong wsX9_isLong) := goodIn_app (goodIn_of _ (by decide +kernel)) ggX9_takeNext_X9_isLong
set_option maxRecDepth 20000 in
theorem ggX9_takeNext_X2_size : GoodIn wsX9_takeNext wsX2_size := goodIn_r _ [13, 14, 106, 107] (by decide +kernel) (by decide +kernel)
set_option maxRecDepth 20000 in
theorem gX9_takeNext_X2_size : GoodIn wsX9_takeNext (wsV RX9 48 RX2 yX2_size wsX2_size) := goodIn_app (goodIn_of _ (by decide +kernel)) ggX9_takeNext_X2_size
set_option maxRecDepth 20000 in
theorem ggX9_takeNext_X2_at : GoodIn wsX9_takeNext wsX2_at := goodIn_r _ [18, 14, 19, 106, 107] (by decide +kernel) (by decide +kernel)
set_option maxRecDepth 20000 in
theorem gX9_takeNext_X2_at : GoodIn wsX9_takeNext (wsV RX9 54 RX2 yX2_at wsX2_at) := goodIn_app (goodIn_of _ (by decide +kernel)) ggX9_takeNext_X2_at
set_option maxRecDepth 20000 in
theorem ggX9_takeNext_X9_isBlank : GoodIn wsX9_takeNext wsX9_isBlank := goodIn_r _ [22] (by decide +kernel) (by decide +kernel)
set_option maxRecDepth 20000 in
theorem gX9_takeNext_X9_isBlank : GoodIn wsX9_takeNext (va_wsS RX9 58 yX9_isBlank wsX9_isBlank) := goodIn_app (goodIn_of _ (by decide +kernel)) ggX9_takeNext_X9_isBlank
set_option maxRecDepth 20000 in
theorem ggX9_takeNext_X9_isLetter : GoodIn wsX9_takeNext wsX9_isLetter := goodIn_r _ [25] (by decide +kernel) (by decide +kernel)
set_option maxRecDepth 20000 in
theorem gX9_takeNext_X9_isLetter : GoodIn wsX9_takeNext (va_wsS RX9 61 yX9_isLetter wsX9_isLetter) := goodIn_app (goodIn_of _ (by decide +kernel)) ggX9_takeNext_X9_isLetter
set_option maxRecDepth 20000 in
theorem ggX9_takeNext_X9_isDigit : GoodIn wsX9_takeNext wsX9_isDigit := goodIn_r _ [28] (by decide +kernel) (by decide +kernel)
set_option maxRecDepth 20000 in
theorem gX9_takeNext_X9_isDigit : GoodIn wsX9_takeNext (va_wsS RX9 64 yX9_isDigit wsX9_isDigit) := goodIn_app (goodIn_of _ (by decide +kernel)) ggX9_takeNext_X9_isDigit
set_option maxRecDepth 20000 in
theorem ggX9_takeNext_X9_takeWord : GoodIn wsX9_takeNext wsX9_takeWord := goodIn_r _ [32, 33, 3, 2, 4, 1, 15, 16, 17, 12, 18, 14, 19, 23, 24, 7, 25, 34, 35, 36, 37, 38, 39, 40, 41, 42, 43, 44, 45, 46, 47, 48, 49, 50, 51, 52, 53, 54, 55, 56, 57, 58, 59, 60, 61, 62, 63, 64, 65, 66, 67, 68, 69, 70, 71, 72, 73, 74, 75, 76, 77, 78, 79, 80, 81, 82, 83, 84, 85, 86, 87, 88, 89, 90, 91, 92, 97, 98, 99, 100, 101, 102, 103, 104, 105, 106, 107] rfl (by decide +kernel)
set_option maxRecDepth 20000 in
theorem gX9_takeNext_X9_takeWord : GoodIn wsX9_takeNext (wsV RX9 67 RX9 yX9_takeWord wsX9_takeWord) := goodIn_app (goodIn_of _ (by decide +kernel)) ggX9_takeNext_X9_takeWord
set_option maxRecDepth 20000 in
theorem ggX9_takeNext_X9_takeNumber : GoodIn wsX9_takeNext wsX9_takeNumber := goodIn_r _ [96, 33, 3, 2, 4, 1, 15, 16, 17, 12, 18, 14, 19, 26, 27, 7, 28, 89, 90, 91, 92, 97, 98, 99, 100, 101, 102, 103, 104, 105, 106, 107] (by decide +kernel) (by decide +kernel)
set_option maxRecDepth 20000 in
theorem gX9_takeNext_X9_takeNumber : GoodIn wsX9_takeNext (wsV RX9 70 RX9 yX9_takeNumber wsX9_takeNumber) := goodIn_app (goodIn_of _ (by decide +kernel)) ggX9_takeNext_X9_takeNumber
theorem dX9_takeNext_0 : decode cX9_takeNext 0 = .ok (.aload_n 0, 1) := by decide +kernel
theorem dX9_takeNext_1 : decode cX9_takeNext 1 = .ok (.getfield 29, 3) := by decide +kernel
theorem dX9_takeNext_4 : decode cX9_takeNext 4 = .ok (.invokestatic 44, 3) := by decide +kernel
theorem dX9_takeNext_7 : decode cX9_takeNext 7 = .ok (.istore_n 1, 1) := by decide +kernel
theorem dX9_takeNext_8 : decode cX9_takeNext 8 = .ok (.aload_n 0, 1) := by decide +kernel
theorem dX9_takeNext_9 : decode cX9_takeNext 9 = .ok (.getfield 32, 3) := by decide +kernel
theorem dX9_takeNext_12 : decode cX9_takeNext 12 = .ok (.istore_n 2, 1) := by decide +kernel
theorem dX9_takeNext_13 : decode cX9_takeNext 13 = .ok (.aload_n 0, 1) := by decide +kernel
theorem dX9_takeNext_14 : decode cX9_takeNext 14 = .ok (.aload_n 0, 1) := by decide +kernel
theorem dX9_takeNext_15 : decode cX9_takeNext 15 = .ok (.getfield 32, 3) := by decide +kernel
theorem dX9_takeNext_18 : decode cX9_takeNext 18 = .ok (.putfield 38, 3) := by decide +kernel
theorem dX9_takeNext_21 : decode cX9_takeNext 21 = .ok (.aload_n 0, 1) := by decide +kernel
theorem dX9_takeNext_22 : decode cX9_takeNext 22 = .ok (.getfield 38, 3) := by decide +kernel
theorem dX9_takeNext_25 : decode cX9_takeNext 25 = .ok (.aload_n 0, 1) := by decide +kernel
theorem dX9_takeNext_26 : decode cX9_takeNext 26 = .ok (.getfield 21, 3) := by decide +kernel
theorem dX9_takeNext_29 : decode cX9_takeNext 29 = .ok (.invokevirtual 48, 3) := by decide +kernel
theorem dX9_takeNext_32 : decode cX9_takeNext 32 = .ok (.if_icmp .ge 33, 3) := by decide +kernel
theorem dX9_takeNext_35 : decode cX9_takeNext 35 = .ok (.aload_n 0, 1) := by decide +kernel
theorem dX9_takeNext_36 : decode cX9_takeNext 36 = .ok (.getfield 21, 3) := by decide +kernel
theorem dX9_takeNext_39 : decode cX9_takeNext 39 = .ok (.aload_n 0, 1) := by decide +kernel
theorem dX9_takeNext_40 : decode cX9_takeNext 40 = .ok (.getfield 38, 3) := by decide +kernel
theorem dX9_takeNext_43 : decode cX9_takeNext 43 = .ok (.invokevirtual 54, 3) := by decide +kernel
theorem dX9_takeNext_46 : decode cX9_takeNext 46 = .ok (.invokestatic 58, 3) := by decide +kernel
theorem dX9_takeNext_49 : decode cX9_takeNext 49 = .ok (.ifCond .eq 16, 3) := by decide +kernel
theorem dX9_takeNext_52 : decode cX9_takeNext 52 = .ok (.aload_n 0, 1) := by decide +kernel
theorem dX9_takeNext_53 : decode cX9_takeNext 53 = .ok (.dup, 1) := by decide +kernel
theorem dX9_takeNext_54 : decode cX9_takeNext 54 = .ok (.getfield 38, 3) := by decide +kernel
theorem dX9_takeNext_57 : decode cX9_takeNext 57 = .ok (.iconst 1, 1) := by decide +kernel
theorem dX9_takeNext_58 : decode cX9_takeNext 58 = .ok (.iadd, 1) := by decide +kernel
theorem dX9_takeNext_59 : decode cX9_takeNext 59 = .ok (.putfield 38, 3) := by decide +kernel
theorem dX9_takeNext_62 : decode cX9_takeNext 62 = .ok (.goto (-41), 3) := by decide +kernel
theorem dX9_takeNext_65 : decode cX9_takeNext 65 = .ok (.aload_n 0, 1) := by decide +kernel
theorem dX9_takeNext_66 : decode cX9_takeNext 66 = .ok (.getfield 21, 3) := by decide +kernel
theorem dX9_takeNext_69 : decode cX9_takeNext 69 = .ok (.aload_n 0, 1) := by decide +kernel
theorem dX9_takeNext_70 : decode cX9_takeNext 70 = .ok (.getfield 38, 3) := by decide +kernel
theorem dX9_takeNext_73 : decode cX9_takeNext 73 = .ok (.invokevirtual 54, 3) := by decide +kernel
theorem dX9_takeNext_76 : decode cX9_takeNext 76 = .ok (.istore_n 3, 1) := by decide +kernel
theorem dX9_takeNext_77 : decode cX9_takeNext 77 = .ok (.iload_n 3, 1) := by decide +kernel
theorem dX9_takeNext_78 : decode cX9_takeNext 78 = .ok (.invokestatic 61, 3) := by decide +kernel
theorem dX9_takeNext_81 : decode cX9_takeNext 81 = .ok (.ifCond .ne 10, 3) := by decide +kernel
theorem dX9_takeNext_84 : decode cX9_takeNext 84 = .ok (.iload_n 3, 1) := by decide +kernel
theorem dX9_takeNext_85 : decode cX9_takeNext 85 = .ok (.invokestatic 64, 3) := by decide +kernel
theorem dX9_takeNext_88 : decode cX9_takeNext 88 = .ok (.ifCond .eq 7, 3) := by decide +kernel
theorem dX9_takeNext_91 : decode cX9_takeNext 91 = .ok (.iconst 1, 1) := by decide +kernel
theorem dX9_takeNext_92 : decode cX9_takeNext 92 = .ok (.goto 4, 3) := by decide +kernel
theorem dX9_takeNext_95 : decode cX9_takeNext 95 = .ok (.iconst 0, 1) := by decide +kernel
theorem dX9_takeNext_96 : decode cX9_takeNext 96 = .ok (.istore 4, 2) := by decide +kernel
theorem dX9_takeNext_98 : decode cX9_takeNext 98 = .ok (.iload_n 3, 1) := by decide +kernel
theorem dX9_takeNext_99 : decode cX9_takeNext 99 = .ok (.iconst (-1), 1) := by decide +kernel
theorem dX9_takeNext_100 : decode cX9_takeNext 100 = .ok (.if_icmp .ne 11, 3) := by decide +kernel
theorem dX9_takeNext_103 : decode cX9_takeNext 103 = .ok (.aload_n 0, 1) := by decide +kernel
theorem dX9_takeNext_104 : decode cX9_takeNext 104 = .ok (.iconst (-1), 1) := by decide +kernel
theorem dX9_takeNext_105 : decode cX9_takeNext 105 = .ok (.putfield 29, 3) := by decide +kernel
theorem dX9_takeNext_108 : decode cX9_takeNext 108 = .ok (.goto 70, 3) := by decide +kernel
theorem dX9_takeNext_111 : decode cX9_takeNext 111 = .ok (.iload_n 1, 1) := by decide +kernel
theorem dX9_takeNext_112 : decode cX9_takeNext 112 = .ok (.ifCond .eq 25, 3) := by decide +kernel
theorem dX9_takeNext_115 : decode cX9_takeNext 115 = .ok (.iload 4, 2) := by decide +kernel
theorem dX9_takeNext_117 : decode cX9_takeNext 117 = .ok (.ifCond .eq 20, 3) := by decide +kernel
theorem dX9_takeNext_120 : decode cX9_takeNext 120 = .ok (.aload_n 0, 1) := by decide +kernel
theorem dX9_takeNext_121 : decode cX9_takeNext 121 = .ok (.getfield 38, 3) := by decide +kernel
theorem dX9_takeNext_124 : decode cX9_takeNext 124 = .ok (.iload_n 2, 1) := by decide +kernel
theorem dX9_takeNext_125 : decode cX9_takeNext 125 = .ok (.if_icmp .ne 12, 3) := by decide +kernel
theorem dX9_takeNext_128 : decode cX9_takeNext 128 = .ok (.aload_n 0, 1) := by decide +kernel
theorem dX9_takeNext_129 : decode cX9_takeNext 129 = .ok (.bipush (-2), 2) := by decide +kernel
theorem dX9_takeNext_131 : decode cX9_takeNext 131 = .ok (.putfield 29, 3) := by decide +kernel
theorem dX9_takeNext_134 : decode cX9_takeNext 134 = .ok (.goto 44, 3) := by decide +kernel
theorem dX9_takeNext_137 : decode cX9_takeNext 137 = .ok (.iload_n 3, 1) := by decide +kernel
theorem dX9_takeNext_138 : decode cX9_takeNext 138 = .ok (.invokestatic 61, 3) := by decide +kernel
theorem dX9_takeNext_141 : decode cX9_takeNext 141 = .ok (.ifCond .eq 10, 3) := by decide +kernel
theorem dX9_takeNext_144 : decode cX9_takeNext 144 = .ok (.aload_n 0, 1) := by decide +kernel
theorem dX9_takeNext_145 : decode cX9_takeNext 145 = .ok (.invokevirtual 67, 3) := by decide +kernel
theorem dX9_takeNext_148 : decode cX9_takeNext 148 = .ok (.goto 30, 3) := by decide +kernel
theorem dX9_takeNext_151 : decode cX9_takeNext 151 = .ok (.iload 4, 2) := by decide +kernel
theorem dX9_takeNext_153 : decode cX9_takeNext 153 = .ok (.ifCond .eq 10, 3) := by decide +kernel
theorem dX9_takeNext_156 : decode cX9_takeNext 156 = .ok (.aload_n 0, 1) := by decide +kernel
theorem dX9_takeNext_157 : decode cX9_takeNext 157 = .ok (.invokevirtual 70, 3) := by decide +kernel
theorem dX9_takeNext_160 : decode cX9_takeNext 160 = .ok (.goto 18, 3) := by decide +kernel
theorem dX9_takeNext_163 : decode cX9_takeNext 163 = .ok (.aload_n 0, 1) := by decide +kernel
theorem dX9_takeNext_164 : decode cX9_takeNext 164 = .ok (.iload_n 3, 1) := by decide +kernel
theorem dX9_takeNext_165 : decode cX9_takeNext 165 = .ok (.putfield 29, 3) := by decide +kernel
theorem dX9_takeNext_168 : decode cX9_takeNext 168 = .ok (.aload_n 0, 1) := by decide +kernel
theorem dX9_takeNext_169 : decode cX9_takeNext 169 = .ok (.aload_n 0, 1) := by decide +kernel
theorem dX9_takeNext_170 : decode cX9_takeNext 170 = .ok (.getfield 38, 3) := by decide +kernel
theorem dX9_takeNext_173 : decode cX9_takeNext 173 = .ok (.iconst 1, 1) := by decide +kernel
theorem dX9_takeNext_174 : decode cX9_takeNext 174 = .ok (.iadd, 1) := by decide +kernel
theorem dX9_takeNext_175 : decode cX9_takeNext 175 = .ok (.putfield 32, 3) := by decide +kernel
theorem dX9_takeNext_178 : decode cX9_takeNext 178 = .ok (.return_, 1) := by decide +kernel
set_option maxRecDepth 20000 in
theorem ggX9_takeWord_X2_at : GoodIn wsX9_takeWord wsX2_at := goodIn_r _ [10, 11, 12, 85, 86] (by decide +kernel) (by decide +kernel)
set_option maxRecDepth 20000 in
theorem gX9_takeWord_X2_at : GoodIn wsX9_takeWord (wsV RX9 54 RX2 yX2_at wsX2_at) := goodIn_app (goodIn_of _ (by decide +kernel)) ggX9_takeWord_X2_at
set_option maxRecDepth 20000 in
theorem ggX9_takeWord_X9_isLetter : GoodIn wsX9_takeWord wsX9_isLetter := goodIn_r _ [16] (by decide +kernel) (by decide +kernel)
set_option maxRecDepth 20000 in
theorem gX9_takeWord_X9_isLetter : GoodIn wsX9_takeWord (va_wsS RX9 61 yX9_isLetter wsX9_isLetter) := goodIn_app (goodIn_of _ (by decide +kernel)) ggX9_takeWord_X9_isLetter
set_option maxRecDepth 20000 in
theorem ggX9_takeWord_X9_packed : GoodIn wsX9_takeWord wsX9_packed := goodIn_r _ [19] (by decide +kernel) (by decide +kernel)
set_option maxRecDepth 20000 in
theorem gX9_takeWord_X9_packed : GoodIn wsX9_takeWord (va_wsS RX9 73 yX9_packed wsX9_packed) := goodIn_app (goodIn_of _ (by decide +kernel)) ggX9_takeWord_X9_packed
set_option maxRecDepth 20000 in
theorem ggX9_takeWord_X9_kindOfWord : GoodIn wsX9_takeWord wsX9_kindOfWord := goodIn_r _ [22, 23, 24, 25, 26, 27, 28, 29, 30, 31, 32, 33, 34, 35, 36, 37, 38, 39, 40, 41, 42, 43, 44, 45, 46, 47, 48, 49, 50, 51, 52, 53, 54, 55, 56, 57, 58, 59, 60, 61, 62, 63, 64, 65, 66, 67, 68, 69, 70, 71, 17, 18, 15, 19] (by decide +kernel) (by decide +kernel)
set_option maxRecDepth 20000 in
theorem gX9_takeWord_X9_kindOfWord : GoodIn wsX9_takeWord (va_wsS RX9 77 yX9_kindOfWord wsX9_kindOfWord) := goodIn_app (goodIn_of _ (by decide +kernel)) ggX9_takeWord_X9_kindOfWord
set_option maxRecDepth 20000 in
theorem ggX9_takeWord_X9_misfitIf : GoodIn wsX9_takeWord wsX9_misfitIf := goodIn_r _ [75, 5, 3, 2, 76, 77, 78, 79, 80, 81, 82, 83, 84] (by decide +kernel) (by decide +kernel)
set_option maxRecDepth 20000 in
theorem gX9_takeWord_X9_misfitIf : GoodIn wsX9_takeWord (wsV RX9 80 RX9 yX9_misfitIf wsX9_misfitIf) := goodIn_app (goodIn_of _ (by decide +kernel)) ggX9_takeWord_X9_misfitIf
theorem dX9_takeWord_0 : decode cX9_takeWord 0 = .ok (.aload_n 0, 1) := by decide +kernel
theorem dX9_takeWord_1 : decode cX9_takeWord 1 = .ok (.iconst 0, 1) := by decide +kernel
theorem dX9_takeWord_2 : decode cX9_takeWord 2 = .ok (.putfield 41, 3) := by decide +kernel
theorem dX9_takeWord_5 : decode cX9_takeWord 5 = .ok (.aload_n 0, 1) := by decide +kernel
theorem dX9_takeWord_6 : decode cX9_takeWord 6 = .ok (.aload_n 0, 1) := by decide +kernel
theorem dX9_takeWord_7 : decode cX9_takeWord 7 = .ok (.getfield 38, 3) := by decide +kernel
theorem dX9_takeWord_10 : decode cX9_takeWord 10 = .ok (.putfield 32, 3) := by decide +kernel
theorem dX9_takeWord_13 : decode cX9_takeWord 13 = .ok (.iconst 0, 1) := by decide +kernel
theorem dX9_takeWord_14 : decode cX9_takeWord 14 = .ok (.istore_n 1, 1) := by decide +kernel
theorem dX9_takeWord_15 : decode cX9_takeWord 15 = .ok (.iload_n 1, 1) := by decide +kernel
theorem dX9_takeWord_16 : decode cX9_takeWord 16 = .ok (.bipush 6, 2) := by decide +kernel
theorem dX9_takeWord_18 : decode cX9_takeWord 18 = .ok (.if_icmp .ge 58, 3) := by decide +kernel
theorem dX9_takeWord_21 : decode cX9_takeWord 21 = .ok (.aload_n 0, 1) := by decide +kernel
theorem dX9_takeWord_22 : decode cX9_takeWord 22 = .ok (.getfield 21, 3) := by decide +kernel
theorem dX9_takeWord_25 : decode cX9_takeWord 25 = .ok (.aload_n 0, 1) := by decide +kernel
theorem dX9_takeWord_26 : decode cX9_takeWord 26 = .ok (.getfield 32, 3) := by decide +kernel
theorem dX9_takeWord_29 : decode cX9_takeWord 29 = .ok (.invokevirtual 54, 3) := by decide +kernel
theorem dX9_takeWord_32 : decode cX9_takeWord 32 = .ok (.invokestatic 61, 3) := by decide +kernel
theorem dX9_takeWord_35 : decode cX9_takeWord 35 = .ok (.ifCond .eq 41, 3) := by decide +kernel
theorem dX9_takeWord_38 : decode cX9_takeWord 38 = .ok (.aload_n 0, 1) := by decide +kernel
theorem dX9_takeWord_39 : decode cX9_takeWord 39 = .ok (.aload_n 0, 1) := by decide +kernel
theorem dX9_takeWord_40 : decode cX9_takeWord 40 = .ok (.getfield 41, 3) := by decide +kernel
theorem dX9_takeWord_43 : decode cX9_takeWord 43 = .ok (.aload_n 0, 1) := by decide +kernel
theorem dX9_takeWord_44 : decode cX9_takeWord 44 = .ok (.getfield 21, 3) := by decide +kernel
theorem dX9_takeWord_47 : decode cX9_takeWord 47 = .ok (.aload_n 0, 1) := by decide +kernel
theorem dX9_takeWord_48 : decode cX9_takeWord 48 = .ok (.getfield 32, 3) := by decide +kernel
theorem dX9_takeWord_51 : decode cX9_takeWord 51 = .ok (.invokevirtual 54, 3) := by decide +kernel
theorem dX9_takeWord_54 : decode cX9_takeWord 54 = .ok (.invokestatic 73, 3) := by decide +kernel
theorem dX9_takeWord_57 : decode cX9_takeWord 57 = .ok (.putfield 41, 3) := by decide +kernel
theorem dX9_takeWord_60 : decode cX9_takeWord 60 = .ok (.aload_n 0, 1) := by decide +kernel
theorem dX9_takeWord_61 : decode cX9_takeWord 61 = .ok (.dup, 1) := by decide +kernel
theorem dX9_takeWord_62 : decode cX9_takeWord 62 = .ok (.getfield 32, 3) := by decide +kernel
theorem dX9_takeWord_65 : decode cX9_takeWord 65 = .ok (.iconst 1, 1) := by decide +kernel
theorem dX9_takeWord_66 : decode cX9_takeWord 66 = .ok (.iadd, 1) := by decide +kernel
theorem dX9_takeWord_67 : decode cX9_takeWord 67 = .ok (.putfield 32, 3) := by decide +kernel
theorem dX9_takeWord_70 : decode cX9_takeWord 70 = .ok (.iinc 1 1, 3) := by decide +kernel
theorem dX9_takeWord_73 : decode cX9_takeWord 73 = .ok (.goto (-58), 3) := by decide +kernel
theorem dX9_takeWord_76 : decode cX9_takeWord 76 = .ok (.aload_n 0, 1) := by decide +kernel
theorem dX9_takeWord_77 : decode cX9_takeWord 77 = .ok (.aload_n 0, 1) := by decide +kernel
theorem dX9_takeWord_78 : decode cX9_takeWord 78 = .ok (.getfield 41, 3) := by decide +kernel
theorem dX9_takeWord_81 : decode cX9_takeWord 81 = .ok (.invokestatic 77, 3) := by decide +kernel
theorem dX9_takeWord_84 : decode cX9_takeWord 84 = .ok (.putfield 29, 3) := by decide +kernel
theorem dX9_takeWord_87 : decode cX9_takeWord 87 = .ok (.aload_n 0, 1) := by decide +kernel
theorem dX9_takeWord_88 : decode cX9_takeWord 88 = .ok (.aload_n 0, 1) := by decide +kernel
theorem dX9_takeWord_89 : decode cX9_takeWord 89 = .ok (.getfield 21, 3) := by decide +kernel
theorem dX9_takeWord_92 : decode cX9_takeWord 92 = .ok (.aload_n 0, 1) := by decide +kernel
theorem dX9_takeWord_93 : decode cX9_takeWord 93 = .ok (.getfield 32, 3) := by decide +kernel
theorem dX9_takeWord_96 : decode cX9_takeWord 96 = .ok (.invokevirtual 54, 3) := by decide +kernel
theorem dX9_takeWord_99 : decode cX9_takeWord 99 = .ok (.invokestatic 61, 3) := by decide +kernel
theorem dX9_takeWord_102 : decode cX9_takeWord 102 = .ok (.invokevirtual 80, 3) := by decide +kernel
theorem dX9_takeWord_105 : decode cX9_takeWord 105 = .ok (.return_, 1) := by decide +kernel
set_option maxRecDepth 20000 in
theorem ggX9_takeNumber_X2_at : GoodIn wsX9_takeNumber wsX2_at := goodIn_r _ [10, 11, 12, 30, 31] (by decide +kernel) (by decide +kernel)
set_option maxRecDepth 20000 in
theorem gX9_takeNumber_X2_at : GoodIn wsX9_takeNumber (wsV RX9 54 RX2 yX2_at wsX2_at) := goodIn_app (goodIn_of _ (by decide +kernel)) ggX9_takeNumber_X2_at
set_option maxRecDepth 20000 in
theorem ggX9_takeNumber_X9_isDigit : GoodIn wsX9_takeNumber wsX9_isDigit := goodIn_r _ [16] (by decide +kernel) (by decide +kernel)
set_option maxRecDepth 20000 in
theorem gX9_takeNumber_X9_isDigit : GoodIn wsX9_takeNumber (va_wsS RX9 64 yX9_isDigit wsX9_isDigit) := goodIn_app (goodIn_of _ (by decide +kernel)) ggX9_takeNumber_X9_isDigit
set_option maxRecDepth 20000 in
theorem ggX9_takeNumber_X9_misfitIf : GoodIn wsX9_takeNumber wsX9_misfitIf := goodIn_r _ [20, 5, 3, 2, 21, 22, 23, 24, 25, 26, 27, 28, 29] (by decide +kernel) (by decide +kernel)
set_option maxRecDepth 20000 in
theorem gX9_takeNumber_X9_misfitIf : GoodIn wsX9_takeNumber (wsV RX9 80 RX9 yX9_misfitIf wsX9_misfitIf) := goodIn_app (goodIn_of _ (by decide +kernel)) ggX9_takeNumber_X9_misfitIf
theorem dX9_takeNumber_0 : decode cX9_takeNumber 0 = .ok (.aload_n 0, 1) := by decide +kernel
theorem dX9_takeNumber_1 : decode cX9_takeNumber 1 = .ok (.iconst 0, 1) := by decide +kernel
theorem dX9_takeNumber_2 : decode cX9_takeNumber 2 = .ok (.putfield 41, 3) := by decide +kernel
theorem dX9_takeNumber_5 : decode cX9_takeNumber 5 = .ok (.aload_n 0, 1) := by decide +kernel
theorem dX9_takeNumber_6 : decode cX9_takeNumber 6 = .ok (.aload_n 0, 1) := by decide +kernel
theorem dX9_takeNumber_7 : decode cX9_takeNumber 7 = .ok (.getfield 38, 3) := by decide +kernel
theorem dX9_takeNumber_10 : decode cX9_takeNumber 10 = .ok (.putfield 32, 3) := by decide +kernel
theorem dX9_takeNumber_13 : decode cX9_takeNumber 13 = .ok (.iconst 0, 1) := by decide +kernel
theorem dX9_takeNumber_14 : decode cX9_takeNumber 14 = .ok (.istore_n 1, 1) := by decide +kernel
theorem dX9_takeNumber_15 : decode cX9_takeNumber 15 = .ok (.iload_n 1, 1) := by decide +kernel
theorem dX9_takeNumber_16 : decode cX9_takeNumber 16 = .ok (.iconst 4, 1) := by decide +kernel
theorem dX9_takeNumber_17 : decode cX9_takeNumber 17 = .ok (.if_icmp .ge 62, 3) := by decide +kernel
theorem dX9_takeNumber_20 : decode cX9_takeNumber 20 = .ok (.aload_n 0, 1) := by decide +kernel
theorem dX9_takeNumber_21 : decode cX9_takeNumber 21 = .ok (.getfield 21, 3) := by decide +kernel
theorem dX9_takeNumber_24 : decode cX9_takeNumber 24 = .ok (.aload_n 0, 1) := by decide +kernel
theorem dX9_takeNumber_25 : decode cX9_takeNumber 25 = .ok (.getfield 32, 3) := by decide +kernel
theorem dX9_takeNumber_28 : decode cX9_takeNumber 28 = .ok (.invokevirtual 54, 3) := by decide +kernel
theorem dX9_takeNumber_31 : decode cX9_takeNumber 31 = .ok (.invokestatic 64, 3) := by decide +kernel
theorem dX9_takeNumber_34 : decode cX9_takeNumber 34 = .ok (.ifCond .eq 45, 3) := by decide +kernel
theorem dX9_takeNumber_37 : decode cX9_takeNumber 37 = .ok (.aload_n 0, 1) := by decide +kernel
theorem dX9_takeNumber_38 : decode cX9_takeNumber 38 = .ok (.bipush 10, 2) := by decide +kernel
theorem dX9_takeNumber_40 : decode cX9_takeNumber 40 = .ok (.aload_n 0, 1) := by decide +kernel
theorem dX9_takeNumber_41 : decode cX9_takeNumber 41 = .ok (.getfield 41, 3) := by decide +kernel
theorem dX9_takeNumber_44 : decode cX9_takeNumber 44 = .ok (.imul, 1) := by decide +kernel
theorem dX9_takeNumber_45 : decode cX9_takeNumber 45 = .ok (.aload_n 0, 1) := by decide +kernel
theorem dX9_takeNumber_46 : decode cX9_takeNumber 46 = .ok (.getfield 21, 3) := by decide +kernel
theorem dX9_takeNumber_49 : decode cX9_takeNumber 49 = .ok (.aload_n 0, 1) := by decide +kernel
theorem dX9_takeNumber_50 : decode cX9_takeNumber 50 = .ok (.getfield 32, 3) := by decide +kernel
theorem dX9_takeNumber_53 : decode cX9_takeNumber 53 = .ok (.invokevirtual 54, 3) := by decide +kernel
theorem dX9_takeNumber_56 : decode cX9_takeNumber 56 = .ok (.iadd, 1) := by decide +kernel
theorem dX9_takeNumber_57 : decode cX9_takeNumber 57 = .ok (.bipush 48, 2) := by decide +kernel
theorem dX9_takeNumber_59 : decode cX9_takeNumber 59 = .ok (.isub, 1) := by decide +kernel
theorem dX9_takeNumber_60 : decode cX9_takeNumber 60 = .ok (.putfield 41, 3) := by decide +kernel
theorem dX9_takeNumber_63 : decode cX9_takeNumber 63 = .ok (.aload_n 0, 1) := by decide +kernel
theorem dX9_takeNumber_64 : decode cX9_takeNumber 64 = .ok (.dup, 1) := by decide +kernel
theorem dX9_takeNumber_65 : decode cX9_takeNumber 65 = .ok (.getfield 32, 3) := by decide +kernel
theorem dX9_takeNumber_68 : decode cX9_takeNumber 68 = .ok (.iconst 1, 1) := by decide +kernel
theorem dX9_takeNumber_69 : decode cX9_takeNumber 69 = .ok (.iadd, 1) := by decide +kernel
theorem dX9_takeNumber_70 : decode cX9_takeNumber 70 = .ok (.putfield 32, 3) := by decide +kernel
theorem dX9_takeNumber_73 : decode cX9_takeNumber 73 = .ok (.iinc 1 1, 3) := by decide +kernel
theorem dX9_takeNumber_76 : decode cX9_takeNumber 76 = .ok (.goto (-61), 3) := by decide +kernel
theorem dX9_takeNumber_79 : decode cX9_takeNumber 79 = .ok (.aload_n 0, 1) := by decide +kernel
theorem dX9_takeNumber_80 : decode cX9_takeNumber 80 = .ok (.sipush 281, 3) := by decide +kernel
theorem dX9_takeNumber_83 : decode cX9_takeNumber 83 = .ok (.putfield 29, 3) := by decide +kernel
theorem dX9_takeNumber_86 : decode cX9_takeNumber 86 = .ok (.aload_n 0, 1) := by decide +kernel
theorem dX9_takeNumber_87 : decode cX9_takeNumber 87 = .ok (.aload_n 0, 1) := by decide +kernel
theorem dX9_takeNumber_88 : decode cX9_takeNumber 88 = .ok (.getfield 21, 3) := by decide +kernel
theorem dX9_takeNumber_91 : decode cX9_takeNumber 91 = .ok (.aload_n 0, 1) := by decide +kernel
theorem dX9_takeNumber_92 : decode cX9_takeNumber 92 = .ok (.getfield 32, 3) := by decide +kernel
theorem dX9_takeNumber_95 : decode cX9_takeNumber 95 = .ok (.invokevirtual 54, 3) := by decide +kernel
theorem dX9_takeNumber_98 : decode cX9_takeNumber 98 = .ok (.invokestatic 64, 3) := by decide +kernel
theorem dX9_takeNumber_101 : decode cX9_takeNumber 101 = .ok (.invokevirtual 80, 3) := by decide +kernel
theorem dX9_takeNumber_104 : decode cX9_takeNumber 104 = .ok (.return_, 1) := by decide +kernel
theorem dX9_misfitIf_0 : decode cX9_misfitIf 0 = .ok (.iload_n 1, 1) := by decide +kernel
theorem dX9_misfitIf_1 : decode cX9_misfitIf 1 = .ok (.ifCond .eq 17, 3) := by decide +kernel
theorem dX9_misfitIf_4 : decode cX9_misfitIf 4 = .ok (.aload_n 0, 1) := by decide +kernel
theorem dX9_misfitIf_5 : decode cX9_misfitIf 5 = .ok (.bipush (-2), 2) := by decide +kernel
theorem dX9_misfitIf_7 : decode cX9_misfitIf 7 = .ok (.putfield 29, 3) := by decide +kernel
theorem dX9_misfitIf_10 : decode cX9_misfitIf 10 = .ok (.aload_n 0, 1) := by decide +kernel
theorem dX9_misfitIf_11 : decode cX9_misfitIf 11 = .ok (.aload_n 0, 1) := by decide +kernel
theorem dX9_misfitIf_12 : decode cX9_misfitIf 12 = .ok (.getfield 32, 3) := by decide +kernel
theorem dX9_misfitIf_15 : decode cX9_misfitIf 15 = .ok (.putfield 38, 3) := by decide +kernel
theorem dX9_misfitIf_18 : decode cX9_misfitIf 18 = .ok (.return_, 1) := by decide +kernel
set_option maxRecDepth 20000 in
theorem ggX9_kindOfWord_J0_length_8abf5 : GoodIn wsX9_kindOfWord wsJ0_length_8abf5 := goodIn_r _ [5, 6, 7, 8, 9, 4, 10, 11, 12] (by decide +kernel) (by decide +kernel)
set_option maxRecDepth 20000 in
theorem gX9_kindOfWord_J0_length_8abf5 : GoodIn wsX9_kindOfWord (wsV RX9 86 RJ0 yJ0_length_8abf5 wsJ0_length_8abf5) := goodIn_app (goodIn_of _ (by decide +kernel)) ggX9_kindOfWord_J0_length_8abf5
set_option maxRecDepth 20000 in
theorem ggX9_kindOfWord_J0_charAt_5068e : GoodIn wsX9_kindOfWord wsJ0_charAt_5068e := goodIn_r _ [16, 6, 17, 18, 19, 4, 20, 11, 12, 21, 22, 23, 24, 25, 26, 27, 28, 29, 30, 31, 32, 33, 34, 35, 36, 37, 38, 39, 40, 41, 42, 43, 44, 45, 46, 47, 48, 49] (by decide +kernel) (by decide +kernel)
set_option maxRecDepth 20000 in
theorem gX9_kindOfWord_J0_charAt_5068e : GoodIn wsX9_kindOfWord (wsV RX9 91 RJ0 yJ0_charAt_5068e wsJ0_charAt_5068e) := goodIn_app (goodIn_of _ (by decide +kernel)) ggX9_kindOfWord_J0_charAt_5068e
set_option maxRecDepth 20000 in
theorem ggX9_kindOfWord_X9_packed : GoodIn wsX9_kindOfWord wsX9_packed := goodIn_r _ [53] (by decide +kernel) (by decide +kernel)
set_option maxRecDepth 20000 in
theorem gX9_kindOfWord_X9_packed : GoodIn wsX9_kindOfWord (va_wsS RX9 73 yX9_packed wsX9_packed) := goodIn_app (goodIn_of _ (by decide +kernel)) ggX9_kindOfWord_X9_packed
theorem dX9_kindOfWord_0 : decode cX9_kindOfWord 0 = .ok (.iconst 0, 1) := by decide +kernel
theorem dX9_kindOfWord_1 : decode cX9_kindOfWord 1 = .ok (.istore_n 1, 1) := by decide +kernel
theorem dX9_kindOfWord_2 : decode cX9_kindOfWord 2 = .ok (.sipush 256, 3) := by decide +kernel
theorem dX9_kindOfWord_5 : decode cX9_kindOfWord 5 = .ok (.istore_n 2, 1) := by decide +kernel
theorem dX9_kindOfWord_6 : decode cX9_kindOfWord 6 = .ok (.iconst 0, 1) := by decide +kernel
theorem dX9_kindOfWord_7 : decode cX9_kindOfWord 7 = .ok (.istore_n 3, 1) := by decide +kernel
theorem dX9_kindOfWord_8 : decode cX9_kindOfWord 8 = .ok (.iload_n 3, 1) := by decide +kernel
theorem dX9_kindOfWord_9 : decode cX9_kindOfWord 9 = .ok (.ldc 84, 2) := by decide +kernel
theorem dX9_kindOfWord_11 : decode cX9_kindOfWord 11 = .ok (.invokevirtual 86, 3) := by decide +kernel
theorem dX9_kindOfWord_14 : decode cX9_kindOfWord 14 = .ok (.if_icmp .ge 46, 3) := by decide +kernel
theorem dX9_kindOfWord_17 : decode cX9_kindOfWord 17 = .ok (.ldc 84, 2) := by decide +kernel
theorem dX9_kindOfWord_19 : decode cX9_kindOfWord 19 = .ok (.iload_n 3, 1) := by decide +kernel
theorem dX9_kindOfWord_20 : decode cX9_kindOfWord 20 = .ok (.invokevirtual 91, 3) := by decide +kernel
theorem dX9_kindOfWord_23 : decode cX9_kindOfWord 23 = .ok (.istore 4, 2) := by decide +kernel
theorem dX9_kindOfWord_25 : decode cX9_kindOfWord 25 = .ok (.iload 4, 2) := by decide +kernel
theorem dX9_kindOfWord_27 : decode cX9_kindOfWord 27 = .ok (.bipush 32, 2) := by decide +kernel
theorem dX9_kindOfWord_29 : decode cX9_kindOfWord 29 = .ok (.if_icmp .eq 13, 3) := by decide +kernel
theorem dX9_kindOfWord_32 : decode cX9_kindOfWord 32 = .ok (.iload_n 1, 1) := by decide +kernel
theorem dX9_kindOfWord_33 : decode cX9_kindOfWord 33 = .ok (.iload 4, 2) := by decide +kernel
theorem dX9_kindOfWord_35 : decode cX9_kindOfWord 35 = .ok (.invokestatic 73, 3) := by decide +kernel
theorem dX9_kindOfWord_38 : decode cX9_kindOfWord 38 = .ok (.istore_n 1, 1) := by decide +kernel
theorem dX9_kindOfWord_39 : decode cX9_kindOfWord 39 = .ok (.goto 15, 3) := by decide +kernel
theorem dX9_kindOfWord_42 : decode cX9_kindOfWord 42 = .ok (.iload_n 1, 1) := by decide +kernel
theorem dX9_kindOfWord_43 : decode cX9_kindOfWord 43 = .ok (.iload_n 0, 1) := by decide +kernel
theorem dX9_kindOfWord_44 : decode cX9_kindOfWord 44 = .ok (.if_icmp .ne 5, 3) := by decide +kernel
theorem dX9_kindOfWord_47 : decode cX9_kindOfWord 47 = .ok (.iload_n 2, 1) := by decide +kernel
theorem dX9_kindOfWord_48 : decode cX9_kindOfWord 48 = .ok (.ireturn, 1) := by decide +kernel
theorem dX9_kindOfWord_49 : decode cX9_kindOfWord 49 = .ok (.iconst 0, 1) := by decide +kernel
theorem dX9_kindOfWord_50 : decode cX9_kindOfWord 50 = .ok (.istore_n 1, 1) := by decide +kernel
theorem dX9_kindOfWord_51 : decode cX9_kindOfWord 51 = .ok (.iinc 2 1, 3) := by decide +kernel
theorem dX9_kindOfWord_54 : decode cX9_kindOfWord 54 = .ok (.iinc 3 1, 3) := by decide +kernel
theorem dX9_kindOfWord_57 : decode cX9_kindOfWord 57 = .ok (.goto (-49), 3) := by decide +kernel
theorem dX9_kindOfWord_60 : decode cX9_kindOfWord 60 = .ok (.sipush 280, 3) := by decide +kernel
theorem dX9_kindOfWord_63 : decode cX9_kindOfWord 63 = .ok (.ireturn, 1) := by decide +kernel
theorem dX9_packed_0 : decode cX9_packed 0 = .ok (.iload_n 0, 1) := by decide +kernel
theorem dX9_packed_1 : decode cX9_packed 1 = .ok (.bipush 32, 2) := by decide +kernel
theorem dX9_packed_3 : decode cX9_packed 3 = .ok (.imul, 1) := by decide +kernel
theorem dX9_packed_4 : decode cX9_packed 4 = .ok (.iload_n 1, 1) := by decide +kernel
theorem dX9_packed_5 : decode cX9_packed 5 = .ok (.iadd, 1) := by decide +kernel
theorem dX9_packed_6 : decode cX9_packed 6 = .ok (.bipush 97, 2) := by decide +kernel
theorem dX9_packed_8 : decode cX9_packed 8 = .ok (.isub, 1) := by decide +kernel
theorem dX9_packed_9 : decode cX9_packed 9 = .ok (.iconst 1, 1) := by decide +kernel
theorem dX9_packed_10 : decode cX9_packed 10 = .ok (.iadd, 1) := by decide +kernel
theorem dX9_packed_11 : decode cX9_packed 11 = .ok (.ireturn, 1) := by decide +kernel
theorem dX9_isLong_0 : decode cX9_isLong 0 = .ok (.iload_n 0, 1) := by decide +kernel
theorem dX9_isLong_1 : decode cX9_isLong 1 = .ok (.sipush 256, 3) := by decide +kernel
theorem dX9_isLong_4 : decode cX9_isLong 4 = .ok (.if_icmp .lt 7, 3) := by decide +kernel
theorem dX9_isLong_7 : decode cX9_isLong 7 = .ok (.iconst 1, 1) := by decide +kernel
theorem dX9_isLong_8 : decode cX9_isLong 8 = .ok (.goto 4, 3) := by decide +kernel
theorem dX9_isLong_11 : decode cX9_isLong 11 = .ok (.iconst 0, 1) := by decide +kernel
theorem dX9_isLong_12 : decode cX9_isLong 12 = .ok (.ireturn, 1) := by decide +kernel
theorem dX9_isBlank_0 : decode cX9_isBlank 0 = .ok (.iload_n 0, 1) := by decide +kernel
theorem dX9_isBlank_1 : decode cX9_isBlank 1 = .ok (.bipush 10, 2) := by decide +kernel
theorem dX9_isBlank_3 : decode cX9_isBlank 3 = .ok (.if_icmp .eq 9, 3) := by decide +kernel
theorem dX9_isBlank_6 : decode cX9_isBlank 6 = .ok (.iload_n 0, 1) := by decide +kernel
theorem dX9_isBlank_7 : decode cX9_isBlank 7 = .ok (.bipush 32, 2) := by decide +kernel
theorem dX9_isBlank_9 : decode cX9_isBlank 9 = .ok (.if_icmp .ne 7, 3) := by decide +kernel
theorem dX9_isBlank_12 : decode cX9_isBlank 12 = .ok (.iconst 1, 1) := by decide +kernel
theorem dX9_isBlank_13 : decode cX9_isBlank 13 = .ok (.goto 4, 3) := by decide +kernel
theorem dX9_isBlank_16 : decode cX9_isBlank 16 = .ok (.iconst 0, 1) := by decide +kernel
theorem dX9_isBlank_17 : decode cX9_isBlank 17 = .ok (.ireturn, 1) := by decide +kernel
theorem dX9_isLetter_0 : decode cX9_isLetter 0 = .ok (.iload_n 0, 1) := by decide +kernel
theorem dX9_isLetter_1 : decode cX9_isLetter 1 = .ok (.bipush 97, 2) := by decide +kernel
theorem dX9_isLetter_3 : decode cX9_isLetter 3 = .ok (.if_icmp .lt 13, 3) := by decide +kernel
theorem dX9_isLetter_6 : decode cX9_isLetter 6 = .ok (.iload_n 0, 1) := by decide +kernel
theorem dX9_isLetter_7 : decode cX9_isLetter 7 = .ok (.bipush 122, 2) := by decide +kernel
theorem dX9_isLetter_9 : decode cX9_isLetter 9 = .ok (.if_icmp .gt 7, 3) := by decide +kernel
theorem dX9_isLetter_12 : decode cX9_isLetter 12 = .ok (.iconst 1, 1) := by decide +kernel
theorem dX9_isLetter_13 : decode cX9_isLetter 13 = .ok (.goto 4, 3) := by decide +kernel
theorem dX9_isLetter_16 : decode cX9_isLetter 16 = .ok (.iconst 0, 1) := by decide +kernel
theorem dX9_isLetter_17 : decode cX9_isLetter 17 = .ok (.ireturn, 1) := by decide +kernel
theorem dX9_isDigit_0 : decode cX9_isDigit 0 = .ok (.iload_n 0, 1) := by decide +kernel
theorem dX9_isDigit_1 : decode cX9_isDigit 1 = .ok (.bipush 48, 2) := by decide +kernel
theorem dX9_isDigit_3 : decode cX9_isDigit 3 = .ok (.if_icmp .lt 13, 3) := by decide +kernel
theorem dX9_isDigit_6 : decode cX9_isDigit 6 = .ok (.iload_n 0, 1) := by decide +kernel
theorem dX9_isDigit_7 : decode cX9_isDigit 7 = .ok (.bipush 57, 2) := by decide +kernel
theorem dX9_isDigit_9 : decode cX9_isDigit 9 = .ok (.if_icmp .gt 7, 3) := by decide +kernel
theorem dX9_isDigit_12 : decode cX9_isDigit 12 = .ok (.iconst 1, 1) := by decide +kernel
theorem dX9_isDigit_13 : decode cX9_isDigit 13 = .ok (.goto 4, 3) := by decide +kernel
theorem dX9_isDigit_16 : decode cX9_isDigit 16 = .ok (.iconst 0, 1) := by decide +kernel
theorem dX9_isDigit_17 : decode cX9_isDigit 17 = .ok (.ireturn, 1) := by decide +kernel
theorem dX10_init_0 : decode cX10_init 0 = .ok (.aload_n 0, 1) := by decide +kernel
theorem dX10_init_1 : decode cX10_init 1 = .ok (.invokespecial 3, 3) := by decide +kernel
theorem dX10_init_4 : decode cX10_init 4 = .ok (.aload_n 0, 1) := by decide +kernel
theorem dX10_init_5 : decode cX10_init 5 = .ok (.bipush 30, 2) := by decide +kernel
theorem dX10_init_7 : decode cX10_init 7 = .ok (.newarray .boolean, 2) := by decide +kernel
theorem dX10_init_9 : decode cX10_init 9 = .ok (.putfield 9, 3) := by decide +kernel
theorem dX10_init_12 : decode cX10_init 12 = .ok (.aload_n 0, 1) := by decide +kernel
theorem dX10_init_13 : decode cX10_init 13 = .ok (.bipush 30, 2) := by decide +kernel
theorem dX10_init_15 : decode cX10_init 15 = .ok (.newarray .int, 2) := by decide +kernel
theorem dX10_init_17 : decode cX10_init 17 = .ok (.putfield 15, 3) := by decide +kernel
theorem dX10_init_20 : decode cX10_init 20 = .ok (.aload_n 0, 1) := by decide +kernel
theorem dX10_init_21 : decode cX10_init 21 = .ok (.aload_n 1, 1) := by decide +kernel
theorem dX10_init_22 : decode cX10_init 22 = .ok (.putfield 19, 3) := by decide +kernel
theorem dX10_init_25 : decode cX10_init 25 = .ok (.return_, 1) := by decide +kernel
set_option maxRecDepth 20000 in
theorem ggX10_look_X0_knownWorth : GoodIn wsX10_look wsX0_knownWorth := goodIn_r _ [9, 10, 11, 12, 13, 14, 15, 16, 17, 95, 96, 97, 98] (by decide +kernel) (by decide +kernel)
set_option maxRecDepth 20000 in
theorem gX10_look_X0_knownWorth : GoodIn wsX10_look (wsV RX10 29 RX0 yX0_knownWorth wsX0_knownWorth) := goodIn_app (goodIn_of _ (by decide +kernel)) ggX10_look_X0_knownWorth
set_option maxRecDepth 20000 in
theorem ggX10_look_X6_worthOn : GoodIn wsX10_look wsX6_worthOn := goodIn_r _ [22, 23, 24, 25, 26, 27, 13, 28, 29, 30, 12, 14, 31, 32, 33, 21, 34, 35, 36, 37, 38, 39, 40, 41, 42, 43, 44, 45, 46, 47, 48, 49, 50, 51, 52, 53, 54, 55, 56, 57, 58, 59, 60, 61, 62, 63, 64, 75, 76, 77, 78, 79, 80, 81, 82, 83, 84, 85, 86, 87, 88, 89, 90, 91, 92, 93, 94] (by decide +kernel) (by decide +kernel)
set_option maxRecDepth 20000 in
theorem gX10_look_X6_worthOn : GoodIn wsX10_look (wsV RX10 35 RX6 yX6_worthOn wsX6_worthOn) := goodIn_app (goodIn_of _ (by decide +kernel)) ggX10_look_X6_worthOn
set_option maxRecDepth 20000 in
theorem ggX10_look_X6_madeWith : GoodIn wsX10_look wsX6_madeWith := goodIn_r _ [68, 69, 70, 71, 75, 76, 77, 78, 79, 80, 81, 82, 83, 84, 85, 86, 87, 88, 89, 90, 91, 92, 93, 94] (by decide +kernel) (by decide +kernel)
set_option maxRecDepth 20000 in
theorem gX10_look_X6_madeWith : GoodIn wsX10_look (wsV RX10 38 RX6 yX6_madeWith wsX6_madeWith) := goodIn_app (goodIn_of _ (by decide +kernel)) ggX10_look_X6_madeWith
theorem dX10_look_0 : decode cX10_look 0 = .ok (.aload_n 0, 1) := by decide +kernel
theorem dX10_look_1 : decode cX10_look 1 = .ok (.aload_n 1, 1) := by decide +kernel
theorem dX10_look_2 : decode cX10_look 2 = .ok (.putfield 19, 3) := by decide +kernel
theorem dX10_look_5 : decode cX10_look 5 = .ok (.iconst 0, 1) := by decide +kernel
theorem dX10_look_6 : decode cX10_look 6 = .ok (.istore 5, 2) := by decide +kernel
theorem dX10_look_8 : decode cX10_look 8 = .ok (.iload 5, 2) := by decide +kernel
theorem dX10_look_10 : decode cX10_look 10 = .ok (.aload_n 0, 1) := by decide +kernel
theorem dX10_look_11 : decode cX10_look 11 = .ok (.getfield 19, 3) := by decide +kernel
theorem dX10_look_14 : decode cX10_look 14 = .ok (.getfield 23, 3) := by decide +kernel
theorem dX10_look_17 : decode cX10_look 17 = .ok (.if_icmp .ge 84, 3) := by decide +kernel
theorem dX10_look_20 : decode cX10_look 20 = .ok (.aload_n 2, 1) := by decide +kernel
theorem dX10_look_21 : decode cX10_look 21 = .ok (.iload 5, 2) := by decide +kernel
theorem dX10_look_23 : decode cX10_look 23 = .ok (.iload_n 3, 1) := by decide +kernel
theorem dX10_look_24 : decode cX10_look 24 = .ok (.invokevirtual 29, 3) := by decide +kernel
theorem dX10_look_27 : decode cX10_look 27 = .ok (.istore 6, 2) := by decide +kernel
theorem dX10_look_29 : decode cX10_look 29 = .ok (.iload 6, 2) := by decide +kernel
theorem dX10_look_31 : decode cX10_look 31 = .ok (.bipush (-2), 2) := by decide +kernel
theorem dX10_look_33 : decode cX10_look 33 = .ok (.if_icmp .ne 16, 3) := by decide +kernel
theorem dX10_look_36 : decode cX10_look 36 = .ok (.aload_n 0, 1) := by decide +kernel
theorem dX10_look_37 : decode cX10_look 37 = .ok (.getfield 19, 3) := by decide +kernel
theorem dX10_look_40 : decode cX10_look 40 = .ok (.iload 5, 2) := by decide +kernel
theorem dX10_look_42 : decode cX10_look 42 = .ok (.iload 4, 2) := by decide +kernel
theorem dX10_look_44 : decode cX10_look 44 = .ok (.invokevirtual 35, 3) := by decide +kernel
theorem dX10_look_47 : decode cX10_look 47 = .ok (.istore 6, 2) := by decide +kernel
theorem dX10_look_49 : decode cX10_look 49 = .ok (.aload_n 0, 1) := by decide +kernel
theorem dX10_look_50 : decode cX10_look 50 = .ok (.getfield 9, 3) := by decide +kernel
theorem dX10_look_53 : decode cX10_look 53 = .ok (.iload 5, 2) := by decide +kernel
theorem dX10_look_55 : decode cX10_look 55 = .ok (.iload 6, 2) := by decide +kernel
theorem dX10_look_57 : decode cX10_look 57 = .ok (.iconst (-1), 1) := by decide +kernel
theorem dX10_look_58 : decode cX10_look 58 = .ok (.if_icmp .eq 7, 3) := by decide +kernel
theorem dX10_look_61 : decode cX10_look 61 = .ok (.iconst 1, 1) := by decide +kernel
theorem dX10_look_62 : decode cX10_look 62 = .ok (.goto 4, 3) := by decide +kernel
theorem dX10_look_65 : decode cX10_look 65 = .ok (.iconst 0, 1) := by decide +kernel
theorem dX10_look_66 : decode cX10_look 66 = .ok (.bastore, 1) := by decide +kernel
theorem dX10_look_67 : decode cX10_look 67 = .ok (.aload_n 0, 1) := by decide +kernel
theorem dX10_look_68 : decode cX10_look 68 = .ok (.getfield 15, 3) := by decide +kernel
theorem dX10_look_71 : decode cX10_look 71 = .ok (.iload 5, 2) := by decide +kernel
theorem dX10_look_73 : decode cX10_look 73 = .ok (.iload 6, 2) := by decide +kernel
theorem dX10_look_75 : decode cX10_look 75 = .ok (.iconst (-1), 1) := by decide +kernel
theorem dX10_look_76 : decode cX10_look 76 = .ok (.if_icmp .ne 7, 3) := by decide +kernel
theorem dX10_look_79 : decode cX10_look 79 = .ok (.iconst 0, 1) := by decide +kernel
theorem dX10_look_80 : decode cX10_look 80 = .ok (.goto 14, 3) := by decide +kernel
theorem dX10_look_83 : decode cX10_look 83 = .ok (.aload_n 0, 1) := by decide +kernel
theorem dX10_look_84 : decode cX10_look 84 = .ok (.getfield 19, 3) := by decide +kernel
theorem dX10_look_87 : decode cX10_look 87 = .ok (.iload 5, 2) := by decide +kernel
theorem dX10_look_89 : decode cX10_look 89 = .ok (.iload 6, 2) := by decide +kernel
theorem dX10_look_91 : decode cX10_look 91 = .ok (.invokevirtual 38, 3) := by decide +kernel
theorem dX10_look_94 : decode cX10_look 94 = .ok (.iastore, 1) := by decide +kernel
theorem dX10_look_95 : decode cX10_look 95 = .ok (.iinc 5 1, 3) := by decide +kernel
theorem dX10_look_98 : decode cX10_look 98 = .ok (.goto (-90), 3) := by decide +kernel
theorem dX10_look_101 : decode cX10_look 101 = .ok (.return_, 1) := by decide +kernel
theorem dX10_gainOf_0 : decode cX10_gainOf 0 = .ok (.aload_n 0, 1) := by decide +kernel
theorem dX10_gainOf_1 : decode cX10_gainOf 1 = .ok (.getfield 15, 3) := by decide +kernel
theorem dX10_gainOf_4 : decode cX10_gainOf 4 = .ok (.iload_n 1, 1) := by decide +kernel
theorem dX10_gainOf_5 : decode cX10_gainOf 5 = .ok (.iaload, 1) := by decide +kernel
theorem dX10_gainOf_6 : decode cX10_gainOf 6 = .ok (.aload_n 0, 1) := by decide +kernel
theorem dX10_gainOf_7 : decode cX10_gainOf 7 = .ok (.getfield 19, 3) := by decide +kernel
theorem dX10_gainOf_10 : decode cX10_gainOf 10 = .ok (.getfield 41, 3) := by decide +kernel
theorem dX10_gainOf_13 : decode cX10_gainOf 13 = .ok (.aload_n 0, 1) := by decide +kernel
theorem dX10_gainOf_14 : decode cX10_gainOf 14 = .ok (.getfield 19, 3) := by decide +kernel
theorem dX10_gainOf_17 : decode cX10_gainOf 17 = .ok (.getfield 44, 3) := by decide +kernel
theorem dX10_gainOf_20 : decode cX10_gainOf 20 = .ok (.iload_n 1, 1) := by decide +kernel
theorem dX10_gainOf_21 : decode cX10_gainOf 21 = .ok (.iaload, 1) := by decide +kernel
theorem dX10_gainOf_22 : decode cX10_gainOf 22 = .ok (.iaload, 1) := by decide +kernel
theorem dX10_gainOf_23 : decode cX10_gainOf 23 = .ok (.isub, 1) := by decide +kernel
theorem dX10_gainOf_24 : decode cX10_gainOf 24 = .ok (.aload_n 0, 1) := by decide +kernel
theorem dX10_gainOf_25 : decode cX10_gainOf 25 = .ok (.getfield 19, 3) := by decide +kernel
theorem dX10_gainOf_28 : decode cX10_gainOf 28 = .ok (.getfield 41, 3) := by decide +kernel
theorem dX10_gainOf_31 : decode cX10_gainOf 31 = .ok (.aload_n 0, 1) := by decide +kernel
theorem dX10_gainOf_32 : decode cX10_gainOf 32 = .ok (.getfield 19, 3) := by decide +kernel
theorem dX10_gainOf_35 : decode cX10_gainOf 35 = .ok (.getfield 47, 3) := by decide +kernel
theorem dX10_gainOf_38 : decode cX10_gainOf 38 = .ok (.iload_n 1, 1) := by decide +kernel
theorem dX10_gainOf_39 : decode cX10_gainOf 39 = .ok (.iaload, 1) := by decide +kernel
theorem dX10_gainOf_40 : decode cX10_gainOf 40 = .ok (.iaload, 1) := by decide +kernel
theorem dX10_gainOf_41 : decode cX10_gainOf 41 = .ok (.isub, 1) := by decide +kernel
theorem dX10_gainOf_42 : decode cX10_gainOf 42 = .ok (.ireturn, 1) := by decide +kernel
set_option maxRecDepth 20000 in
theorem ggX11_init_X2_init : GoodIn wsX11_init wsX2_init := goodIn_r _ [49, 50, 2, 3, 51, 52, 53, 54, 55, 56, 165, 166] (by decide +kernel) (by decide +kernel)
set_option maxRecDepth 20000 in
theorem gX11_init_X2_init : GoodIn wsX11_init (wsX2_init) := ggX11_init_X2_init
set_option maxRecDepth 20000 in
theorem ggX11_init_X8_init : GoodIn wsX11_init wsX8_init := goodIn_r _ [59, 60, 2, 3, 61, 17, 18, 62, 63, 64, 65, 66, 67, 68, 69, 70, 71, 33, 72, 73, 74, 75, 76, 77, 78, 79, 80, 81, 82, 83, 84, 85, 86, 87, 88, 89, 90, 91, 92, 93, 94, 95, 96, 97, 98, 196, 197, 198, 199, 200, 201, 202, 203, 204, 205, 206, 207, 208, 209, 210, 211, 212, 213, 214, 215, 184, 185, 186, 187, 188, 189, 190, 191, 253, 254, 255, 256, 257, 258, 259, 260, 261] rfl (by decide +kernel)
set_option maxRecDepth 20000 in
theorem gX11_init_X8_init : GoodIn wsX11_init (wsX8_init) := ggX11_init_X8_init
set_option maxRecDepth 20000 in
theorem ggX11_init_X0_init : GoodIn wsX11_init wsX0_init := goodIn_r _ [100, 101, 2, 3, 33, 102, 103, 104, 192, 193, 194, 195] (by decide +kernel) (by decide +kernel)
set_option maxRecDepth 20000 in
theorem gX11_init_X0_init_n29 : GoodIn wsX11_init (wsX0_init) := ggX11_init_X0_init
set_option maxRecDepth 20000 in
theorem ggX11_init_X6_init : GoodIn wsX11_init wsX6_init := goodIn_r _ [70, 71, 2, 3, 33, 72, 73, 74, 75, 76, 77, 78, 79, 80, 81, 82, 83, 84, 85, 86, 87, 88, 89, 90, 196, 197, 198, 199, 200, 201, 202, 203, 204, 205, 206, 207, 208, 209, 210, 211, 212, 213, 214, 215] (by decide +kernel) (by decide +kernel)
set_option maxRecDepth 20000 in
theorem gX11_init_X6_init : GoodIn wsX11_init (wsX6_init) := ggX11_init_X6_init
set_option maxRecDepth 20000 in
theorem ggX11_init_X10_init : GoodIn wsX11_init wsX10_init := goodIn_r _ [108, 109, 2, 3, 83, 110, 33, 111, 112, 216, 217, 218] (by decide +kernel) (by decide +kernel)
set_option maxRecDepth 20000 in
theorem gX11_init_X10_init : GoodIn wsX11_init (wsX10_init) := ggX11_init_X10_init
set_option maxRecDepth 20000 in
theorem ggX11_init_X5_init : GoodIn wsX11_init wsX5_init := goodIn_r _ [114, 115, 2, 3, 116, 33, 117, 118, 119, 120, 121, 122, 83, 123, 219, 220, 221, 222, 223, 224, 225, 226] (by decide +kernel) (by decide +kernel)
set_option maxRecDepth 20000 in
theorem gX11_init_X5_init_n52 : GoodIn wsX11_init (wsX5_init) := ggX11_init_X5_init
set_option maxRecDepth 20000 in
theorem ggX11_init_X7_init : GoodIn wsX11_init wsX7_init := goodIn_r _ [126, 127, 2, 3, 128, 129, 130, 131, 33, 132, 133, 134, 135, 136, 137, 138, 139, 140, 141, 142, 143, 262, 263, 227, 228, 229, 230, 231, 232, 233, 234, 235, 236, 237, 216, 217, 218] (by decide +kernel) (by decide +kernel)
set_option maxRecDepth 20000 in
theorem gX11_init_X7_init : GoodIn wsX11_init (wsX7_init) := ggX11_init_X7_init
set_option maxRecDepth 20000 in
theorem ggX11_init_X3_init : GoodIn wsX11_init wsX3_init := goodIn_r _ [146, 147, 2, 3, 83, 148, 33, 149, 150, 151, 152, 153, 154, 155, 156, 238, 239, 240, 241, 242, 243, 244, 245, 246, 247, 248, 216, 217, 218] (by decide +kernel) (by decide +kernel)
set_option maxRecDepth 20000 in
theorem gX11_init_X3_init : GoodIn wsX11_init (wsX3_init) := ggX11_init_X3_init
set_option maxRecDepth 20000 in
theorem ggX11_init_X4_init : GoodIn wsX11_init wsX4_init := goodIn_r _ [158, 159, 2, 3, 160, 5, 6, 161, 83, 162, 33, 163, 164, 48, 49, 50, 51, 52, 53, 54, 55, 56, 165, 166, 249, 250, 251, 252] (by decide +kernel) (by decide +kernel)
set_option maxRecDepth 20000 in
theorem gX11_init_X4_init_n84 : GoodIn wsX11_init (wsX4_init) := ggX11_init_X4_init
theorem dX11_init_0 : decode cX11_init 0 = .ok (.aload_n 0, 1) := by decide +kernel
theorem dX11_init_1 : decode cX11_init 1 = .ok (.invokespecial 3, 3) := by decide +kernel
theorem dX11_init_4 : decode cX11_init 4 = .ok (.aload_n 0, 1) := by decide +kernel
theorem dX11_init_5 : decode cX11_init 5 = .ok (.new 9, 3) := by decide +kernel
theorem dX11_init_8 : decode cX11_init 8 = .ok (.dup, 1) := by decide +kernel
theorem dX11_init_9 : decode cX11_init 9 = .ok (.sipush 900, 3) := by decide +kernel
theorem dX11_init_12 : decode cX11_init 12 = .ok (.invokespecial 11, 3) := by decide +kernel
theorem dX11_init_15 : decode cX11_init 15 = .ok (.putfield 14, 3) := by decide +kernel
theorem dX11_init_18 : decode cX11_init 18 = .ok (.aload_n 0, 1) := by decide +kernel
theorem dX11_init_19 : decode cX11_init 19 = .ok (.new 18, 3) := by decide +kernel
theorem dX11_init_22 : decode cX11_init 22 = .ok (.dup, 1) := by decide +kernel
theorem dX11_init_23 : decode cX11_init 23 = .ok (.aload_n 0, 1) := by decide +kernel
theorem dX11_init_24 : decode cX11_init 24 = .ok (.getfield 14, 3) := by decide +kernel
theorem dX11_init_27 : decode cX11_init 27 = .ok (.invokespecial 20, 3) := by decide +kernel
theorem dX11_init_30 : decode cX11_init 30 = .ok (.putfield 23, 3) := by decide +kernel
theorem dX11_init_33 : decode cX11_init 33 = .ok (.aload_n 0, 1) := by decide +kernel
theorem dX11_init_34 : decode cX11_init 34 = .ok (.new 27, 3) := by decide +kernel
theorem dX11_init_37 : decode cX11_init 37 = .ok (.dup, 1) := by decide +kernel
theorem dX11_init_38 : decode cX11_init 38 = .ok (.invokespecial 29, 3) := by decide +kernel
theorem dX11_init_41 : decode cX11_init 41 = .ok (.putfield 30, 3) := by decide +kernel
theorem dX11_init_44 : decode cX11_init 44 = .ok (.aload_n 0, 1) := by decide +kernel
theorem dX11_init_45 : decode cX11_init 45 = .ok (.new 34, 3) := by decide +kernel
theorem dX11_init_48 : decode cX11_init 48 = .ok (.dup, 1) := by decide +kernel
theorem dX11_init_49 : decode cX11_init 49 = .ok (.invokespecial 36, 3) := by decide +kernel
theorem dX11_init_52 : decode cX11_init 52 = .ok (.putfield 37, 3) := by decide +kernel
theorem dX11_init_55 : decode cX11_init 55 = .ok (.aload_n 0, 1) := by decide +kernel
theorem dX11_init_56 : decode cX11_init 56 = .ok (.new 41, 3) := by decide +kernel
theorem dX11_init_59 : decode cX11_init 59 = .ok (.dup, 1) := by decide +kernel
theorem dX11_init_60 : decode cX11_init 60 = .ok (.aload_n 0, 1) := by decide +kernel
theorem dX11_init_61 : decode cX11_init 61 = .ok (.getfield 37, 3) := by decide +kernel
theorem dX11_init_64 : decode cX11_init 64 = .ok (.invokespecial 43, 3) := by decide +kernel
theorem dX11_init_67 : decode cX11_init 67 = .ok (.putfield 46, 3) := by decide +kernel
theorem dX11_init_70 : decode cX11_init 70 = .ok (.aload_n 0, 1) := by decide +kernel
theorem dX11_init_71 : decode cX11_init 71 = .ok (.new 50, 3) := by decide +kernel
theorem dX11_init_74 : decode cX11_init 74 = .ok (.dup, 1) := by decide +kernel
theorem dX11_init_75 : decode cX11_init 75 = .ok (.invokespecial 52, 3) := by decide +kernel
theorem dX11_init_78 : decode cX11_init 78 = .ok (.putfield 53, 3) := by decide +kernel
theorem dX11_init_81 : decode cX11_init 81 = .ok (.aload_n 0, 1) := by decide +kernel
theorem dX11_init_82 : decode cX11_init 82 = .ok (.new 57, 3) := by decide +kernel
theorem dX11_init_85 : decode cX11_init 85 = .ok (.dup, 1) := by decide +kernel
theorem dX11_init_86 : decode cX11_init 86 = .ok (.aload_n 0, 1) := by decide +kernel
theorem dX11_init_87 : decode cX11_init 87 = .ok (.getfield 46, 3) := by decide +kernel
theorem dX11_init_90 : decode cX11_init 90 = .ok (.aload_n 0, 1) := by decide +kernel
theorem dX11_init_91 : decode cX11_init 91 = .ok (.getfield 53, 3) := by decide +kernel
theorem dX11_init_94 : decode cX11_init 94 = .ok (.invokespecial 59, 3) := by decide +kernel
theorem dX11_init_97 : decode cX11_init 97 = .ok (.putfield 62, 3) := by decide +kernel
theorem dX11_init_100 : decode cX11_init 100 = .ok (.aload_n 0, 1) := by decide +kernel
theorem dX11_init_101 : decode cX11_init 101 = .ok (.new 57, 3) := by decide +kernel
theorem dX11_init_104 : decode cX11_init 104 = .ok (.dup, 1) := by decide +kernel
theorem dX11_init_105 : decode cX11_init 105 = .ok (.aload_n 0, 1) := by decide +kernel
theorem dX11_init_106 : decode cX11_init 106 = .ok (.getfield 46, 3) := by decide +kernel
theorem dX11_init_109 : decode cX11_init 109 = .ok (.aload_n 0, 1) := by decide +kernel
theorem dX11_init_110 : decode cX11_init 110 = .ok (.getfield 53, 3) := by decide +kernel
theorem dX11_init_113 : decode cX11_init 113 = .ok (.invokespecial 59, 3) := by decide +kernel
theorem dX11_init_116 : decode cX11_init 116 = .ok (.putfield 66, 3) := by decide +kernel
theorem dX11_init_119 : decode cX11_init 119 = .ok (.aload_n 0, 1) := by decide +kernel
theorem dX11_init_120 : decode cX11_init 120 = .ok (.sipush 4096, 3) := by decide +kernel
theorem dX11_init_123 : decode cX11_init 123 = .ok (.newarray .int, 2) := by decide +kernel
theorem dX11_init_125 : decode cX11_init 125 = .ok (.putfield 69, 3) := by decide +kernel
theorem dX11_init_128 : decode cX11_init 128 = .ok (.aload_n 0, 1) := by decide +kernel
theorem dX11_init_129 : decode cX11_init 129 = .ok (.new 73, 3) := by decide +kernel
theorem dX11_init_132 : decode cX11_init 132 = .ok (.dup, 1) := by decide +kernel
theorem dX11_init_133 : decode cX11_init 133 = .ok (.aload_n 0, 1) := by decide +kernel
theorem dX11_init_134 : decode cX11_init 134 = .ok (.getfield 46, 3) := by decide +kernel
theorem dX11_init_137 : decode cX11_init 137 = .ok (.invokespecial 75, 3) := by decide +kernel
theorem dX11_init_140 : decode cX11_init 140 = .ok (.putfield 78, 3) := by decide +kernel
theorem dX11_init_143 : decode cX11_init 143 = .ok (.aload_n 0, 1) := by decide +kernel
theorem dX11_init_144 : decode cX11_init 144 = .ok (.new 82, 3) := by decide +kernel
theorem dX11_init_147 : decode cX11_init 147 = .ok (.dup, 1) := by decide +kernel
theorem dX11_init_148 : decode cX11_init 148 = .ok (.invokespecial 84, 3) := by decide +kernel
theorem dX11_init_151 : decode cX11_init 151 = .ok (.putfield 85, 3) := by decide +kernel
theorem dX11_init_154 : decode cX11_init 154 = .ok (.aload_n 0, 1) := by decide +kernel
theorem dX11_init_155 : decode cX11_init 155 = .ok (.iconst (-1), 1) := by decide +kernel
theorem dX11_init_156 : decode cX11_init 156 = .ok (.putfield 89, 3) := by decide +kernel
theorem dX11_init_159 : decode cX11_init 159 = .ok (.aload_n 0, 1) := by decide +kernel
theorem dX11_init_160 : decode cX11_init 160 = .ok (.iconst (-1), 1) := by decide +kernel
theorem dX11_init_161 : decode cX11_init 161 = .ok (.putfield 93, 3) := by decide +kernel
theorem dX11_init_164 : decode cX11_init 164 = .ok (.aload_n 0, 1) := by decide +kernel
theorem dX11_init_165 : decode cX11_init 165 = .ok (.iconst (-1), 1) := by decide +kernel
theorem dX11_init_166 : decode cX11_init 166 = .ok (.putfield 96, 3) := by decide +kernel
theorem dX11_init_169 : decode cX11_init 169 = .ok (.aload_n 0, 1) := by decide +kernel
theorem dX11_init_170 : decode cX11_init 170 = .ok (.iconst 1, 1) := by decide +kernel
theorem dX11_init_171 : decode cX11_init 171 = .ok (.putfield 99, 3) := by decide +kernel
theorem dX11_init_174 : decode cX11_init 174 = .ok (.return_, 1) := by decide +kernel
set_option maxRecDepth 20000 in
theorem ggX11_feed_X2_hasRoom : GoodIn wsX11_feed wsX2_hasRoom := goodIn_r _ [6, 7, 8, 42, 43] (by decide +kernel) (by decide +kernel)
set_option maxRecDepth 20000 in
theorem gX11_feed_X2_hasRoom : GoodIn wsX11_feed (wsV RX11 103 RX2 yX2_hasRoom wsX2_hasRoom) := goodIn_app (goodIn_of _ (by decide +kernel)) ggX11_feed_X2_hasRoom
set_option maxRecDepth 20000 in
theorem ggX11_feed_X2_putNumber : GoodIn wsX11_feed wsX2_putNumber := goodIn_r _ [12, 13, 14, 15, 5, 16, 17, 18, 19, 20, 7, 8, 42, 43] (by decide +kernel) (by decide +kernel)
set_option maxRecDepth 20000 in
theorem gX11_feed_X2_putNumber : GoodIn wsX11_feed (wsV RX11 107 RX2 yX2_putNumber wsX2_putNumber) := goodIn_app (goodIn_of _ (by decide +kernel)) ggX11_feed_X2_putNumber
set_option maxRecDepth 20000 in
theorem ggX11_feed_X2_size : GoodIn wsX11_feed wsX2_size := goodIn_r _ [24, 7, 42, 43] (by decide +kernel) (by decide +kernel)
set_option maxRecDepth 20000 in
theorem gX11_feed_X2_size : GoodIn wsX11_feed (wsV RX11 110 RX2 yX2_size wsX2_size) := goodIn_app (goodIn_of _ (by decide +kernel)) ggX11_feed_X2_size
theorem dX11_feed_0 : decode cX11_feed 0 = .ok (.aload_n 0, 1) := by decide +kernel
theorem dX11_feed_1 : decode cX11_feed 1 = .ok (.getfield 14, 3) := by decide +kernel
theorem dX11_feed_4 : decode cX11_feed 4 = .ok (.bipush 20, 2) := by decide +kernel
theorem dX11_feed_6 : decode cX11_feed 6 = .ok (.invokevirtual 103, 3) := by decide +kernel
theorem dX11_feed_9 : decode cX11_feed 9 = .ok (.ifCond .ne 5, 3) := by decide +kernel
theorem dX11_feed_12 : decode cX11_feed 12 = .ok (.iconst (-1), 1) := by decide +kernel
theorem dX11_feed_13 : decode cX11_feed 13 = .ok (.ireturn, 1) := by decide +kernel
theorem dX11_feed_14 : decode cX11_feed 14 = .ok (.aload_n 0, 1) := by decide +kernel
theorem dX11_feed_15 : decode cX11_feed 15 = .ok (.getfield 14, 3) := by decide +kernel
theorem dX11_feed_18 : decode cX11_feed 18 = .ok (.iload_n 1, 1) := by decide +kernel
theorem dX11_feed_19 : decode cX11_feed 19 = .ok (.invokevirtual 107, 3) := by decide +kernel
theorem dX11_feed_22 : decode cX11_feed 22 = .ok (.aload_n 0, 1) := by decide +kernel
theorem dX11_feed_23 : decode cX11_feed 23 = .ok (.getfield 14, 3) := by decide +kernel
theorem dX11_feed_26 : decode cX11_feed 26 = .ok (.iload_n 2, 1) := by decide +kernel
theorem dX11_feed_27 : decode cX11_feed 27 = .ok (.invokevirtual 107, 3) := by decide +kernel
theorem dX11_feed_30 : decode cX11_feed 30 = .ok (.aload_n 0, 1) := by decide +kernel
theorem dX11_feed_31 : decode cX11_feed 31 = .ok (.getfield 14, 3) := by decide +kernel
theorem dX11_feed_34 : decode cX11_feed 34 = .ok (.iload_n 3, 1) := by decide +kernel
theorem dX11_feed_35 : decode cX11_feed 35 = .ok (.invokevirtual 107, 3) := by decide +kernel
theorem dX11_feed_38 : decode cX11_feed 38 = .ok (.aload_n 0, 1) := by decide +kernel
theorem dX11_feed_39 : decode cX11_feed 39 = .ok (.getfield 14, 3) := by decide +kernel
theorem dX11_feed_42 : decode cX11_feed 42 = .ok (.iload 4, 2) := by decide +kernel
theorem dX11_feed_44 : decode cX11_feed 44 = .ok (.invokevirtual 107, 3) := by decide +kernel
theorem dX11_feed_47 : decode cX11_feed 47 = .ok (.aload_n 0, 1) := by decide +kernel
theorem dX11_feed_48 : decode cX11_feed 48 = .ok (.getfield 14, 3) := by decide +kernel
theorem dX11_feed_51 : decode cX11_feed 51 = .ok (.iload 5, 2) := by decide +kernel
theorem dX11_feed_53 : decode cX11_feed 53 = .ok (.invokevirtual 107, 3) := by decide +kernel
theorem dX11_feed_56 : decode cX11_feed 56 = .ok (.aload_n 0, 1) := by decide +kernel
theorem dX11_feed_57 : decode cX11_feed 57 = .ok (.getfield 14, 3) := by decide +kernel
theorem dX11_feed_60 : decode cX11_feed 60 = .ok (.invokevirtual 110, 3) := by decide +kernel
theorem dX11_feed_63 : decode cX11_feed 63 = .ok (.ireturn, 1) := by decide +kernel
set_option maxRecDepth 20000 in
theorem ggX11_end_X2_cut : GoodIn wsX11_end wsX2_cut := goodIn_r _ [6, 7, 25, 26] (by decide +kernel) (by decide +kernel)
set_option maxRecDepth 20000 in
theorem gX11_end_X2_cut : GoodIn wsX11_end (wsV RX11 114 RX2 yX2_cut wsX2_cut) := goodIn_app (goodIn_of _ (by decide +kernel)) ggX11_end_X2_cut
theorem dX11_end_0 : decode cX11_end 0 = .ok (.aload_n 0, 1) := by decide +kernel
theorem dX11_end_1 : decode cX11_end 1 = .ok (.getfield 14, 3) := by decide +kernel
theorem dX11_end_4 : decode cX11_end 4 = .ok (.iload_n 1, 1) := by decide +kernel
theorem dX11_end_5 : decode cX11_end 5 = .ok (.invokevirtual 114, 3) := by decide +kernel
theorem dX11_end_8 : decode cX11_end 8 = .ok (.ireturn, 1) := by decide +kernel
set_option maxRecDepth 20000 in
theorem ggX11_text_X8_read : GoodIn wsX11_text wsX8_read := goodIn_r _ [16, 17, 18, 19, 20, 21, 22, 23, 24, 25, 26, 27, 28, 29, 30, 31, 32, 33, 34, 35, 36, 37, 38, 39, 40, 41, 42, 43, 44, 45, 46, 47, 48, 49, 50, 51, 52, 53, 54, 55, 56, 57, 58, 59, 60, 61, 62, 63, 64, 65, 66, 67, 68, 69, 70, 71, 72, 73, 74, 75, 76, 77, 78, 79, 80, 81, 82, 83, 84, 85, 86, 87, 88, 89, 90, 91, 92, 93, 94, 95, 96, 97, 98, 99, 100, 101, 102, 103, 104, 105, 106, 107, 108, 109, 110, 111, 112, 113, 114, 115, 116, 117, 118, 119, 120, 121, 122, 123, 124, 125, 126, 127, 128, 129, 130, 131, 132, 133, 134, 135, 136, 137, 138, 139, 140, 141, 142, 143, 144, 145, 146, 147, 148, 149, 150, 151, 152, 153, 154, 155, 156, 157, 15, 158, 159, 160, 161, 162, 163, 164, 165, 166, 167, 168, 169, 170, 171, 172, 173, 174, 175, 176, 177, 178, 179, 180, 181, 182, 183, 184, 185, 186, 187, 188, 189, 190, 191, 192, 193, 194, 195, 196, 197, 198, 199, 200, 201, 202, 203, 204, 205, 206, 207, 208, 209, 210, 211, 212, 213, 214, 215, 216, 217, 218, 219, 220, 221, 222, 223, 224, 225, 226, 227, 228, 229, 230, 231, 232, 233, 234, 235, 236, 237, 238, 239, 240, 241, 242, 243, 244, 245, 246, 247, 248, 249, 250, 251, 252, 253, 254, 255, 256, 257, 258, 259, 260, 261, 262, 263, 264, 265, 266, 267, 268, 269, 270, 271, 272, 273, 274, 275, 276, 277, 278, 279, 280, 394, 395, 396, 397, 398, 399, 400, 401, 402, 403, 404, 405, 406, 407, 408, 409, 410, 411, 412, 413, 414, 415, 416, 417, 418, 419, 420, 421, 422, 423, 424, 425, 426, 427, 428, 429, 430, 431, 432] rfl (by decide +kernel)
set_option maxRecDepth 20000 in
theorem gX11_text_X8_read : GoodIn wsX11_text (wsV RX11 117 RX8 yX8_read wsX8_read) := goodIn_app (goodIn_of _ (by decide +kernel)) ggX11_text_X8_read
set_option maxRecDepth 20000 in
theorem ggX11_text_X2_cut : GoodIn wsX11_text wsX2_cut := goodIn_r _ [284, 69, 431, 432] (by decide +kernel) (by decide +kernel)
set_option maxRecDepth 20000 in
theorem gX11_text_X2_cut : GoodIn wsX11_text (wsV RX11 114 RX2 yX2_cut wsX2_cut) := goodIn_app (goodIn_of _ (by decide +kernel)) ggX11_text_X2_cut
set_option maxRecDepth 20000 in
theorem ggX11_text_X8_exchange : GoodIn wsX11_text wsX8_exchange := goodIn_r _ [288, 17, 394, 395, 396, 397, 398, 399, 400, 401] (by decide +kernel) (by decide +kernel)
set_option maxRecDepth 20000 in
theorem gX11_text_X8_exchange : GoodIn wsX11_text (wsV RX11 130 RX8 yX8_exchange wsX8_exchange) := goodIn_app (goodIn_of _ (by decide +kernel)) ggX11_text_X8_exchange
set_option maxRecDepth 20000 in
theorem ggX11_text_X0_clear : GoodIn wsX11_text wsX0_clear := goodIn_r _ [293, 294, 433, 434, 435, 436] (by decide +kernel) (by decide +kernel)
set_option maxRecDepth 20000 in
theorem gX11_text_X0_clear : GoodIn wsX11_text (wsV RX11 134 RX0 yX0_clear wsX0_clear) := goodIn_app (goodIn_of _ (by decide +kernel)) ggX11_text_X0_clear
set_option maxRecDepth 20000 in
theorem ggX11_text_X3_clear : GoodIn wsX11_text wsX3_clear := goodIn_r _ [299, 300, 301, 437, 438, 439, 440, 441, 442, 443, 444, 445, 446, 447] (by decide +kernel) (by decide +kernel)
set_option maxRecDepth 20000 in
theorem gX11_text_X3_clear : GoodIn wsX11_text (wsV RX11 137 RX3 yX3_clear wsX3_clear) := goodIn_app (goodIn_of _ (by decide +kernel)) ggX11_text_X3_clear
set_option maxRecDepth 20000 in
theorem ggX11_text_X11_lookAgain : GoodIn wsX11_text wsX11_lookAgain := goodIn_r _ [306, 307, 7, 8, 10, 308, 309, 310, 311, 312, 313, 314, 315, 316, 317, 318, 319, 320, 321, 322, 292, 323, 294, 324, 325, 326, 327, 328, 329, 330, 331, 332, 333, 27, 334, 263, 264, 262, 335, 336, 337, 338, 339, 340, 341, 342, 343, 344, 235, 345, 346, 347, 348, 349, 350, 351, 352, 353, 354, 355, 356, 357, 358, 359, 360, 361, 362, 363, 364, 365, 366, 367, 368, 369, 370, 371, 372, 373, 374, 375, 376, 222, 223, 37, 377, 378, 379, 380, 381, 382, 383, 384, 385, 386, 387, 388, 389, 390, 391, 392, 393, 433, 434, 435, 436, 448, 449, 450, 402, 403, 404, 405, 406, 407, 408, 409, 410, 411, 412, 413, 414, 415, 416, 417, 418, 419, 420, 421] rfl (by decide +kernel)
set_option maxRecDepth 20000 in
theorem gX11_text_X11_lookAgain : GoodIn wsX11_text (wsV RX11 138 RX11 yX11_lookAgain wsX11_lookAgain) := goodIn_app (goodIn_of _ (by decide +kernel)) ggX11_text_X11_lookAgain
theorem dX11_text_0 : decode cX11_text 0 = .ok (.aload_n 0, 1) := by decide +kernel
theorem dX11_text_1 : decode cX11_text 1 = .ok (.getfield 23, 3) := by decide +kernel
theorem dX11_text_4 : decode cX11_text 4 = .ok (.invokevirtual 117, 3) := by decide +kernel
theorem dX11_text_7 : decode cX11_text 7 = .ok (.istore_n 1, 1) := by decide +kernel
theorem dX11_text_8 : decode cX11_text 8 = .ok (.aload_n 0, 1) := by decide +kernel
theorem dX11_text_9 : decode cX11_text 9 = .ok (.getfield 14, 3) := by decide +kernel
theorem dX11_text_12 : decode cX11_text 12 = .ok (.iconst 0, 1) := by decide +kernel
theorem dX11_text_13 : decode cX11_text 13 = .ok (.invokevirtual 114, 3) := by decide +kernel
theorem dX11_text_16 : decode cX11_text 16 = .ok (.pop, 1) := by decide +kernel
theorem dX11_text_17 : decode cX11_text 17 = .ok (.aload_n 0, 1) := by decide +kernel
theorem dX11_text_18 : decode cX11_text 18 = .ok (.aload_n 0, 1) := by decide +kernel
theorem dX11_text_19 : decode cX11_text 19 = .ok (.getfield 23, 3) := by decide +kernel
theorem dX11_text_22 : decode cX11_text 22 = .ok (.getfield 121, 3) := by decide +kernel
theorem dX11_text_25 : decode cX11_text 25 = .ok (.putfield 124, 3) := by decide +kernel
theorem dX11_text_28 : decode cX11_text 28 = .ok (.aload_n 0, 1) := by decide +kernel
theorem dX11_text_29 : decode cX11_text 29 = .ok (.aload_n 0, 1) := by decide +kernel
theorem dX11_text_30 : decode cX11_text 30 = .ok (.getfield 23, 3) := by decide +kernel
theorem dX11_text_33 : decode cX11_text 33 = .ok (.getfield 127, 3) := by decide +kernel
theorem dX11_text_36 : decode cX11_text 36 = .ok (.putfield 93, 3) := by decide +kernel
theorem dX11_text_39 : decode cX11_text 39 = .ok (.iload_n 1, 1) := by decide +kernel
theorem dX11_text_40 : decode cX11_text 40 = .ok (.ifCond .ne 5, 3) := by decide +kernel
theorem dX11_text_43 : decode cX11_text 43 = .ok (.iconst (-1), 1) := by decide +kernel
theorem dX11_text_44 : decode cX11_text 44 = .ok (.ireturn, 1) := by decide +kernel
theorem dX11_text_45 : decode cX11_text 45 = .ok (.aload_n 0, 1) := by decide +kernel
theorem dX11_text_46 : decode cX11_text 46 = .ok (.aload_n 0, 1) := by decide +kernel
theorem dX11_text_47 : decode cX11_text 47 = .ok (.getfield 23, 3) := by decide +kernel
theorem dX11_text_50 : decode cX11_text 50 = .ok (.aload_n 0, 1) := by decide +kernel
theorem dX11_text_51 : decode cX11_text 51 = .ok (.getfield 37, 3) := by decide +kernel
theorem dX11_text_54 : decode cX11_text 54 = .ok (.invokevirtual 130, 3) := by decide +kernel
theorem dX11_text_57 : decode cX11_text 57 = .ok (.putfield 37, 3) := by decide +kernel
theorem dX11_text_60 : decode cX11_text 60 = .ok (.aload_n 0, 1) := by decide +kernel
theorem dX11_text_61 : decode cX11_text 61 = .ok (.getfield 30, 3) := by decide +kernel
theorem dX11_text_64 : decode cX11_text 64 = .ok (.invokevirtual 134, 3) := by decide +kernel
theorem dX11_text_67 : decode cX11_text 67 = .ok (.aload_n 0, 1) := by decide +kernel
theorem dX11_text_68 : decode cX11_text 68 = .ok (.getfield 78, 3) := by decide +kernel
theorem dX11_text_71 : decode cX11_text 71 = .ok (.invokevirtual 137, 3) := by decide +kernel
theorem dX11_text_74 : decode cX11_text 74 = .ok (.aload_n 0, 1) := by decide +kernel
theorem dX11_text_75 : decode cX11_text 75 = .ok (.iconst (-1), 1) := by decide +kernel
theorem dX11_text_76 : decode cX11_text 76 = .ok (.putfield 89, 3) := by decide +kernel
theorem dX11_text_79 : decode cX11_text 79 = .ok (.aload_n 0, 1) := by decide +kernel
theorem dX11_text_80 : decode cX11_text 80 = .ok (.invokevirtual 138, 3) := by decide +kernel
theorem dX11_text_83 : decode cX11_text 83 = .ok (.aload_n 0, 1) := by decide +kernel
theorem dX11_text_84 : decode cX11_text 84 = .ok (.getfield 37, 3) := by decide +kernel
theorem dX11_text_87 : decode cX11_text 87 = .ok (.getfield 141, 3) := by decide +kernel
theorem dX11_text_90 : decode cX11_text 90 = .ok (.ireturn, 1) := by decide +kernel
theorem dX11_fault_0 : decode cX11_fault 0 = .ok (.iload_n 1, 1) := by decide +kernel
theorem dX11_fault_1 : decode cX11_fault 1 = .ok (.lookupswitch 37 #[(0, 27), (1, 32)], 27) := by decide +kernel
theorem dX11_fault_28 : decode cX11_fault 28 = .ok (.aload_n 0, 1) := by decide +kernel
theorem dX11_fault_29 : decode cX11_fault 29 = .ok (.getfield 124, 3) := by decide +kernel
theorem dX11_fault_32 : decode cX11_fault 32 = .ok (.ireturn, 1) := by decide +kernel
theorem dX11_fault_33 : decode cX11_fault 33 = .ok (.aload_n 0, 1) := by decide +kernel
theorem dX11_fault_34 : decode cX11_fault 34 = .ok (.getfield 93, 3) := by decide +kernel
theorem dX11_fault_37 : decode cX11_fault 37 = .ok (.ireturn, 1) := by decide +kernel
theorem dX11_fault_38 : decode cX11_fault 38 = .ok (.iconst (-1), 1) := by decide +kernel
theorem dX11_fault_39 : decode cX11_fault 39 = .ok (.ireturn, 1) := by decide +kernel
theorem dX11_has_0 : decode cX11_has 0 = .ok (.iload_n 1, 1) := by decide +kernel
theorem dX11_has_1 : decode cX11_has 1 = .ok (.tableswitch 123 0 7 #[47, 55, 63, 71, 79, 87, 110, 118], 47) := by decide +kernel
theorem dX11_has_48 : decode cX11_has 48 = .ok (.aload_n 0, 1) := by decide +kernel
theorem dX11_has_49 : decode cX11_has 49 = .ok (.getfield 37, 3) := by decide +kernel
theorem dX11_has_52 : decode cX11_has 52 = .ok (.getfield 144, 3) := by decide +kernel
theorem dX11_has_55 : decode cX11_has 55 = .ok (.ireturn, 1) := by decide +kernel
theorem dX11_has_56 : decode cX11_has 56 = .ok (.aload_n 0, 1) := by decide +kernel
theorem dX11_has_57 : decode cX11_has 57 = .ok (.getfield 37, 3) := by decide +kernel
theorem dX11_has_60 : decode cX11_has 60 = .ok (.getfield 147, 3) := by decide +kernel
theorem dX11_has_63 : decode cX11_has 63 = .ok (.ireturn, 1) := by decide +kernel
theorem dX11_has_64 : decode cX11_has 64 = .ok (.aload_n 0, 1) := by decide +kernel
theorem dX11_has_65 : decode cX11_has 65 = .ok (.getfield 37, 3) := by decide +kernel
theorem dX11_has_68 : decode cX11_has 68 = .ok (.getfield 150, 3) := by decide +kernel
theorem dX11_has_71 : decode cX11_has 71 = .ok (.ireturn, 1) := by decide +kernel
theorem dX11_has_72 : decode cX11_has 72 = .ok (.aload_n 0, 1) := by decide +kernel
theorem dX11_has_73 : decode cX11_has 73 = .ok (.getfield 37, 3) := by decide +kernel
theorem dX11_has_76 : decode cX11_has 76 = .ok (.getfield 153, 3) := by decide +kernel
theorem dX11_has_79 : decode cX11_has 79 = .ok (.ireturn, 1) := by decide +kernel
theorem dX11_has_80 : decode cX11_has 80 = .ok (.aload_n 0, 1) := by decide +kernel
theorem dX11_has_81 : decode cX11_has 81 = .ok (.getfield 30, 3) := by decide +kernel
theorem dX11_has_84 : decode cX11_has 84 = .ok (.getfield 156, 3) := by decide +kernel
theorem dX11_has_87 : decode cX11_has 87 = .ok (.ireturn, 1) := by decide +kernel
theorem dX11_has_88 : decode cX11_has 88 = .ok (.aload_n 0, 1) := by decide +kernel
theorem dX11_has_89 : decode cX11_has 89 = .ok (.getfield 89, 3) := by decide +kernel
theorem dX11_has_92 : decode cX11_has 92 = .ok (.iconst (-1), 1) := by decide +kernel
theorem dX11_has_93 : decode cX11_has 93 = .ok (.if_icmp .ne 13, 3) := by decide +kernel
theorem dX11_has_96 : decode cX11_has 96 = .ok (.aload_n 0, 1) := by decide +kernel
theorem dX11_has_97 : decode cX11_has 97 = .ok (.getfield 30, 3) := by decide +kernel
theorem dX11_has_100 : decode cX11_has 100 = .ok (.getfield 156, 3) := by decide +kernel
theorem dX11_has_103 : decode cX11_has 103 = .ok (.goto 7, 3) := by decide +kernel
theorem dX11_has_106 : decode cX11_has 106 = .ok (.aload_n 0, 1) := by decide +kernel
theorem dX11_has_107 : decode cX11_has 107 = .ok (.getfield 89, 3) := by decide +kernel
theorem dX11_has_110 : decode cX11_has 110 = .ok (.ireturn, 1) := by decide +kernel
theorem dX11_has_111 : decode cX11_has 111 = .ok (.aload_n 0, 1) := by decide +kernel
theorem dX11_has_112 : decode cX11_has 112 = .ok (.getfield 78, 3) := by decide +kernel
theorem dX11_has_115 : decode cX11_has 115 = .ok (.getfield 159, 3) := by decide +kernel
theorem dX11_has_118 : decode cX11_has 118 = .ok (.ireturn, 1) := by decide +kernel
theorem dX11_has_119 : decode cX11_has 119 = .ok (.aload_n 0, 1) := by decide +kernel
theorem dX11_has_120 : decode cX11_has 120 = .ok (.getfield 160, 3) := by decide +kernel
theorem dX11_has_123 : decode cX11_has 123 = .ok (.ireturn, 1) := by decide +kernel
theorem dX11_has_124 : decode cX11_has 124 = .ok (.iconst (-1), 1) := by decide +kernel
theorem dX11_has_125 : decode cX11_has 125 = .ok (.ireturn, 1) := by decide +kernel
set_option maxRecDepth 20000 in
theorem ggX11_letter_X11_isSomebody : GoodIn wsX11_letter wsX11_isSomebody := goodIn_r _ [6, 1, 7, 14, 15, 16, 17, 18, 19, 20, 21, 22, 23, 24, 25, 26, 27, 28, 29, 30, 31, 32, 33, 34, 35, 36, 37, 38, 39, 40, 41, 42, 43, 44, 45, 46, 47, 48, 49, 50] (by decide +kernel) (by decide +kernel)
set_option maxRecDepth 20000 in
theorem gX11_letter_X11_isSomebody : GoodIn wsX11_letter (wsV RX11 163 RX11 yX11_isSomebody wsX11_isSomebody) := goodIn_app (goodIn_of _ (by decide +kernel)) ggX11_letter_X11_isSomebody
set_option maxRecDepth 20000 in
theorem ggX11_letter_X6_letterOf : GoodIn wsX11_letter wsX6_letterOf := goodIn_r _ [12, 13, 31, 32, 33, 34, 35, 36, 37, 38, 39, 40, 41, 42, 43, 44, 45, 46, 47, 48, 49, 50] (by decide +kernel) (by decide +kernel)
set_option maxRecDepth 20000 in
theorem gX11_letter_X6_letterOf : GoodIn wsX11_letter (wsV RX11 166 RX6 yX6_letterOf wsX6_letterOf) := goodIn_app (goodIn_of _ (by decide +kernel)) ggX11_letter_X6_letterOf
theorem dX11_letter_0 : decode cX11_letter 0 = .ok (.aload_n 0, 1) := by decide +kernel
theorem dX11_letter_1 : decode cX11_letter 1 = .ok (.iload_n 1, 1) := by decide +kernel
theorem dX11_letter_2 : decode cX11_letter 2 = .ok (.invokevirtual 163, 3) := by decide +kernel
theorem dX11_letter_5 : decode cX11_letter 5 = .ok (.ifCond .eq 15, 3) := by decide +kernel
theorem dX11_letter_8 : decode cX11_letter 8 = .ok (.aload_n 0, 1) := by decide +kernel
theorem dX11_letter_9 : decode cX11_letter 9 = .ok (.getfield 37, 3) := by decide +kernel
theorem dX11_letter_12 : decode cX11_letter 12 = .ok (.iload_n 1, 1) := by decide +kernel
theorem dX11_letter_13 : decode cX11_letter 13 = .ok (.iload_n 2, 1) := by decide +kernel
theorem dX11_letter_14 : decode cX11_letter 14 = .ok (.invokevirtual 166, 3) := by decide +kernel
theorem dX11_letter_17 : decode cX11_letter 17 = .ok (.goto 4, 3) := by decide +kernel
theorem dX11_letter_20 : decode cX11_letter 20 = .ok (.iconst (-1), 1) := by decide +kernel
theorem dX11_letter_21 : decode cX11_letter 21 = .ok (.ireturn, 1) := by decide +kernel
set_option maxRecDepth 20000 in
theorem ggX11_road_X11_isRoad : GoodIn wsX11_road wsX11_isRoad := goodIn_r _ [8, 1, 9, 10, 11, 12, 13, 14, 15, 16, 17, 18, 19, 20, 21, 22, 23, 24, 25, 26, 27, 28, 29, 30, 31, 32, 33, 34, 35, 36, 37, 38, 39, 40, 41, 42, 43, 44, 45, 46] (by decide +kernel) (by decide +kernel)
set_option maxRecDepth 20000 in
theorem gX11_road_X11_isRoad : GoodIn wsX11_road (wsV RX11 170 RX11 yX11_isRoad wsX11_isRoad) := goodIn_app (goodIn_of _ (by decide +kernel)) ggX11_road_X11_isRoad
theorem dX11_road_0 : decode cX11_road 0 = .ok (.aload_n 0, 1) := by decide +kernel
theorem dX11_road_1 : decode cX11_road 1 = .ok (.iload_n 1, 1) := by decide +kernel
theorem dX11_road_2 : decode cX11_road 2 = .ok (.invokevirtual 170, 3) := by decide +kernel
theorem dX11_road_5 : decode cX11_road 5 = .ok (.ifCond .eq 12, 3) := by decide +kernel
theorem dX11_road_8 : decode cX11_road 8 = .ok (.iload_n 2, 1) := by decide +kernel
theorem dX11_road_9 : decode cX11_road 9 = .ok (.ifCond .lt 8, 3) := by decide +kernel
theorem dX11_road_12 : decode cX11_road 12 = .ok (.iload_n 2, 1) := by decide +kernel
theorem dX11_road_13 : decode cX11_road 13 = .ok (.iconst 1, 1) := by decide +kernel
theorem dX11_road_14 : decode cX11_road 14 = .ok (.if_icmp .le 5, 3) := by decide +kernel
theorem dX11_road_17 : decode cX11_road 17 = .ok (.iconst (-1), 1) := by decide +kernel
theorem dX11_road_18 : decode cX11_road 18 = .ok (.ireturn, 1) := by decide +kernel
theorem dX11_road_19 : decode cX11_road 19 = .ok (.iload_n 2, 1) := by decide +kernel
theorem dX11_road_20 : decode cX11_road 20 = .ok (.ifCond .ne 15, 3) := by decide +kernel
theorem dX11_road_23 : decode cX11_road 23 = .ok (.aload_n 0, 1) := by decide +kernel
theorem dX11_road_24 : decode cX11_road 24 = .ok (.getfield 37, 3) := by decide +kernel
theorem dX11_road_27 : decode cX11_road 27 = .ok (.getfield 173, 3) := by decide +kernel
theorem dX11_road_30 : decode cX11_road 30 = .ok (.iload_n 1, 1) := by decide +kernel
theorem dX11_road_31 : decode cX11_road 31 = .ok (.iaload, 1) := by decide +kernel
theorem dX11_road_32 : decode cX11_road 32 = .ok (.goto 12, 3) := by decide +kernel
theorem dX11_road_35 : decode cX11_road 35 = .ok (.aload_n 0, 1) := by decide +kernel
theorem dX11_road_36 : decode cX11_road 36 = .ok (.getfield 37, 3) := by decide +kernel
theorem dX11_road_39 : decode cX11_road 39 = .ok (.getfield 176, 3) := by decide +kernel
theorem dX11_road_42 : decode cX11_road 42 = .ok (.iload_n 1, 1) := by decide +kernel
theorem dX11_road_43 : decode cX11_road 43 = .ok (.iaload, 1) := by decide +kernel
theorem dX11_road_44 : decode cX11_road 44 = .ok (.ireturn, 1) := by decide +kernel
set_option maxRecDepth 20000 in
theorem ggX11_day_X11_lookAgain : GoodIn wsX11_day wsX11_lookAgain := goodIn_r _ [6, 7, 8, 9, 10, 11, 1, 12, 13, 14, 15, 16, 17, 18, 19, 20, 21, 22, 23, 24, 25, 26, 27, 28, 29, 30, 31, 32, 33, 34, 35, 36, 37, 38, 39, 40, 41, 42, 43, 44, 45, 46, 47, 48, 49, 50, 51, 52, 53, 54, 55, 56, 57, 58, 59, 60, 61, 62, 63, 64, 65, 66, 67, 68, 69, 70, 71, 72, 73, 74, 75, 76, 77, 78, 79, 80, 81, 82, 83, 84, 85, 86, 87, 88, 89, 90, 91, 92, 93, 94, 95, 96, 97, 98, 99, 100, 101, 102, 103, 104, 105, 106, 107, 108, 109, 110, 111, 112, 113, 114, 115, 116, 117, 118, 119, 120, 121, 122, 123, 124, 125, 126, 127, 128, 129, 130, 131, 132] rfl (by decide +kernel)
set_option maxRecDepth 20000 in
theorem gX11_day_X11_lookAgain : GoodIn wsX11_day (wsV RX11 138 RX11 yX11_lookAgain wsX11_lookAgain) := goodIn_app (goodIn_of _ (by decide +kernel)) ggX11_day_X11_lookAgain
theorem dX11_day_0 : decode cX11_day 0 = .ok (.iload_n 1, 1) := by decide +kernel
theorem dX11_day_1 : decode cX11_day 1 = .ok (.ifCond .lt 10, 3) := by decide +kernel
theorem dX11_day_4 : decode cX11_day 4 = .ok (.iload_n 1, 1) := by decide +kernel
theorem dX11_day_5 : decode cX11_day 5 = .ok (.sipush 999, 3) := by decide +kernel
theorem dX11_day_8 : decode cX11_day 8 = .ok (.if_icmp .le 5, 3) := by decide +kernel
theorem dX11_day_11 : decode cX11_day 11 = .ok (.iconst 0, 1) := by decide +kernel
theorem dX11_day_12 : decode cX11_day 12 = .ok (.ireturn, 1) := by decide +kernel
theorem dX11_day_13 : decode cX11_day 13 = .ok (.aload_n 0, 1) := by decide +kernel
theorem dX11_day_14 : decode cX11_day 14 = .ok (.iload_n 1, 1) := by decide +kernel
theorem dX11_day_15 : decode cX11_day 15 = .ok (.putfield 160, 3) := by decide +kernel
theorem dX11_day_18 : decode cX11_day 18 = .ok (.aload_n 0, 1) := by decide +kernel
theorem dX11_day_19 : decode cX11_day 19 = .ok (.invokevirtual 138, 3) := by decide +kernel
theorem dX11_day_22 : decode cX11_day 22 = .ok (.iconst 1, 1) := by decide +kernel
theorem dX11_day_23 : decode cX11_day 23 = .ok (.ireturn, 1) := by decide +kernel
set_option maxRecDepth 20000 in
theorem ggX11_worth_X11_isRoad : GoodIn wsX11_worth wsX11_isRoad := goodIn_r _ [7, 8, 9, 99, 100, 101, 102, 103, 104, 105, 106, 107, 108, 109, 110, 111, 112, 113, 114, 115, 116, 117, 118, 119, 120, 121, 122, 123, 124, 125, 126, 127, 128, 129, 130, 131, 132, 133, 134, 135] (by decide +kernel) (by decide +kernel)
set_option maxRecDepth 20000 in
theorem gX11_worth_X11_isRoad : GoodIn wsX11_worth (wsV RX11 170 RX11 yX11_isRoad wsX11_isRoad) := goodIn_app (goodIn_of _ (by decide +kernel)) ggX11_worth_X11_isRoad
set_option maxRecDepth 20000 in
theorem ggX11_worth_X0_add : GoodIn wsX11_worth wsX0_add := goodIn_r _ [14, 15, 16, 17, 18, 136, 137, 138, 139] (by decide +kernel) (by decide +kernel)
set_option maxRecDepth 20000 in
theorem gX11_worth_X0_add : GoodIn wsX11_worth (wsV RX11 180 RX0 yX0_add wsX0_add) := goodIn_app (goodIn_of _ (by decide +kernel)) ggX11_worth_X0_add
set_option maxRecDepth 20000 in
theorem ggX11_worth_X11_lookAgain : GoodIn wsX11_worth wsX11_lookAgain := goodIn_r _ [22, 23, 8, 2, 24, 25, 26, 27, 28, 29, 30, 31, 32, 33, 34, 35, 36, 37, 38, 39, 13, 40, 15, 41, 42, 43, 44, 18, 16, 17, 45, 46, 47, 48, 49, 50, 51, 52, 53, 54, 55, 56, 57, 58, 59, 60, 61, 62, 63, 64, 65, 66, 67, 68, 69, 70, 71, 72, 73, 74, 75, 76, 77, 78, 79, 80, 81, 82, 83, 84, 85, 86, 87, 88, 89, 90, 91, 92, 93, 94, 95, 96, 97, 98, 99, 100, 101, 102, 103, 104, 105, 106, 107, 108, 109, 110, 111, 112, 113, 114, 115, 136, 137, 138, 139, 140, 141, 142, 116, 117, 118, 119, 120, 121, 122, 123, 124, 125, 126, 127, 128, 129, 130, 131, 132, 133, 134, 135] rfl (by decide +kernel)
set_option maxRecDepth 20000 in
theorem gX11_worth_X11_lookAgain : GoodIn wsX11_worth (wsV RX11 138 RX11 yX11_lookAgain wsX11_lookAgain) := goodIn_app (goodIn_of _ (by decide +kernel)) ggX11_worth_X11_lookAgain
theorem dX11_worth_0 : decode cX11_worth 0 = .ok (.aload_n 0, 1) := by decide +kernel
theorem dX11_worth_1 : decode cX11_worth 1 = .ok (.iload_n 1, 1) := by decide +kernel
theorem dX11_worth_2 : decode cX11_worth 2 = .ok (.invokevirtual 170, 3) := by decide +kernel
theorem dX11_worth_5 : decode cX11_worth 5 = .ok (.ifCond .eq 15, 3) := by decide +kernel
theorem dX11_worth_8 : decode cX11_worth 8 = .ok (.iload_n 2, 1) := by decide +kernel
theorem dX11_worth_9 : decode cX11_worth 9 = .ok (.bipush (-2), 2) := by decide +kernel
theorem dX11_worth_11 : decode cX11_worth 11 = .ok (.if_icmp .lt 9, 3) := by decide +kernel
theorem dX11_worth_14 : decode cX11_worth 14 = .ok (.iload_n 2, 1) := by decide +kernel
theorem dX11_worth_15 : decode cX11_worth 15 = .ok (.ldc 179, 2) := by decide +kernel
theorem dX11_worth_17 : decode cX11_worth 17 = .ok (.if_icmp .le 5, 3) := by decide +kernel
theorem dX11_worth_20 : decode cX11_worth 20 = .ok (.iconst (-1), 1) := by decide +kernel
theorem dX11_worth_21 : decode cX11_worth 21 = .ok (.ireturn, 1) := by decide +kernel
theorem dX11_worth_22 : decode cX11_worth 22 = .ok (.aload_n 0, 1) := by decide +kernel
theorem dX11_worth_23 : decode cX11_worth 23 = .ok (.getfield 30, 3) := by decide +kernel
theorem dX11_worth_26 : decode cX11_worth 26 = .ok (.iload_n 1, 1) := by decide +kernel
theorem dX11_worth_27 : decode cX11_worth 27 = .ok (.iload_n 2, 1) := by decide +kernel
theorem dX11_worth_28 : decode cX11_worth 28 = .ok (.invokevirtual 180, 3) := by decide +kernel
theorem dX11_worth_31 : decode cX11_worth 31 = .ok (.istore_n 3, 1) := by decide +kernel
theorem dX11_worth_32 : decode cX11_worth 32 = .ok (.aload_n 0, 1) := by decide +kernel
theorem dX11_worth_33 : decode cX11_worth 33 = .ok (.invokevirtual 138, 3) := by decide +kernel
theorem dX11_worth_36 : decode cX11_worth 36 = .ok (.iload_n 3, 1) := by decide +kernel
theorem dX11_worth_37 : decode cX11_worth 37 = .ok (.ireturn, 1) := by decide +kernel
set_option maxRecDepth 20000 in
theorem ggX11_annul_X0_annulled : GoodIn wsX11_annul wsX0_annulled := goodIn_r _ [6, 7, 8, 9, 10, 11, 12, 5, 13, 14, 114, 115, 116, 117] (by decide +kernel) (by decide +kernel)
set_option maxRecDepth 20000 in
theorem gX11_annul_X0_annulled : GoodIn wsX11_annul (wsV RX11 183 RX0 yX0_annulled wsX0_annulled) := goodIn_app (goodIn_of _ (by decide +kernel)) ggX11_annul_X0_annulled
set_option maxRecDepth 20000 in
theorem ggX11_annul_X11_lookAgain : GoodIn wsX11_annul wsX11_lookAgain := goodIn_r _ [19, 20, 21, 1, 22, 23, 24, 25, 26, 27, 28, 29, 30, 31, 32, 33, 34, 35, 36, 37, 5, 38, 7, 39, 40, 41, 42, 9, 8, 14, 43, 44, 45, 46, 47, 48, 49, 50, 51, 52, 53, 54, 55, 56, 57, 58, 59, 60, 61, 62, 63, 64, 65, 66, 67, 68, 69, 70, 71, 72, 73, 74, 75, 76, 77, 78, 79, 80, 81, 82, 83, 84, 85, 86, 87, 88, 89, 90, 91, 92, 93, 94, 95, 96, 97, 98, 99, 100, 101, 102, 103, 104, 105, 106, 107, 108, 109, 110, 111, 112, 113, 114, 115, 116, 117, 118, 119, 120, 121, 122, 123, 124, 125, 126, 127, 128, 129, 130, 131, 132, 133, 134, 135, 136, 137, 138, 139, 140] rfl (by decide +kernel)
set_option maxRecDepth 20000 in
theorem gX11_annul_X11_lookAgain : GoodIn wsX11_annul (wsV RX11 138 RX11 yX11_lookAgain wsX11_lookAgain) := goodIn_app (goodIn_of _ (by decide +kernel)) ggX11_annul_X11_lookAgain
theorem dX11_annul_0 : decode cX11_annul 0 = .ok (.aload_n 0, 1) := by decide +kernel
theorem dX11_annul_1 : decode cX11_annul 1 = .ok (.getfield 30, 3) := by decide +kernel
theorem dX11_annul_4 : decode cX11_annul 4 = .ok (.iload_n 1, 1) := by decide +kernel
theorem dX11_annul_5 : decode cX11_annul 5 = .ok (.invokevirtual 183, 3) := by decide +kernel
theorem dX11_annul_8 : decode cX11_annul 8 = .ok (.istore_n 2, 1) := by decide +kernel
theorem dX11_annul_9 : decode cX11_annul 9 = .ok (.aload_n 0, 1) := by decide +kernel
theorem dX11_annul_10 : decode cX11_annul 10 = .ok (.invokevirtual 138, 3) := by decide +kernel
theorem dX11_annul_13 : decode cX11_annul 13 = .ok (.iload_n 2, 1) := by decide +kernel
theorem dX11_annul_14 : decode cX11_annul 14 = .ok (.ireturn, 1) := by decide +kernel
set_option maxRecDepth 20000 in
theorem ggX11_as_X11_lookAgain : GoodIn wsX11_as wsX11_lookAgain := goodIn_r _ [8, 9, 10, 1, 3, 2, 11, 12, 13, 14, 15, 16, 17, 18, 19, 20, 21, 22, 23, 24, 25, 26, 27, 28, 29, 30, 31, 32, 33, 34, 35, 36, 37, 38, 39, 40, 41, 42, 43, 44, 45, 46, 47, 48, 49, 50, 51, 52, 53, 54, 55, 56, 57, 58, 59, 60, 61, 62, 63, 64, 65, 66, 67, 68, 69, 70, 71, 72, 73, 74, 75, 76, 77, 78, 79, 80, 81, 82, 83, 84, 85, 86, 87, 88, 89, 90, 91, 92, 93, 94, 95, 96, 97, 98, 99, 100, 101, 102, 103, 104, 105, 106, 107, 108, 109, 110, 111, 112, 113, 114, 115, 116, 117, 118, 119, 120, 121, 122, 123, 124, 125, 126, 127, 128, 129, 130, 131, 132] rfl (by decide +kernel)
set_option maxRecDepth 20000 in
theorem gX11_as_X11_lookAgain : GoodIn wsX11_as (wsV RX11 138 RX11 yX11_lookAgain wsX11_lookAgain) := goodIn_app (goodIn_of _ (by decide +kernel)) ggX11_as_X11_lookAgain
theorem dX11_as_0 : decode cX11_as 0 = .ok (.iload_n 1, 1) := by decide +kernel
theorem dX11_as_1 : decode cX11_as 1 = .ok (.iconst (-1), 1) := by decide +kernel
theorem dX11_as_2 : decode cX11_as 2 = .ok (.if_icmp .lt 14, 3) := by decide +kernel
theorem dX11_as_5 : decode cX11_as 5 = .ok (.iload_n 1, 1) := by decide +kernel
theorem dX11_as_6 : decode cX11_as 6 = .ok (.aload_n 0, 1) := by decide +kernel
theorem dX11_as_7 : decode cX11_as 7 = .ok (.getfield 30, 3) := by decide +kernel
theorem dX11_as_10 : decode cX11_as 10 = .ok (.getfield 156, 3) := by decide +kernel
theorem dX11_as_13 : decode cX11_as 13 = .ok (.if_icmp .le 5, 3) := by decide +kernel
theorem dX11_as_16 : decode cX11_as 16 = .ok (.iconst 0, 1) := by decide +kernel
theorem dX11_as_17 : decode cX11_as 17 = .ok (.ireturn, 1) := by decide +kernel
theorem dX11_as_18 : decode cX11_as 18 = .ok (.aload_n 0, 1) := by decide +kernel
theorem dX11_as_19 : decode cX11_as 19 = .ok (.iload_n 1, 1) := by decide +kernel
theorem dX11_as_20 : decode cX11_as 20 = .ok (.putfield 89, 3) := by decide +kernel
theorem dX11_as_23 : decode cX11_as 23 = .ok (.aload_n 0, 1) := by decide +kernel
theorem dX11_as_24 : decode cX11_as 24 = .ok (.invokevirtual 138, 3) := by decide +kernel
theorem dX11_as_27 : decode cX11_as 27 = .ok (.iconst 1, 1) := by decide +kernel
theorem dX11_as_28 : decode cX11_as 28 = .ok (.ireturn, 1) := by decide +kernel
set_option maxRecDepth 20000 in
theorem ggX11_made_X11_isRoad : GoodIn wsX11_made wsX11_isRoad := goodIn_r _ [15, 9, 16, 27, 28, 29, 30, 31, 32, 33, 34, 35, 36, 37, 38, 39, 40, 41, 42, 43, 47, 48, 49, 50, 51, 52, 53, 54, 55, 56, 57, 58, 59, 60, 61, 62, 63, 64, 65, 66] (by decide +kernel) (by decide +kernel)
set_option maxRecDepth 20000 in
theorem gX11_made_X11_isRoad : GoodIn wsX11_made (wsV RX11 170 RX11 yX11_isRoad wsX11_isRoad) := goodIn_app (goodIn_of _ (by decide +kernel)) ggX11_made_X11_isRoad
set_option maxRecDepth 20000 in
theorem ggX11_made_X10_gainOf : GoodIn wsX11_made wsX10_gainOf := goodIn_r _ [21, 22, 23, 24, 25, 26, 44, 45, 46, 47, 48, 49, 50, 51, 52, 53, 54, 55, 56, 57, 58, 59, 60, 61, 62, 63, 64, 65, 66] (by decide +kernel) (by decide +kernel)
set_option maxRecDepth 20000 in
theorem gX11_made_X10_gainOf : GoodIn wsX11_made (wsV RX11 195 RX10 yX10_gainOf wsX10_gainOf) := goodIn_app (goodIn_of _ (by decide +kernel)) ggX11_made_X10_gainOf
theorem dX11_made_0 : decode cX11_made 0 = .ok (.aload_n 0, 1) := by decide +kernel
theorem dX11_made_1 : decode cX11_made 1 = .ok (.iload_n 1, 1) := by decide +kernel
theorem dX11_made_2 : decode cX11_made 2 = .ok (.invokevirtual 170, 3) := by decide +kernel
theorem dX11_made_5 : decode cX11_made 5 = .ok (.ifCond .eq 15, 3) := by decide +kernel
theorem dX11_made_8 : decode cX11_made 8 = .ok (.aload_n 0, 1) := by decide +kernel
theorem dX11_made_9 : decode cX11_made 9 = .ok (.getfield 46, 3) := by decide +kernel
theorem dX11_made_12 : decode cX11_made 12 = .ok (.getfield 187, 3) := by decide +kernel
theorem dX11_made_15 : decode cX11_made 15 = .ok (.iload_n 1, 1) := by decide +kernel
theorem dX11_made_16 : decode cX11_made 16 = .ok (.baload, 1) := by decide +kernel
theorem dX11_made_17 : decode cX11_made 17 = .ok (.ifCond .ne 6, 3) := by decide +kernel
theorem dX11_made_20 : decode cX11_made 20 = .ok (.ldc 191, 2) := by decide +kernel
theorem dX11_made_22 : decode cX11_made 22 = .ok (.ireturn, 1) := by decide +kernel
theorem dX11_made_23 : decode cX11_made 23 = .ok (.iload_n 2, 1) := by decide +kernel
theorem dX11_made_24 : decode cX11_made 24 = .ok (.tableswitch 61 0 2 #[28, 38, 51], 28) := by decide +kernel
theorem dX11_made_52 : decode cX11_made 52 = .ok (.aload_n 0, 1) := by decide +kernel
theorem dX11_made_53 : decode cX11_made 53 = .ok (.getfield 46, 3) := by decide +kernel
theorem dX11_made_56 : decode cX11_made 56 = .ok (.getfield 192, 3) := by decide +kernel
theorem dX11_made_59 : decode cX11_made 59 = .ok (.iload_n 1, 1) := by decide +kernel
theorem dX11_made_60 : decode cX11_made 60 = .ok (.iaload, 1) := by decide +kernel
theorem dX11_made_61 : decode cX11_made 61 = .ok (.ireturn, 1) := by decide +kernel
theorem dX11_made_62 : decode cX11_made 62 = .ok (.iconst 0, 1) := by decide +kernel
theorem dX11_made_63 : decode cX11_made 63 = .ok (.aload_n 0, 1) := by decide +kernel
theorem dX11_made_64 : decode cX11_made 64 = .ok (.getfield 46, 3) := by decide +kernel
theorem dX11_made_67 : decode cX11_made 67 = .ok (.iload_n 1, 1) := by decide +kernel
theorem dX11_made_68 : decode cX11_made 68 = .ok (.invokevirtual 195, 3) := by decide +kernel
theorem dX11_made_71 : decode cX11_made 71 = .ok (.invokestatic 198, 3) := by decide +kernel
theorem dX11_made_74 : decode cX11_made 74 = .ok (.ireturn, 1) := by decide +kernel
theorem dX11_made_75 : decode cX11_made 75 = .ok (.aload_n 0, 1) := by decide +kernel
theorem dX11_made_76 : decode cX11_made 76 = .ok (.getfield 37, 3) := by decide +kernel
theorem dX11_made_79 : decode cX11_made 79 = .ok (.getfield 203, 3) := by decide +kernel
theorem dX11_made_82 : decode cX11_made 82 = .ok (.iload_n 1, 1) := by decide +kernel
theorem dX11_made_83 : decode cX11_made 83 = .ok (.iaload, 1) := by decide +kernel
theorem dX11_made_84 : decode cX11_made 84 = .ok (.ireturn, 1) := by decide +kernel
theorem dX11_made_85 : decode cX11_made 85 = .ok (.ldc 191, 2) := by decide +kernel
theorem dX11_made_87 : decode cX11_made 87 = .ok (.ireturn, 1) := by decide +kernel
set_option maxRecDepth 20000 in
theorem ggX11_most_X11_planNow : GoodIn wsX11_most wsX11_planNow := goodIn_r _ [6, 7, 8, 9, 10, 11, 12, 13, 14, 15, 16, 17, 18, 19, 20, 21, 22, 23, 24, 25, 26, 27, 28, 29, 30, 31, 32, 33, 34, 35, 36, 37, 38, 39, 40, 41, 42, 43, 44, 45, 46, 47, 48, 49, 50, 51, 52, 53, 54, 55, 56, 57, 58, 59, 60, 61, 62, 63, 64, 65, 66, 67, 68, 69, 70, 71, 72, 73, 74, 75, 76, 77, 78, 133, 134, 135, 136, 137, 138, 139, 140, 141, 142, 143, 144, 145, 146, 147, 148, 149, 150, 151, 152, 153, 154, 155, 156, 157, 158, 159, 160, 161, 162, 163, 164, 165, 166, 167, 168, 169, 170, 171, 172, 173, 174, 175, 176, 177, 178, 179, 180, 181, 182, 183] rfl (by decide +kernel)
set_option maxRecDepth 20000 in
theorem gX11_most_X11_planNow : GoodIn wsX11_most (wsV RX11 206 RX11 yX11_planNow wsX11_planNow) := goodIn_app (goodIn_of _ (by decide +kernel)) ggX11_most_X11_planNow
set_option maxRecDepth 20000 in
theorem ggX11_most_X7_twiceWithHalves : GoodIn wsX11_most wsX7_twiceWithHalves := goodIn_r _ [82, 25, 83, 16, 24, 17, 84, 85, 19, 86, 87, 88, 89, 90, 91, 92, 93, 22, 94, 95, 96, 97, 98, 99, 100, 101, 102, 103, 104, 105, 106, 107, 108, 109, 110, 111, 112, 113, 114, 115, 116, 117, 118, 119, 120, 121, 122, 123, 124, 125, 126, 127, 150, 151, 152, 153, 154, 155, 156, 157, 158, 159, 160, 164, 165, 166, 167, 168, 169, 170, 171, 172, 173, 174, 175, 176, 177, 178, 179, 180, 181, 182, 183, 184, 185, 186, 187, 188, 189, 190, 191] rfl (by decide +kernel)
set_option maxRecDepth 20000 in
theorem gX11_most_X7_twiceWithHalves : GoodIn wsX11_most (wsV RX11 210 RX7 yX7_twiceWithHalves wsX7_twiceWithHalves) := goodIn_app (goodIn_of _ (by decide +kernel)) ggX11_most_X7_twiceWithHalves
set_option maxRecDepth 20000 in
theorem ggX11_most_X6_everybody : GoodIn wsX11_most wsX6_everybody := goodIn_r _ [73, 74, 164, 165, 166, 167, 168, 169, 170, 171, 172, 173, 174, 175, 176, 177, 178, 179, 180, 181, 182, 183] (by decide +kernel) (by decide +kernel)
set_option maxRecDepth 20000 in
theorem gX11_most_X6_everybody : GoodIn wsX11_most (wsV RX11 213 RX6 yX6_everybody wsX6_everybody) := goodIn_app (goodIn_of _ (by decide +kernel)) ggX11_most_X6_everybody
set_option maxRecDepth 20000 in
theorem ggX11_most_X7_mostOf : GoodIn wsX11_most wsX7_mostOf := goodIn_r _ [132, 54, 150, 151, 152, 153, 154, 155, 156, 157, 158, 159, 160] (by decide +kernel) (by decide +kernel)
set_option maxRecDepth 20000 in
theorem gX11_most_X7_mostOf : GoodIn wsX11_most (wsV RX11 216 RX7 yX7_mostOf wsX7_mostOf) := goodIn_app (goodIn_of _ (by decide +kernel)) ggX11_most_X7_mostOf
theorem dX11_most_0 : decode cX11_most 0 = .ok (.aload_n 0, 1) := by decide +kernel
theorem dX11_most_1 : decode cX11_most 1 = .ok (.invokevirtual 206, 3) := by decide +kernel
theorem dX11_most_4 : decode cX11_most 4 = .ok (.astore_n 2, 1) := by decide +kernel
theorem dX11_most_5 : decode cX11_most 5 = .ok (.iload_n 1, 1) := by decide +kernel
theorem dX11_most_6 : decode cX11_most 6 = .ok (.ifCond .eq 10, 3) := by decide +kernel
theorem dX11_most_9 : decode cX11_most 9 = .ok (.aload_n 2, 1) := by decide +kernel
theorem dX11_most_10 : decode cX11_most 10 = .ok (.invokevirtual 210, 3) := by decide +kernel
theorem dX11_most_13 : decode cX11_most 13 = .ok (.goto 14, 3) := by decide +kernel
theorem dX11_most_16 : decode cX11_most 16 = .ok (.aload_n 2, 1) := by decide +kernel
theorem dX11_most_17 : decode cX11_most 17 = .ok (.aload_n 0, 1) := by decide +kernel
theorem dX11_most_18 : decode cX11_most 18 = .ok (.getfield 37, 3) := by decide +kernel
theorem dX11_most_21 : decode cX11_most 21 = .ok (.invokevirtual 213, 3) := by decide +kernel
theorem dX11_most_24 : decode cX11_most 24 = .ok (.invokevirtual 216, 3) := by decide +kernel
theorem dX11_most_27 : decode cX11_most 27 = .ok (.ireturn, 1) := by decide +kernel
set_option maxRecDepth 20000 in
theorem ggX11_row_X11_planNow : GoodIn wsX11_row wsX11_planNow := goodIn_r _ [7, 8, 9, 10, 11, 12, 13, 14, 15, 16, 17, 18, 19, 20, 21, 22, 23, 24, 25, 26, 27, 28, 29, 30, 31, 32, 33, 34, 35, 36, 37, 38, 39, 40, 41, 42, 43, 44, 45, 46, 47, 48, 49, 50, 51, 52, 53, 54, 55, 56, 57, 58, 59, 60, 61, 62, 63, 64, 65, 66, 67, 68, 69, 70, 71, 72, 73, 74, 75, 76, 77, 78, 79, 91, 92, 93, 94, 95, 96, 97, 98, 99, 100, 101, 102, 103, 104, 105, 106, 107, 80, 81, 82, 83, 84, 85, 86, 87, 88, 89, 90, 108, 109, 110, 111, 112, 113, 114, 115, 116, 117, 118, 119, 120, 121, 122, 123, 124, 125, 126, 127, 128, 129, 130] rfl (by decide +kernel)
set_option maxRecDepth 20000 in
theorem gX11_row_X11_planNow : GoodIn wsX11_row (wsV RX11 206 RX11 yX11_planNow wsX11_planNow) := goodIn_app (goodIn_of _ (by decide +kernel)) ggX11_row_X11_planNow
theorem dX11_row_0 : decode cX11_row 0 = .ok (.aload_n 0, 1) := by decide +kernel
theorem dX11_row_1 : decode cX11_row 1 = .ok (.invokevirtual 206, 3) := by decide +kernel
theorem dX11_row_4 : decode cX11_row 4 = .ok (.astore_n 2, 1) := by decide +kernel
theorem dX11_row_5 : decode cX11_row 5 = .ok (.iload_n 1, 1) := by decide +kernel
theorem dX11_row_6 : decode cX11_row 6 = .ok (.ifCond .lt 20, 3) := by decide +kernel
theorem dX11_row_9 : decode cX11_row 9 = .ok (.iload_n 1, 1) := by decide +kernel
theorem dX11_row_10 : decode cX11_row 10 = .ok (.aload_n 2, 1) := by decide +kernel
theorem dX11_row_11 : decode cX11_row 11 = .ok (.getfield 219, 3) := by decide +kernel
theorem dX11_row_14 : decode cX11_row 14 = .ok (.if_icmp .ge 12, 3) := by decide +kernel
theorem dX11_row_17 : decode cX11_row 17 = .ok (.aload_n 2, 1) := by decide +kernel
theorem dX11_row_18 : decode cX11_row 18 = .ok (.getfield 222, 3) := by decide +kernel
theorem dX11_row_21 : decode cX11_row 21 = .ok (.iload_n 1, 1) := by decide +kernel
theorem dX11_row_22 : decode cX11_row 22 = .ok (.iaload, 1) := by decide +kernel
theorem dX11_row_23 : decode cX11_row 23 = .ok (.goto 4, 3) := by decide +kernel
theorem dX11_row_26 : decode cX11_row 26 = .ok (.iconst (-1), 1) := by decide +kernel
theorem dX11_row_27 : decode cX11_row 27 = .ok (.ireturn, 1) := by decide +kernel
set_option maxRecDepth 20000 in
theorem ggX11_end__X11_planNow : GoodIn wsX11_end_ wsX11_planNow := goodIn_r _ [5, 6, 7, 8, 9, 10, 11, 12, 13, 14, 15, 16, 17, 18, 19, 20, 21, 22, 23, 24, 25, 26, 27, 28, 29, 30, 31, 32, 33, 34, 35, 36, 37, 38, 39, 40, 41, 42, 43, 44, 45, 46, 47, 48, 49, 50, 51, 52, 53, 54, 55, 56, 57, 58, 59, 60, 61, 62, 63, 64, 65, 66, 67, 68, 69, 70, 71, 72, 73, 74, 75, 76, 77, 181, 182, 183, 184, 185, 186, 187, 188, 189, 190, 191, 192, 193, 194, 195, 196, 197, 198, 199, 200, 201, 202, 203, 204, 205, 206, 207, 208, 209, 210, 211, 212, 213, 214, 215, 216, 217, 218, 219, 220, 221, 222, 223, 224, 225, 226, 227, 228, 229, 230, 231] rfl (by decide +kernel)
set_option maxRecDepth 20000 in
theorem gX11_end__X11_planNow : GoodIn wsX11_end_ (wsV RX11 206 RX11 yX11_planNow wsX11_planNow) := goodIn_app (goodIn_of _ (by decide +kernel)) ggX11_end__X11_planNow
set_option maxRecDepth 20000 in
theorem ggX11_end__X11_isSomebody : GoodIn wsX11_end_ wsX11_isSomebody := goodIn_r _ [81, 82, 83, 181, 182, 183, 184, 185, 186, 187, 188, 189, 190, 191, 192, 193, 194, 195, 196, 197, 212, 213, 214, 215, 216, 217, 218, 219, 220, 221, 222, 223, 224, 225, 226, 227, 228, 229, 230, 231] (by decide +kernel) (by decide +kernel)
set_option maxRecDepth 20000 in
theorem gX11_end__X11_isSomebody : GoodIn wsX11_end_ (wsV RX11 163 RX11 yX11_isSomebody wsX11_isSomebody) := goodIn_app (goodIn_of _ (by decide +kernel)) ggX11_end__X11_isSomebody
set_option maxRecDepth 20000 in
theorem ggX11_end__X7_hasEnds : GoodIn wsX11_end_ wsX7_hasEnds := goodIn_r _ [87, 53, 15, 69, 70, 71, 39, 72, 73, 88, 89, 90, 11, 91, 24, 92, 23, 16, 93, 94, 18, 95, 96, 97, 98, 99, 100, 101, 102, 21, 103, 104, 105, 106, 107, 108, 109, 110, 111, 112, 113, 114, 115, 116, 117, 118, 119, 120, 121, 122, 123, 124, 125, 126, 127, 128, 129, 130, 131, 132, 133, 134, 135, 136, 198, 199, 200, 201, 202, 203, 204, 205, 206, 207, 208, 212, 213, 214, 215, 216, 217, 218, 219, 220, 221, 222, 223, 224, 225, 226, 227, 228, 229, 230, 231, 232, 233, 234, 235, 236, 237, 238, 239] rfl (by decide +kernel)
set_option maxRecDepth 20000 in
theorem gX11_end__X7_hasEnds : GoodIn wsX11_end_ (wsV RX11 225 RX7 yX7_hasEnds wsX7_hasEnds) := goodIn_app (goodIn_of _ (by decide +kernel)) ggX11_end__X7_hasEnds
set_option maxRecDepth 20000 in
theorem ggX11_end__X7_endOf : GoodIn wsX11_end_ wsX7_endOf := goodIn_r _ [140, 141, 15, 142, 143, 144, 145, 11, 146, 25, 23, 16, 18, 93, 94, 67, 68, 147, 148, 149, 150, 151, 152, 102, 21, 103, 153, 154, 155, 156, 107, 108, 109, 69, 70, 71, 39, 72, 73, 157, 158, 159, 160, 161, 162, 163, 164, 74, 75, 76, 77, 42, 43, 165, 166, 167, 168, 169, 170, 171, 172, 173, 174, 175, 176, 177, 178, 179, 180, 198, 199, 200, 201, 202, 203, 204, 205, 206, 207, 208, 212, 213, 214, 215, 216, 217, 218, 219, 220, 221, 222, 223, 224, 225, 226, 227, 228, 229, 230, 231, 240, 241] rfl (by decide +kernel)
set_option maxRecDepth 20000 in
theorem gX11_end__X7_endOf : GoodIn wsX11_end_ (wsV RX11 228 RX7 yX7_endOf wsX7_endOf) := goodIn_app (goodIn_of _ (by decide +kernel)) ggX11_end__X7_endOf
theorem dX11_end__0 : decode cX11_end_ 0 = .ok (.aload_n 0, 1) := by decide +kernel
theorem dX11_end__1 : decode cX11_end_ 1 = .ok (.invokevirtual 206, 3) := by decide +kernel
theorem dX11_end__4 : decode cX11_end_ 4 = .ok (.astore_n 3, 1) := by decide +kernel
theorem dX11_end__5 : decode cX11_end_ 5 = .ok (.aload_n 0, 1) := by decide +kernel
theorem dX11_end__6 : decode cX11_end_ 6 = .ok (.iload_n 1, 1) := by decide +kernel
theorem dX11_end__7 : decode cX11_end_ 7 = .ok (.invokevirtual 163, 3) := by decide +kernel
theorem dX11_end__10 : decode cX11_end_ 10 = .ok (.ifCond .eq 19, 3) := by decide +kernel
theorem dX11_end__13 : decode cX11_end_ 13 = .ok (.aload_n 3, 1) := by decide +kernel
theorem dX11_end__14 : decode cX11_end_ 14 = .ok (.invokevirtual 225, 3) := by decide +kernel
theorem dX11_end__17 : decode cX11_end_ 17 = .ok (.ifCond .eq 12, 3) := by decide +kernel
theorem dX11_end__20 : decode cX11_end_ 20 = .ok (.aload_n 3, 1) := by decide +kernel
theorem dX11_end__21 : decode cX11_end_ 21 = .ok (.iload_n 1, 1) := by decide +kernel
theorem dX11_end__22 : decode cX11_end_ 22 = .ok (.iload_n 2, 1) := by decide +kernel
theorem dX11_end__23 : decode cX11_end_ 23 = .ok (.invokevirtual 228, 3) := by decide +kernel
theorem dX11_end__26 : decode cX11_end_ 26 = .ok (.goto 4, 3) := by decide +kernel
theorem dX11_end__29 : decode cX11_end_ 29 = .ok (.iconst (-1), 1) := by decide +kernel
theorem dX11_end__30 : decode cX11_end_ 30 = .ok (.ireturn, 1) := by decide +kernel
set_option maxRecDepth 20000 in
theorem ggX11_of_X6_everybody : GoodIn wsX11_of wsX6_everybody := goodIn_r _ [6, 7, 101, 102, 103, 104, 105, 106, 107, 108, 109, 110, 111, 112, 113, 114, 115, 116, 117, 118, 119, 120] (by decide +kernel) (by decide +kernel)
set_option maxRecDepth 20000 in
theorem gX11_of_X6_everybody : GoodIn wsX11_of (wsV RX11 213 RX6 yX6_everybody wsX6_everybody) := goodIn_app (goodIn_of _ (by decide +kernel)) ggX11_of_X6_everybody
set_option maxRecDepth 20000 in
theorem ggX11_of_X11_planNow : GoodIn wsX11_of wsX11_planNow := goodIn_r _ [12, 13, 14, 15, 16, 17, 18, 19, 20, 21, 22, 23, 24, 25, 26, 27, 28, 29, 30, 31, 32, 33, 34, 35, 36, 37, 38, 39, 40, 41, 42, 43, 44, 45, 5, 46, 47, 48, 49, 50, 51, 52, 53, 54, 55, 56, 57, 58, 59, 60, 61, 62, 63, 64, 65, 66, 67, 68, 69, 70, 71, 72, 73, 74, 75, 3, 4, 6, 7, 76, 77, 78, 79, 84, 85, 86, 87, 88, 89, 90, 91, 92, 93, 94, 95, 96, 97, 98, 99, 100, 121, 122, 123, 124, 125, 126, 127, 128, 129, 130, 131, 132, 133, 134, 101, 102, 103, 104, 105, 106, 107, 108, 109, 110, 111, 112, 113, 114, 115, 116, 117, 118, 119, 120] rfl (by decide +kernel)
set_option maxRecDepth 20000 in
theorem gX11_of_X11_planNow : GoodIn wsX11_of (wsV RX11 206 RX11 yX11_planNow wsX11_planNow) := goodIn_app (goodIn_of _ (by decide +kernel)) ggX11_of_X11_planNow
set_option maxRecDepth 20000 in
theorem ggX11_of_X7_mostOf : GoodIn wsX11_of wsX7_mostOf := goodIn_r _ [83, 59, 121, 122, 123, 124, 125, 126, 127, 128, 129, 130, 131] (by decide +kernel) (by decide +kernel)
set_option maxRecDepth 20000 in
theorem gX11_of_X7_mostOf : GoodIn wsX11_of (wsV RX11 216 RX7 yX7_mostOf wsX7_mostOf) := goodIn_app (goodIn_of _ (by decide +kernel)) ggX11_of_X7_mostOf
theorem dX11_of_0 : decode cX11_of 0 = .ok (.iload_n 1, 1) := by decide +kernel
theorem dX11_of_1 : decode cX11_of 1 = .ok (.ifCond .lt 25, 3) := by decide +kernel
theorem dX11_of_4 : decode cX11_of 4 = .ok (.iload_n 1, 1) := by decide +kernel
theorem dX11_of_5 : decode cX11_of 5 = .ok (.aload_n 0, 1) := by decide +kernel
theorem dX11_of_6 : decode cX11_of 6 = .ok (.getfield 37, 3) := by decide +kernel
theorem dX11_of_9 : decode cX11_of 9 = .ok (.invokevirtual 213, 3) := by decide +kernel
theorem dX11_of_12 : decode cX11_of 12 = .ok (.if_icmp .gt 14, 3) := by decide +kernel
theorem dX11_of_15 : decode cX11_of 15 = .ok (.aload_n 0, 1) := by decide +kernel
theorem dX11_of_16 : decode cX11_of 16 = .ok (.invokevirtual 206, 3) := by decide +kernel
theorem dX11_of_19 : decode cX11_of 19 = .ok (.iload_n 1, 1) := by decide +kernel
theorem dX11_of_20 : decode cX11_of 20 = .ok (.invokevirtual 216, 3) := by decide +kernel
theorem dX11_of_23 : decode cX11_of 23 = .ok (.goto 4, 3) := by decide +kernel
theorem dX11_of_26 : decode cX11_of 26 = .ok (.iconst (-1), 1) := by decide +kernel
theorem dX11_of_27 : decode cX11_of 27 = .ok (.ireturn, 1) := by decide +kernel
set_option maxRecDepth 20000 in
theorem ggX11_moves_X11_isRoad : GoodIn wsX11_moves wsX11_isRoad := goodIn_r _ [8, 3, 9, 189, 190, 191, 192, 193, 194, 195, 196, 197, 198, 199, 200, 201, 202, 203, 204, 205, 206, 207, 208, 209, 210, 211, 212, 213, 214, 215, 216, 217, 218, 219, 220, 221, 222, 223, 224, 225] (by decide +kernel) (by decide +kernel)
set_option maxRecDepth 20000 in
theorem gX11_moves_X11_isRoad : GoodIn wsX11_moves (wsV RX11 170 RX11 yX11_isRoad wsX11_isRoad) := goodIn_app (goodIn_of _ (by decide +kernel)) ggX11_moves_X11_isRoad
set_option maxRecDepth 20000 in
theorem ggX11_moves_X11_planNow : GoodIn wsX11_moves wsX11_planNow := goodIn_r _ [13, 14, 15, 16, 17, 18, 19, 20, 21, 22, 23, 24, 25, 26, 27, 28, 29, 30, 31, 32, 33, 34, 35, 36, 37, 38, 39, 40, 41, 42, 43, 44, 45, 46, 47, 48, 49, 50, 51, 52, 53, 54, 55, 56, 57, 58, 59, 60, 61, 62, 63, 64, 65, 66, 67, 68, 69, 70, 71, 72, 73, 74, 75, 76, 77, 78, 79, 80, 81, 82, 83, 84, 85, 189, 190, 191, 192, 193, 194, 195, 196, 197, 198, 199, 200, 201, 202, 203, 204, 205, 226, 227, 228, 229, 230, 231, 232, 233, 234, 235, 236, 237, 238, 239, 206, 207, 208, 209, 210, 211, 212, 213, 214, 215, 216, 217, 218, 219, 220, 221, 222, 223, 224, 225] rfl (by decide +kernel)
set_option maxRecDepth 20000 in
theorem gX11_moves_X11_planNow : GoodIn wsX11_moves (wsV RX11 206 RX11 yX11_planNow wsX11_planNow) := goodIn_app (goodIn_of _ (by decide +kernel)) ggX11_moves_X11_planNow
set_option maxRecDepth 20000 in
theorem ggX11_moves_X7_take : GoodIn wsX11_moves wsX7_take := goodIn_r _ [20, 21, 22, 23, 24, 25, 26, 27, 28, 29, 30, 31, 32, 33, 34, 35, 36, 37, 38, 39, 40, 41, 42, 43, 44, 45, 46, 47, 48, 49, 50, 51, 52, 53, 54, 55, 56, 57, 58, 59, 19, 60, 61, 62, 63, 64, 65, 66, 67, 68, 69, 70, 71, 72, 73, 74, 75, 76, 77, 78, 79, 80, 81, 82, 83, 84, 85, 226, 227, 228, 229, 230, 231, 232, 233, 234, 235, 236, 237, 238, 239, 206, 207, 208, 209, 210, 211, 212, 213, 214, 215, 216, 217, 218, 219, 220, 221, 222, 223, 224, 225] rfl (by decide +kernel)
set_option maxRecDepth 20000 in
theorem gX11_moves_X7_take : GoodIn wsX11_moves (wsV RX11 232 RX7 yX7_take wsX7_take) := goodIn_app (goodIn_of _ (by decide +kernel)) ggX11_moves_X7_take
set_option maxRecDepth 20000 in
theorem ggX11_moves_X7_hasEnds : GoodIn wsX11_moves wsX7_hasEnds := goodIn_r _ [89, 61, 23, 77, 78, 79, 47, 80, 81, 90, 91, 92, 19, 93, 32, 94, 31, 24, 95, 96, 26, 97, 98, 99, 100, 101, 102, 103, 104, 29, 105, 106, 107, 108, 109, 110, 111, 112, 113, 114, 115, 116, 117, 118, 119, 120, 121, 122, 123, 124, 125, 126, 127, 128, 129, 130, 131, 132, 133, 134, 135, 136, 137, 138, 226, 227, 228, 229, 230, 231, 232, 233, 234, 235, 236, 206, 207, 208, 209, 210, 211, 212, 213, 214, 215, 216, 217, 218, 219, 220, 221, 222, 223, 224, 225, 240, 241, 242, 243, 244, 245, 246, 247] rfl (by decide +kernel)
set_option maxRecDepth 20000 in
theorem gX11_moves_X7_hasEnds : GoodIn wsX11_moves (wsV RX11 225 RX7 yX7_hasEnds wsX7_hasEnds) := goodIn_app (goodIn_of _ (by decide +kernel)) ggX11_moves_X7_hasEnds
set_option maxRecDepth 20000 in
theorem ggX11_moves_X6_everybody : GoodIn wsX11_moves wsX6_everybody := goodIn_r _ [80, 81, 206, 207, 208, 209, 210, 211, 212, 213, 214, 215, 216, 217, 218, 219, 220, 221, 222, 223, 224, 225] (by decide +kernel) (by decide +kernel)
set_option maxRecDepth 20000 in
theorem gX11_moves_X6_everybody : GoodIn wsX11_moves (wsV RX11 213 RX6 yX6_everybody wsX6_everybody) := goodIn_app (goodIn_of _ (by decide +kernel)) ggX11_moves_X6_everybody
set_option maxRecDepth 20000 in
theorem ggX11_moves_X11_movedBetween : GoodIn wsX11_moves wsX11_movedBetween := goodIn_r _ [142, 143, 144, 145, 146, 147, 19, 148, 149, 23, 150, 151, 152, 153, 154, 33, 31, 24, 26, 95, 96, 75, 76, 155, 156, 157, 158, 159, 160, 104, 29, 105, 161, 162, 163, 164, 109, 110, 111, 77, 78, 79, 47, 80, 81, 165, 166, 167, 168, 169, 170, 171, 172, 82, 83, 84, 85, 50, 51, 173, 174, 175, 176, 177, 178, 179, 180, 181, 182, 183, 184, 185, 186, 187, 188, 226, 227, 228, 229, 230, 231, 232, 233, 234, 235, 236, 206, 207, 208, 209, 210, 211, 212, 213, 214, 215, 216, 217, 218, 219, 220, 221, 222, 223, 224, 225, 248, 249] rfl (by decide +kernel)
set_option maxRecDepth 20000 in
theorem gX11_moves_X11_movedBetween : GoodIn wsX11_moves (va_wsS RX11 236 yX11_movedBetween wsX11_movedBetween) := goodIn_app (goodIn_of _ (by decide +kernel)) ggX11_moves_X11_movedBetween

