theorem dX12_price_22 : decode cX12_price 22 = .ok (.iload_n 1, 1) := by decide +kernel
theorem dX12_price_23 : decode cX12_price 23 = .ok (.invokevirtual 389, 3) := by decide +kernel
theorem dX12_price_26 : decode cX12_price 26 = .ok (.istore_n 2, 1) := by decide +kernel
theorem dX12_price_27 : decode cX12_price 27 = .ok (.aload_n 0, 1) := by decide +kernel
theorem dX12_price_28 : decode cX12_price 28 = .ok (.iload_n 1, 1) := by decide +kernel
theorem dX12_price_29 : decode cX12_price 29 = .ok (.invokevirtual 392, 3) := by decide +kernel
theorem dX12_price_32 : decode cX12_price 32 = .ok (.istore_n 3, 1) := by decide +kernel
theorem dX12_price_33 : decode cX12_price 33 = .ok (.aload_n 0, 1) := by decide +kernel
theorem dX12_price_34 : decode cX12_price 34 = .ok (.getfield 171, 3) := by decide +kernel
theorem dX12_price_37 : decode cX12_price 37 = .ok (.aload_n 0, 1) := by decide +kernel
theorem dX12_price_38 : decode cX12_price 38 = .ok (.invokevirtual 437, 3) := by decide +kernel
theorem dX12_price_41 : decode cX12_price 41 = .ok (.iaload, 1) := by decide +kernel
theorem dX12_price_42 : decode cX12_price 42 = .ok (.aload_n 0, 1) := by decide +kernel
theorem dX12_price_43 : decode cX12_price 43 = .ok (.getfield 171, 3) := by decide +kernel
theorem dX12_price_46 : decode cX12_price 46 = .ok (.aload_n 0, 1) := by decide +kernel
theorem dX12_price_47 : decode cX12_price 47 = .ok (.invokevirtual 437, 3) := by decide +kernel
theorem dX12_price_50 : decode cX12_price 50 = .ok (.iconst 1, 1) := by decide +kernel
theorem dX12_price_51 : decode cX12_price 51 = .ok (.iload_n 2, 1) := by decide +kernel
theorem dX12_price_52 : decode cX12_price 52 = .ok (.ishl, 1) := by decide +kernel
theorem dX12_price_53 : decode cX12_price 53 = .ok (.iconst 1, 1) := by decide +kernel
theorem dX12_price_54 : decode cX12_price 54 = .ok (.iload_n 3, 1) := by decide +kernel
theorem dX12_price_55 : decode cX12_price 55 = .ok (.ishl, 1) := by decide +kernel
theorem dX12_price_56 : decode cX12_price 56 = .ok (.ior, 1) := by decide +kernel
theorem dX12_price_57 : decode cX12_price 57 = .ok (.iconst (-1), 1) := by decide +kernel
theorem dX12_price_58 : decode cX12_price 58 = .ok (.ixor, 1) := by decide +kernel
theorem dX12_price_59 : decode cX12_price 59 = .ok (.iand, 1) := by decide +kernel
theorem dX12_price_60 : decode cX12_price 60 = .ok (.iaload, 1) := by decide +kernel
theorem dX12_price_61 : decode cX12_price 61 = .ok (.isub, 1) := by decide +kernel
theorem dX12_price_62 : decode cX12_price 62 = .ok (.aload_n 0, 1) := by decide +kernel
theorem dX12_price_63 : decode cX12_price 63 = .ok (.iload_n 2, 1) := by decide +kernel
theorem dX12_price_64 : decode cX12_price 64 = .ok (.invokevirtual 411, 3) := by decide +kernel
theorem dX12_price_67 : decode cX12_price 67 = .ok (.iadd, 1) := by decide +kernel
theorem dX12_price_68 : decode cX12_price 68 = .ok (.aload_n 0, 1) := by decide +kernel
theorem dX12_price_69 : decode cX12_price 69 = .ok (.iload_n 3, 1) := by decide +kernel
theorem dX12_price_70 : decode cX12_price 70 = .ok (.invokevirtual 411, 3) := by decide +kernel
theorem dX12_price_73 : decode cX12_price 73 = .ok (.iadd, 1) := by decide +kernel
theorem dX12_price_74 : decode cX12_price 74 = .ok (.aload_n 0, 1) := by decide +kernel
theorem dX12_price_75 : decode cX12_price 75 = .ok (.getfield 91, 3) := by decide +kernel
theorem dX12_price_78 : decode cX12_price 78 = .ok (.sipush 144, 3) := by decide +kernel
theorem dX12_price_81 : decode cX12_price 81 = .ok (.aload_n 0, 1) := by decide +kernel
theorem dX12_price_82 : decode cX12_price 82 = .ok (.getfield 48, 3) := by decide +kernel
theorem dX12_price_85 : decode cX12_price 85 = .ok (.imul, 1) := by decide +kernel
theorem dX12_price_86 : decode cX12_price 86 = .ok (.bipush 12, 2) := by decide +kernel
theorem dX12_price_88 : decode cX12_price 88 = .ok (.iload_n 2, 1) := by decide +kernel
theorem dX12_price_89 : decode cX12_price 89 = .ok (.imul, 1) := by decide +kernel
theorem dX12_price_90 : decode cX12_price 90 = .ok (.iadd, 1) := by decide +kernel
theorem dX12_price_91 : decode cX12_price 91 = .ok (.iload_n 3, 1) := by decide +kernel
theorem dX12_price_92 : decode cX12_price 92 = .ok (.iadd, 1) := by decide +kernel
theorem dX12_price_93 : decode cX12_price 93 = .ok (.iaload, 1) := by decide +kernel
theorem dX12_price_94 : decode cX12_price 94 = .ok (.isub, 1) := by decide +kernel
theorem dX12_price_95 : decode cX12_price 95 = .ok (.aload_n 0, 1) := by decide +kernel
theorem dX12_price_96 : decode cX12_price 96 = .ok (.getfield 91, 3) := by decide +kernel
theorem dX12_price_99 : decode cX12_price 99 = .ok (.sipush 144, 3) := by decide +kernel
theorem dX12_price_102 : decode cX12_price 102 = .ok (.aload_n 0, 1) := by decide +kernel
theorem dX12_price_103 : decode cX12_price 103 = .ok (.getfield 48, 3) := by decide +kernel
theorem dX12_price_106 : decode cX12_price 106 = .ok (.imul, 1) := by decide +kernel
theorem dX12_price_107 : decode cX12_price 107 = .ok (.bipush 12, 2) := by decide +kernel
theorem dX12_price_109 : decode cX12_price 109 = .ok (.iload_n 3, 1) := by decide +kernel
theorem dX12_price_110 : decode cX12_price 110 = .ok (.imul, 1) := by decide +kernel
theorem dX12_price_111 : decode cX12_price 111 = .ok (.iadd, 1) := by decide +kernel
theorem dX12_price_112 : decode cX12_price 112 = .ok (.iload_n 2, 1) := by decide +kernel
theorem dX12_price_113 : decode cX12_price 113 = .ok (.iadd, 1) := by decide +kernel
theorem dX12_price_114 : decode cX12_price 114 = .ok (.iaload, 1) := by decide +kernel
theorem dX12_price_115 : decode cX12_price 115 = .ok (.isub, 1) := by decide +kernel
theorem dX12_price_116 : decode cX12_price 116 = .ok (.istore 4, 2) := by decide +kernel
theorem dX12_price_118 : decode cX12_price 118 = .ok (.iload 4, 2) := by decide +kernel
theorem dX12_price_120 : decode cX12_price 120 = .ok (.ifCond .ge 7, 3) := by decide +kernel
theorem dX12_price_123 : decode cX12_price 123 = .ok (.iconst 0, 1) := by decide +kernel
theorem dX12_price_124 : decode cX12_price 124 = .ok (.goto 5, 3) := by decide +kernel
theorem dX12_price_127 : decode cX12_price 127 = .ok (.iload 4, 2) := by decide +kernel
theorem dX12_price_129 : decode cX12_price 129 = .ok (.ireturn, 1) := by decide +kernel
set_option maxRecDepth 20000 in
theorem ggX12_ways_X12_lays : GoodIn wsX12_ways wsX12_lays := goodIn_r _ [11, 12, 13, 4, 14, 15, 16, 17, 18, 19, 10, 20, 21, 22, 23, 24, 25, 26, 27, 28, 29, 30, 31, 32, 33, 34, 35, 36, 37, 38, 39, 40, 41, 42, 43, 44, 45, 46, 47, 48, 49, 50, 51, 52, 53, 54, 55, 56, 57, 58, 6, 59, 60, 61, 62, 63, 64, 65, 66, 67, 68, 69, 70, 71, 72, 73, 74, 75, 76, 85, 86, 87, 88, 89, 90, 91, 92, 93, 94, 95, 96, 97, 98, 99, 100, 101, 102, 103, 104, 105, 106, 107, 108, 109, 110, 111, 112, 113, 114, 115, 116, 117, 118, 119, 120, 121, 122, 123, 124, 125, 126, 127, 128, 129, 130, 131, 132, 133, 134, 135, 136, 137, 138, 139, 140, 141, 142, 143, 144, 145, 146, 147, 148, 149, 150, 151, 152, 153, 154, 155, 156, 157, 158, 159] rfl (by decide +kernel)
set_option maxRecDepth 20000 in
theorem gX12_ways_X12_lays : GoodIn wsX12_ways (wsV RX12 434 RX12 yX12_lays wsX12_lays) := goodIn_app (goodIn_of _ (by decide +kernel)) ggX12_ways_X12_lays
set_option maxRecDepth 20000 in
theorem ggX12_ways_X12_mosts : GoodIn wsX12_ways wsX12_mosts := goodIn_r _ [80, 5, 13, 4, 2, 3, 63, 64, 65, 10, 66, 67, 68, 69, 70, 71, 72, 73, 74, 75, 76, 15, 14, 48, 49, 50, 51, 52, 85, 86, 87, 88, 89, 90, 91, 92, 93, 94, 95, 96, 97, 98, 99, 100, 101, 102, 103, 104, 105, 106, 107, 108, 109, 110, 111, 112, 113, 114, 115, 116, 117, 118, 119, 120, 121, 122, 123, 124, 125, 126, 127, 128, 129, 130, 131, 132, 133, 134, 135, 136, 137, 138, 139, 140, 141, 142, 143, 144, 145, 146, 147, 148, 149, 150, 151, 152, 153, 154, 155, 156, 157, 158, 159] rfl (by decide +kernel)
set_option maxRecDepth 20000 in
theorem gX12_ways_X12_mosts : GoodIn wsX12_ways (wsV RX12 444 RX12 yX12_mosts wsX12_mosts) := goodIn_app (goodIn_of _ (by decide +kernel)) ggX12_ways_X12_mosts
set_option maxRecDepth 20000 in
theorem ggX12_ways_X12_all : GoodIn wsX12_ways wsX12_all := goodIn_r _ [84, 3, 4, 85, 86, 87, 88, 89, 90, 91, 92, 93, 94, 95, 96, 97, 98, 99, 100, 101, 102, 103, 104, 105, 106, 107, 108, 109, 110, 111, 112, 113, 114, 115, 116, 117, 118, 119, 120, 121, 122, 123, 124, 125, 126, 127, 128, 129, 130, 131, 132, 133, 134, 135, 136, 137, 138, 139, 140, 141, 142, 143, 144, 145, 146, 147, 148, 149, 150, 151, 152, 153, 154, 155, 156, 157, 158, 159] rfl (by decide +kernel)
set_option maxRecDepth 20000 in
theorem gX12_ways_X12_all : GoodIn wsX12_ways (wsV RX12 437 RX12 yX12_all wsX12_all) := goodIn_app (goodIn_of _ (by decide +kernel)) ggX12_ways_X12_all
theorem dX12_ways_0 : decode cX12_ways 0 = .ok (.aload_n 0, 1) := by decide +kernel
theorem dX12_ways_1 : decode cX12_ways 1 = .ok (.iconst (-1), 1) := by decide +kernel
theorem dX12_ways_2 : decode cX12_ways 2 = .ok (.iconst 0, 1) := by decide +kernel
theorem dX12_ways_3 : decode cX12_ways 3 = .ok (.invokevirtual 434, 3) := by decide +kernel
theorem dX12_ways_6 : decode cX12_ways 6 = .ok (.aload_n 0, 1) := by decide +kernel
theorem dX12_ways_7 : decode cX12_ways 7 = .ok (.iconst (-1), 1) := by decide +kernel
theorem dX12_ways_8 : decode cX12_ways 8 = .ok (.invokevirtual 444, 3) := by decide +kernel
theorem dX12_ways_11 : decode cX12_ways 11 = .ok (.aload_n 0, 1) := by decide +kernel
theorem dX12_ways_12 : decode cX12_ways 12 = .ok (.getfield 201, 3) := by decide +kernel
theorem dX12_ways_15 : decode cX12_ways 15 = .ok (.iconst 0, 1) := by decide +kernel
theorem dX12_ways_16 : decode cX12_ways 16 = .ok (.lconst 1, 1) := by decide +kernel
theorem dX12_ways_17 : decode cX12_ways 17 = .ok (.lastore, 1) := by decide +kernel
theorem dX12_ways_18 : decode cX12_ways 18 = .ok (.iconst 1, 1) := by decide +kernel
theorem dX12_ways_19 : decode cX12_ways 19 = .ok (.istore_n 1, 1) := by decide +kernel
theorem dX12_ways_20 : decode cX12_ways 20 = .ok (.iload_n 1, 1) := by decide +kernel
theorem dX12_ways_21 : decode cX12_ways 21 = .ok (.aload_n 0, 1) := by decide +kernel
theorem dX12_ways_22 : decode cX12_ways 22 = .ok (.invokevirtual 437, 3) := by decide +kernel
theorem dX12_ways_25 : decode cX12_ways 25 = .ok (.if_icmp .gt 204, 3) := by decide +kernel
theorem dX12_ways_28 : decode cX12_ways 28 = .ok (.iconst 0, 1) := by decide +kernel
theorem dX12_ways_29 : decode cX12_ways 29 = .ok (.istore_n 2, 1) := by decide +kernel
theorem dX12_ways_30 : decode cX12_ways 30 = .ok (.iload_n 1, 1) := by decide +kernel
theorem dX12_ways_31 : decode cX12_ways 31 = .ok (.iload_n 2, 1) := by decide +kernel
theorem dX12_ways_32 : decode cX12_ways 32 = .ok (.ishr, 1) := by decide +kernel
theorem dX12_ways_33 : decode cX12_ways 33 = .ok (.iconst 1, 1) := by decide +kernel
theorem dX12_ways_34 : decode cX12_ways 34 = .ok (.iand, 1) := by decide +kernel
theorem dX12_ways_35 : decode cX12_ways 35 = .ok (.ifCond .ne 9, 3) := by decide +kernel
theorem dX12_ways_38 : decode cX12_ways 38 = .ok (.iinc 2 1, 3) := by decide +kernel
theorem dX12_ways_41 : decode cX12_ways 41 = .ok (.goto (-11), 3) := by decide +kernel
theorem dX12_ways_44 : decode cX12_ways 44 = .ok (.iload_n 1, 1) := by decide +kernel
theorem dX12_ways_45 : decode cX12_ways 45 = .ok (.iconst 1, 1) := by decide +kernel
theorem dX12_ways_46 : decode cX12_ways 46 = .ok (.iload_n 2, 1) := by decide +kernel
theorem dX12_ways_47 : decode cX12_ways 47 = .ok (.ishl, 1) := by decide +kernel
theorem dX12_ways_48 : decode cX12_ways 48 = .ok (.iconst (-1), 1) := by decide +kernel
theorem dX12_ways_49 : decode cX12_ways 49 = .ok (.ixor, 1) := by decide +kernel
theorem dX12_ways_50 : decode cX12_ways 50 = .ok (.iand, 1) := by decide +kernel
theorem dX12_ways_51 : decode cX12_ways 51 = .ok (.istore_n 3, 1) := by decide +kernel
theorem dX12_ways_52 : decode cX12_ways 52 = .ok (.aload_n 0, 1) := by decide +kernel
theorem dX12_ways_53 : decode cX12_ways 53 = .ok (.getfield 201, 3) := by decide +kernel
theorem dX12_ways_56 : decode cX12_ways 56 = .ok (.iload_n 1, 1) := by decide +kernel
theorem dX12_ways_57 : decode cX12_ways 57 = .ok (.aload_n 0, 1) := by decide +kernel
theorem dX12_ways_58 : decode cX12_ways 58 = .ok (.getfield 171, 3) := by decide +kernel
theorem dX12_ways_61 : decode cX12_ways 61 = .ok (.iload_n 3, 1) := by decide +kernel
theorem dX12_ways_62 : decode cX12_ways 62 = .ok (.iaload, 1) := by decide +kernel
theorem dX12_ways_63 : decode cX12_ways 63 = .ok (.aload_n 0, 1) := by decide +kernel
theorem dX12_ways_64 : decode cX12_ways 64 = .ok (.getfield 171, 3) := by decide +kernel
theorem dX12_ways_67 : decode cX12_ways 67 = .ok (.iload_n 1, 1) := by decide +kernel
theorem dX12_ways_68 : decode cX12_ways 68 = .ok (.iaload, 1) := by decide +kernel
theorem dX12_ways_69 : decode cX12_ways 69 = .ok (.if_icmp .ne 12, 3) := by decide +kernel
theorem dX12_ways_72 : decode cX12_ways 72 = .ok (.aload_n 0, 1) := by decide +kernel
theorem dX12_ways_73 : decode cX12_ways 73 = .ok (.getfield 201, 3) := by decide +kernel
theorem dX12_ways_76 : decode cX12_ways 76 = .ok (.iload_n 3, 1) := by decide +kernel
theorem dX12_ways_77 : decode cX12_ways 77 = .ok (.laload, 1) := by decide +kernel
theorem dX12_ways_78 : decode cX12_ways 78 = .ok (.goto 4, 3) := by decide +kernel
theorem dX12_ways_81 : decode cX12_ways 81 = .ok (.lconst 0, 1) := by decide +kernel
theorem dX12_ways_82 : decode cX12_ways 82 = .ok (.lastore, 1) := by decide +kernel
theorem dX12_ways_83 : decode cX12_ways 83 = .ok (.iload_n 2, 1) := by decide +kernel
theorem dX12_ways_84 : decode cX12_ways 84 = .ok (.iconst 1, 1) := by decide +kernel
theorem dX12_ways_85 : decode cX12_ways 85 = .ok (.iadd, 1) := by decide +kernel
theorem dX12_ways_86 : decode cX12_ways 86 = .ok (.istore 4, 2) := by decide +kernel
theorem dX12_ways_88 : decode cX12_ways 88 = .ok (.iload 4, 2) := by decide +kernel
theorem dX12_ways_90 : decode cX12_ways 90 = .ok (.aload_n 0, 1) := by decide +kernel
theorem dX12_ways_91 : decode cX12_ways 91 = .ok (.getfield 51, 3) := by decide +kernel
theorem dX12_ways_94 : decode cX12_ways 94 = .ok (.aload_n 0, 1) := by decide +kernel
theorem dX12_ways_95 : decode cX12_ways 95 = .ok (.getfield 48, 3) := by decide +kernel
theorem dX12_ways_98 : decode cX12_ways 98 = .ok (.iaload, 1) := by decide +kernel
theorem dX12_ways_99 : decode cX12_ways 99 = .ok (.if_icmp .ge 93, 3) := by decide +kernel
theorem dX12_ways_102 : decode cX12_ways 102 = .ok (.iload_n 3, 1) := by decide +kernel
theorem dX12_ways_103 : decode cX12_ways 103 = .ok (.iload 4, 2) := by decide +kernel
theorem dX12_ways_105 : decode cX12_ways 105 = .ok (.ishr, 1) := by decide +kernel
theorem dX12_ways_106 : decode cX12_ways 106 = .ok (.iconst 1, 1) := by decide +kernel
theorem dX12_ways_107 : decode cX12_ways 107 = .ok (.iand, 1) := by decide +kernel
theorem dX12_ways_108 : decode cX12_ways 108 = .ok (.ifCond .eq 78, 3) := by decide +kernel
theorem dX12_ways_111 : decode cX12_ways 111 = .ok (.aload_n 0, 1) := by decide +kernel
theorem dX12_ways_112 : decode cX12_ways 112 = .ok (.getfield 174, 3) := by decide +kernel
theorem dX12_ways_115 : decode cX12_ways 115 = .ok (.bipush 12, 2) := by decide +kernel
theorem dX12_ways_117 : decode cX12_ways 117 = .ok (.iload_n 2, 1) := by decide +kernel
theorem dX12_ways_118 : decode cX12_ways 118 = .ok (.imul, 1) := by decide +kernel
theorem dX12_ways_119 : decode cX12_ways 119 = .ok (.iload 4, 2) := by decide +kernel
theorem dX12_ways_121 : decode cX12_ways 121 = .ok (.iadd, 1) := by decide +kernel
theorem dX12_ways_122 : decode cX12_ways 122 = .ok (.iaload, 1) := by decide +kernel
theorem dX12_ways_123 : decode cX12_ways 123 = .ok (.ifCond .eq 63, 3) := by decide +kernel
theorem dX12_ways_126 : decode cX12_ways 126 = .ok (.aload_n 0, 1) := by decide +kernel
theorem dX12_ways_127 : decode cX12_ways 127 = .ok (.getfield 174, 3) := by decide +kernel
theorem dX12_ways_130 : decode cX12_ways 130 = .ok (.bipush 12, 2) := by decide +kernel
theorem dX12_ways_132 : decode cX12_ways 132 = .ok (.iload_n 2, 1) := by decide +kernel
theorem dX12_ways_133 : decode cX12_ways 133 = .ok (.imul, 1) := by decide +kernel
theorem dX12_ways_134 : decode cX12_ways 134 = .ok (.iload 4, 2) := by decide +kernel
theorem dX12_ways_136 : decode cX12_ways 136 = .ok (.iadd, 1) := by decide +kernel
theorem dX12_ways_137 : decode cX12_ways 137 = .ok (.iaload, 1) := by decide +kernel
theorem dX12_ways_138 : decode cX12_ways 138 = .ok (.aload_n 0, 1) := by decide +kernel
theorem dX12_ways_139 : decode cX12_ways 139 = .ok (.getfield 171, 3) := by decide +kernel
theorem dX12_ways_142 : decode cX12_ways 142 = .ok (.iload_n 3, 1) := by decide +kernel
theorem dX12_ways_143 : decode cX12_ways 143 = .ok (.iconst 1, 1) := by decide +kernel
theorem dX12_ways_144 : decode cX12_ways 144 = .ok (.iload 4, 2) := by decide +kernel
theorem dX12_ways_146 : decode cX12_ways 146 = .ok (.ishl, 1) := by decide +kernel
theorem dX12_ways_147 : decode cX12_ways 147 = .ok (.iconst (-1), 1) := by decide +kernel
theorem dX12_ways_148 : decode cX12_ways 148 = .ok (.ixor, 1) := by decide +kernel
theorem dX12_ways_149 : decode cX12_ways 149 = .ok (.iand, 1) := by decide +kernel
theorem dX12_ways_150 : decode cX12_ways 150 = .ok (.iaload, 1) := by decide +kernel
theorem dX12_ways_151 : decode cX12_ways 151 = .ok (.iadd, 1) := by decide +kernel
theorem dX12_ways_152 : decode cX12_ways 152 = .ok (.aload_n 0, 1) := by decide +kernel
theorem dX12_ways_153 : decode cX12_ways 153 = .ok (.getfield 171, 3) := by decide +kernel
theorem dX12_ways_156 : decode cX12_ways 156 = .ok (.iload_n 1, 1) := by decide +kernel
theorem dX12_ways_157 : decode cX12_ways 157 = .ok (.iaload, 1) := by decide +kernel
theorem dX12_ways_158 : decode cX12_ways 158 = .ok (.if_icmp .eq 6, 3) := by decide +kernel
theorem dX12_ways_161 : decode cX12_ways 161 = .ok (.goto 25, 3) := by decide +kernel
theorem dX12_ways_164 : decode cX12_ways 164 = .ok (.aload_n 0, 1) := by decide +kernel
theorem dX12_ways_165 : decode cX12_ways 165 = .ok (.getfield 201, 3) := by decide +kernel
theorem dX12_ways_168 : decode cX12_ways 168 = .ok (.iload_n 1, 1) := by decide +kernel
theorem dX12_ways_169 : decode cX12_ways 169 = .ok (.dup2, 1) := by decide +kernel
theorem dX12_ways_170 : decode cX12_ways 170 = .ok (.laload, 1) := by decide +kernel
theorem dX12_ways_171 : decode cX12_ways 171 = .ok (.aload_n 0, 1) := by decide +kernel
theorem dX12_ways_172 : decode cX12_ways 172 = .ok (.getfield 201, 3) := by decide +kernel
theorem dX12_ways_175 : decode cX12_ways 175 = .ok (.iload_n 3, 1) := by decide +kernel
theorem dX12_ways_176 : decode cX12_ways 176 = .ok (.iconst 1, 1) := by decide +kernel
theorem dX12_ways_177 : decode cX12_ways 177 = .ok (.iload 4, 2) := by decide +kernel
theorem dX12_ways_179 : decode cX12_ways 179 = .ok (.ishl, 1) := by decide +kernel
theorem dX12_ways_180 : decode cX12_ways 180 = .ok (.iconst (-1), 1) := by decide +kernel
theorem dX12_ways_181 : decode cX12_ways 181 = .ok (.ixor, 1) := by decide +kernel
theorem dX12_ways_182 : decode cX12_ways 182 = .ok (.iand, 1) := by decide +kernel
theorem dX12_ways_183 : decode cX12_ways 183 = .ok (.laload, 1) := by decide +kernel
theorem dX12_ways_184 : decode cX12_ways 184 = .ok (.ladd, 1) := by decide +kernel
theorem dX12_ways_185 : decode cX12_ways 185 = .ok (.lastore, 1) := by decide +kernel
theorem dX12_ways_186 : decode cX12_ways 186 = .ok (.iinc 4 1, 3) := by decide +kernel
theorem dX12_ways_189 : decode cX12_ways 189 = .ok (.goto (-101), 3) := by decide +kernel
theorem dX12_ways_192 : decode cX12_ways 192 = .ok (.aload_n 0, 1) := by decide +kernel
theorem dX12_ways_193 : decode cX12_ways 193 = .ok (.getfield 201, 3) := by decide +kernel
theorem dX12_ways_196 : decode cX12_ways 196 = .ok (.iload_n 1, 1) := by decide +kernel
theorem dX12_ways_197 : decode cX12_ways 197 = .ok (.aload_n 0, 1) := by decide +kernel
theorem dX12_ways_198 : decode cX12_ways 198 = .ok (.getfield 201, 3) := by decide +kernel
theorem dX12_ways_201 : decode cX12_ways 201 = .ok (.iload_n 1, 1) := by decide +kernel
theorem dX12_ways_202 : decode cX12_ways 202 = .ok (.laload, 1) := by decide +kernel
theorem dX12_ways_203 : decode cX12_ways 203 = .ok (.ldc2_w 399, 3) := by decide +kernel
theorem dX12_ways_206 : decode cX12_ways 206 = .ok (.lcmp, 1) := by decide +kernel
theorem dX12_ways_207 : decode cX12_ways 207 = .ok (.ifCond .le 9, 3) := by decide +kernel
theorem dX12_ways_210 : decode cX12_ways 210 = .ok (.ldc2_w 399, 3) := by decide +kernel
theorem dX12_ways_213 : decode cX12_ways 213 = .ok (.goto 9, 3) := by decide +kernel
theorem dX12_ways_216 : decode cX12_ways 216 = .ok (.aload_n 0, 1) := by decide +kernel
theorem dX12_ways_217 : decode cX12_ways 217 = .ok (.getfield 201, 3) := by decide +kernel
theorem dX12_ways_220 : decode cX12_ways 220 = .ok (.iload_n 1, 1) := by decide +kernel
theorem dX12_ways_221 : decode cX12_ways 221 = .ok (.laload, 1) := by decide +kernel
theorem dX12_ways_222 : decode cX12_ways 222 = .ok (.lastore, 1) := by decide +kernel
theorem dX12_ways_223 : decode cX12_ways 223 = .ok (.iinc 1 1, 3) := by decide +kernel
theorem dX12_ways_226 : decode cX12_ways 226 = .ok (.goto (-206), 3) := by decide +kernel
theorem dX12_ways_229 : decode cX12_ways 229 = .ok (.aload_n 0, 1) := by decide +kernel
theorem dX12_ways_230 : decode cX12_ways 230 = .ok (.getfield 201, 3) := by decide +kernel
theorem dX12_ways_233 : decode cX12_ways 233 = .ok (.aload_n 0, 1) := by decide +kernel
theorem dX12_ways_234 : decode cX12_ways 234 = .ok (.invokevirtual 437, 3) := by decide +kernel
theorem dX12_ways_237 : decode cX12_ways 237 = .ok (.laload, 1) := by decide +kernel
theorem dX12_ways_238 : decode cX12_ways 238 = .ok (.l2i, 1) := by decide +kernel
theorem dX12_ways_239 : decode cX12_ways 239 = .ok (.ireturn, 1) := by decide +kernel
theorem dX12_deals_0 : decode cX12_deals 0 = .ok (.iconst 0, 1) := by decide +kernel
theorem dX12_deals_1 : decode cX12_deals 1 = .ok (.istore_n 1, 1) := by decide +kernel
theorem dX12_deals_2 : decode cX12_deals 2 = .ok (.iconst 0, 1) := by decide +kernel
theorem dX12_deals_3 : decode cX12_deals 3 = .ok (.istore_n 2, 1) := by decide +kernel
theorem dX12_deals_4 : decode cX12_deals 4 = .ok (.iload_n 2, 1) := by decide +kernel
theorem dX12_deals_5 : decode cX12_deals 5 = .ok (.aload_n 0, 1) := by decide +kernel
theorem dX12_deals_6 : decode cX12_deals 6 = .ok (.getfield 54, 3) := by decide +kernel
theorem dX12_deals_9 : decode cX12_deals 9 = .ok (.aload_n 0, 1) := by decide +kernel
theorem dX12_deals_10 : decode cX12_deals 10 = .ok (.getfield 48, 3) := by decide +kernel
theorem dX12_deals_13 : decode cX12_deals 13 = .ok (.iaload, 1) := by decide +kernel
theorem dX12_deals_14 : decode cX12_deals 14 = .ok (.if_icmp .ge 26, 3) := by decide +kernel
theorem dX12_deals_17 : decode cX12_deals 17 = .ok (.iload_n 1, 1) := by decide +kernel
theorem dX12_deals_18 : decode cX12_deals 18 = .ok (.aload_n 0, 1) := by decide +kernel
theorem dX12_deals_19 : decode cX12_deals 19 = .ok (.getfield 204, 3) := by decide +kernel
theorem dX12_deals_22 : decode cX12_deals 22 = .ok (.iload_n 2, 1) := by decide +kernel
theorem dX12_deals_23 : decode cX12_deals 23 = .ok (.baload, 1) := by decide +kernel
theorem dX12_deals_24 : decode cX12_deals 24 = .ok (.ifCond .eq 7, 3) := by decide +kernel
theorem dX12_deals_27 : decode cX12_deals 27 = .ok (.iconst 1, 1) := by decide +kernel
theorem dX12_deals_28 : decode cX12_deals 28 = .ok (.goto 4, 3) := by decide +kernel
theorem dX12_deals_31 : decode cX12_deals 31 = .ok (.iconst 0, 1) := by decide +kernel
theorem dX12_deals_32 : decode cX12_deals 32 = .ok (.iadd, 1) := by decide +kernel
theorem dX12_deals_33 : decode cX12_deals 33 = .ok (.istore_n 1, 1) := by decide +kernel
theorem dX12_deals_34 : decode cX12_deals 34 = .ok (.iinc 2 1, 3) := by decide +kernel
theorem dX12_deals_37 : decode cX12_deals 37 = .ok (.goto (-33), 3) := by decide +kernel
theorem dX12_deals_40 : decode cX12_deals 40 = .ok (.iload_n 1, 1) := by decide +kernel
theorem dX12_deals_41 : decode cX12_deals 41 = .ok (.ireturn, 1) := by decide +kernel
set_option maxRecDepth 20000 in
theorem ggX12_deal_X12_isRoad : GoodIn wsX12_deal wsX12_isRoad := goodIn_r _ [12, 4, 5, 13, 14, 11, 15, 88, 89, 90, 91, 92, 93, 94, 95, 96, 97, 98, 99, 100, 101, 102, 103, 104, 105, 106, 107, 108, 109, 110, 111, 112, 113, 114, 115, 116, 117, 118, 119, 120, 121, 122, 123, 124, 125, 126, 127, 128, 129, 130, 131, 132, 133, 134, 135, 136, 137, 138, 139, 140, 141, 142, 143, 144, 145, 146, 147, 148, 149, 150, 151, 152, 153, 154, 155, 156, 157, 158, 159, 160, 161, 162] rfl (by decide +kernel)
set_option maxRecDepth 20000 in
theorem gX12_deal_X12_isRoad : GoodIn wsX12_deal (wsV RX12 386 RX12 yX12_isRoad wsX12_isRoad) := goodIn_app (goodIn_of _ (by decide +kernel)) ggX12_deal_X12_isRoad
set_option maxRecDepth 20000 in
theorem ggX12_deal_X12_is : GoodIn wsX12_deal wsX12_is := goodIn_r _ [15] (by decide +kernel) (by decide +kernel)
set_option maxRecDepth 20000 in
theorem gX12_deal_X12_is : GoodIn wsX12_deal (va_wsS RX12 377 yX12_is wsX12_is) := goodIn_app (goodIn_of _ (by decide +kernel)) ggX12_deal_X12_is
set_option maxRecDepth 20000 in
theorem ggX12_deal_X12_lays : GoodIn wsX12_deal wsX12_lays := goodIn_r _ [19, 20, 4, 5, 3, 21, 22, 23, 24, 25, 11, 26, 27, 28, 29, 30, 31, 32, 33, 34, 35, 36, 37, 38, 39, 40, 41, 42, 43, 44, 45, 46, 47, 48, 49, 50, 51, 52, 53, 54, 55, 56, 57, 58, 59, 60, 61, 62, 63, 64, 65, 66, 67, 68, 69, 70, 71, 72, 73, 74, 75, 76, 77, 78, 79, 80, 81, 82, 83, 88, 89, 90, 91, 92, 93, 94, 95, 96, 97, 98, 99, 100, 101, 102, 103, 104, 105, 106, 107, 108, 109, 110, 111, 112, 113, 114, 115, 116, 117, 118, 119, 120, 121, 122, 123, 124, 125, 126, 127, 128, 129, 130, 131, 132, 133, 134, 135, 136, 137, 138, 139, 140, 141, 142, 143, 144, 145, 146, 147, 148, 149, 150, 151, 152, 153, 154, 155, 156, 157, 158, 159, 160, 161, 162] rfl (by decide +kernel)
set_option maxRecDepth 20000 in
theorem gX12_deal_X12_lays : GoodIn wsX12_deal (wsV RX12 434 RX12 yX12_lays wsX12_lays) := goodIn_app (goodIn_of _ (by decide +kernel)) ggX12_deal_X12_lays
set_option maxRecDepth 20000 in
theorem ggX12_deal_X12_first : GoodIn wsX12_deal wsX12_first := goodIn_r _ [73, 74, 5, 88, 89, 90, 91, 92, 93, 94, 95, 96, 97, 98, 99, 100, 101, 102, 103, 104, 105, 106, 107, 108, 109, 110, 111, 112, 113, 114, 115, 116, 117, 118, 119, 120, 121, 122, 123, 124, 125, 126, 127, 128, 129, 130, 131, 132, 133, 134, 135, 136, 137, 138, 139, 140, 141, 142, 143, 144, 145, 146, 147, 148, 149, 150, 151, 152, 153, 154, 155, 156, 157, 158, 159, 160, 161, 162] rfl (by decide +kernel)
set_option maxRecDepth 20000 in
theorem gX12_deal_X12_first : GoodIn wsX12_deal (wsV RX12 389 RX12 yX12_first wsX12_first) := goodIn_app (goodIn_of _ (by decide +kernel)) ggX12_deal_X12_first
set_option maxRecDepth 20000 in
theorem ggX12_deal_X12_second : GoodIn wsX12_deal wsX12_second := goodIn_r _ [78, 79, 5, 88, 89, 90, 91, 92, 93, 94, 95, 96, 97, 98, 99, 100, 101, 102, 103, 104, 105, 106, 107, 108, 109, 110, 111, 112, 113, 114, 115, 116, 117, 118, 119, 120, 121, 122, 123, 124, 125, 126, 127, 128, 129, 130, 131, 132, 133, 134, 135, 136, 137, 138, 139, 140, 141, 142, 143, 144, 145, 146, 147, 148, 149, 150, 151, 152, 153, 154, 155, 156, 157, 158, 159, 160, 161, 162] rfl (by decide +kernel)
set_option maxRecDepth 20000 in
theorem gX12_deal_X12_second : GoodIn wsX12_deal (wsV RX12 392 RX12 yX12_second wsX12_second) := goodIn_app (goodIn_of _ (by decide +kernel)) ggX12_deal_X12_second
set_option maxRecDepth 20000 in
theorem ggX12_deal_X12_deals : GoodIn wsX12_deal wsX12_deals := goodIn_r _ [87, 4, 5, 6, 88, 89, 90, 91, 92, 93, 94, 95, 96, 97, 98, 99, 100, 101, 102, 103, 104, 105, 106, 107, 108, 109, 110, 111, 112, 113, 114, 115, 116, 117, 118, 119, 120, 121, 122, 123, 124, 125, 126, 127, 128, 129, 130, 131, 132, 133, 134, 135, 136, 137, 138, 139, 140, 141, 142, 143, 144, 145, 146, 147, 148, 149, 150, 151, 152, 153, 154, 155, 156, 157, 158, 159, 160, 161, 162] rfl (by decide +kernel)
set_option maxRecDepth 20000 in
theorem gX12_deal_X12_deals : GoodIn wsX12_deal (wsV RX12 374 RX12 yX12_deals wsX12_deals) := goodIn_app (goodIn_of _ (by decide +kernel)) ggX12_deal_X12_deals
theorem dX12_deal_0 : decode cX12_deal 0 = .ok (.aload_n 0, 1) := by decide +kernel
theorem dX12_deal_1 : decode cX12_deal 1 = .ok (.iload_n 1, 1) := by decide +kernel
theorem dX12_deal_2 : decode cX12_deal 2 = .ok (.invokevirtual 386, 3) := by decide +kernel
theorem dX12_deal_5 : decode cX12_deal 5 = .ok (.ifCond .eq 16, 3) := by decide +kernel
theorem dX12_deal_8 : decode cX12_deal 8 = .ok (.iload_n 2, 1) := by decide +kernel
theorem dX12_deal_9 : decode cX12_deal 9 = .ok (.ldc_w 489, 3) := by decide +kernel
theorem dX12_deal_12 : decode cX12_deal 12 = .ok (.ldc_w 490, 3) := by decide +kernel
theorem dX12_deal_15 : decode cX12_deal 15 = .ok (.invokestatic 377, 3) := by decide +kernel
theorem dX12_deal_18 : decode cX12_deal 18 = .ok (.ifCond .ne 5, 3) := by decide +kernel
theorem dX12_deal_21 : decode cX12_deal 21 = .ok (.iconst (-1), 1) := by decide +kernel
theorem dX12_deal_22 : decode cX12_deal 22 = .ok (.ireturn, 1) := by decide +kernel
theorem dX12_deal_23 : decode cX12_deal 23 = .ok (.aload_n 0, 1) := by decide +kernel
theorem dX12_deal_24 : decode cX12_deal 24 = .ok (.iconst (-1), 1) := by decide +kernel
theorem dX12_deal_25 : decode cX12_deal 25 = .ok (.iconst 0, 1) := by decide +kernel
theorem dX12_deal_26 : decode cX12_deal 26 = .ok (.invokevirtual 434, 3) := by decide +kernel
theorem dX12_deal_29 : decode cX12_deal 29 = .ok (.aload_n 0, 1) := by decide +kernel
theorem dX12_deal_30 : decode cX12_deal 30 = .ok (.getfield 162, 3) := by decide +kernel
theorem dX12_deal_33 : decode cX12_deal 33 = .ok (.iload_n 1, 1) := by decide +kernel
theorem dX12_deal_34 : decode cX12_deal 34 = .ok (.baload, 1) := by decide +kernel
theorem dX12_deal_35 : decode cX12_deal 35 = .ok (.istore_n 3, 1) := by decide +kernel
theorem dX12_deal_36 : decode cX12_deal 36 = .ok (.iconst 0, 1) := by decide +kernel
theorem dX12_deal_37 : decode cX12_deal 37 = .ok (.istore 4, 2) := by decide +kernel
theorem dX12_deal_39 : decode cX12_deal 39 = .ok (.iload 4, 2) := by decide +kernel
theorem dX12_deal_41 : decode cX12_deal 41 = .ok (.aload_n 0, 1) := by decide +kernel
theorem dX12_deal_42 : decode cX12_deal 42 = .ok (.getfield 54, 3) := by decide +kernel
theorem dX12_deal_45 : decode cX12_deal 45 = .ok (.aload_n 0, 1) := by decide +kernel
theorem dX12_deal_46 : decode cX12_deal 46 = .ok (.getfield 48, 3) := by decide +kernel
theorem dX12_deal_49 : decode cX12_deal 49 = .ok (.iaload, 1) := by decide +kernel
theorem dX12_deal_50 : decode cX12_deal 50 = .ok (.if_icmp .ge 95, 3) := by decide +kernel
theorem dX12_deal_53 : decode cX12_deal 53 = .ok (.aload_n 0, 1) := by decide +kernel
theorem dX12_deal_54 : decode cX12_deal 54 = .ok (.iload 4, 2) := by decide +kernel
theorem dX12_deal_56 : decode cX12_deal 56 = .ok (.invokevirtual 389, 3) := by decide +kernel
theorem dX12_deal_59 : decode cX12_deal 59 = .ok (.aload_n 0, 1) := by decide +kernel
theorem dX12_deal_60 : decode cX12_deal 60 = .ok (.iload_n 1, 1) := by decide +kernel
theorem dX12_deal_61 : decode cX12_deal 61 = .ok (.invokevirtual 389, 3) := by decide +kernel
theorem dX12_deal_64 : decode cX12_deal 64 = .ok (.if_icmp .eq 45, 3) := by decide +kernel
theorem dX12_deal_67 : decode cX12_deal 67 = .ok (.aload_n 0, 1) := by decide +kernel
theorem dX12_deal_68 : decode cX12_deal 68 = .ok (.iload 4, 2) := by decide +kernel
theorem dX12_deal_70 : decode cX12_deal 70 = .ok (.invokevirtual 389, 3) := by decide +kernel
theorem dX12_deal_73 : decode cX12_deal 73 = .ok (.aload_n 0, 1) := by decide +kernel
theorem dX12_deal_74 : decode cX12_deal 74 = .ok (.iload_n 1, 1) := by decide +kernel
theorem dX12_deal_75 : decode cX12_deal 75 = .ok (.invokevirtual 392, 3) := by decide +kernel
theorem dX12_deal_78 : decode cX12_deal 78 = .ok (.if_icmp .eq 31, 3) := by decide +kernel
theorem dX12_deal_81 : decode cX12_deal 81 = .ok (.aload_n 0, 1) := by decide +kernel
theorem dX12_deal_82 : decode cX12_deal 82 = .ok (.iload 4, 2) := by decide +kernel
theorem dX12_deal_84 : decode cX12_deal 84 = .ok (.invokevirtual 392, 3) := by decide +kernel
theorem dX12_deal_87 : decode cX12_deal 87 = .ok (.aload_n 0, 1) := by decide +kernel
theorem dX12_deal_88 : decode cX12_deal 88 = .ok (.iload_n 1, 1) := by decide +kernel
theorem dX12_deal_89 : decode cX12_deal 89 = .ok (.invokevirtual 389, 3) := by decide +kernel
theorem dX12_deal_92 : decode cX12_deal 92 = .ok (.if_icmp .eq 17, 3) := by decide +kernel
theorem dX12_deal_95 : decode cX12_deal 95 = .ok (.aload_n 0, 1) := by decide +kernel
theorem dX12_deal_96 : decode cX12_deal 96 = .ok (.iload 4, 2) := by decide +kernel
theorem dX12_deal_98 : decode cX12_deal 98 = .ok (.invokevirtual 392, 3) := by decide +kernel
theorem dX12_deal_101 : decode cX12_deal 101 = .ok (.aload_n 0, 1) := by decide +kernel
theorem dX12_deal_102 : decode cX12_deal 102 = .ok (.iload_n 1, 1) := by decide +kernel
theorem dX12_deal_103 : decode cX12_deal 103 = .ok (.invokevirtual 392, 3) := by decide +kernel
theorem dX12_deal_106 : decode cX12_deal 106 = .ok (.if_icmp .ne 7, 3) := by decide +kernel
theorem dX12_deal_109 : decode cX12_deal 109 = .ok (.iconst 1, 1) := by decide +kernel
theorem dX12_deal_110 : decode cX12_deal 110 = .ok (.goto 4, 3) := by decide +kernel
theorem dX12_deal_113 : decode cX12_deal 113 = .ok (.iconst 0, 1) := by decide +kernel
theorem dX12_deal_114 : decode cX12_deal 114 = .ok (.istore 5, 2) := by decide +kernel
theorem dX12_deal_116 : decode cX12_deal 116 = .ok (.aload_n 0, 1) := by decide +kernel
theorem dX12_deal_117 : decode cX12_deal 117 = .ok (.getfield 204, 3) := by decide +kernel
theorem dX12_deal_120 : decode cX12_deal 120 = .ok (.iload 4, 2) := by decide +kernel
theorem dX12_deal_122 : decode cX12_deal 122 = .ok (.baload, 1) := by decide +kernel
theorem dX12_deal_123 : decode cX12_deal 123 = .ok (.ifCond .eq 16, 3) := by decide +kernel
theorem dX12_deal_126 : decode cX12_deal 126 = .ok (.iload 4, 2) := by decide +kernel
theorem dX12_deal_128 : decode cX12_deal 128 = .ok (.iload_n 1, 1) := by decide +kernel
theorem dX12_deal_129 : decode cX12_deal 129 = .ok (.if_icmp .eq 10, 3) := by decide +kernel
theorem dX12_deal_132 : decode cX12_deal 132 = .ok (.iload 5, 2) := by decide +kernel
theorem dX12_deal_134 : decode cX12_deal 134 = .ok (.ifCond .eq 5, 3) := by decide +kernel
theorem dX12_deal_137 : decode cX12_deal 137 = .ok (.iconst 0, 1) := by decide +kernel
theorem dX12_deal_138 : decode cX12_deal 138 = .ok (.istore_n 3, 1) := by decide +kernel
theorem dX12_deal_139 : decode cX12_deal 139 = .ok (.iinc 4 1, 3) := by decide +kernel
theorem dX12_deal_142 : decode cX12_deal 142 = .ok (.goto (-103), 3) := by decide +kernel
theorem dX12_deal_145 : decode cX12_deal 145 = .ok (.iload_n 3, 1) := by decide +kernel
theorem dX12_deal_146 : decode cX12_deal 146 = .ok (.ifCond .ne 5, 3) := by decide +kernel
theorem dX12_deal_149 : decode cX12_deal 149 = .ok (.iconst (-1), 1) := by decide +kernel
theorem dX12_deal_150 : decode cX12_deal 150 = .ok (.ireturn, 1) := by decide +kernel
theorem dX12_deal_151 : decode cX12_deal 151 = .ok (.aload_n 0, 1) := by decide +kernel
theorem dX12_deal_152 : decode cX12_deal 152 = .ok (.getfield 204, 3) := by decide +kernel
theorem dX12_deal_155 : decode cX12_deal 155 = .ok (.iload_n 1, 1) := by decide +kernel
theorem dX12_deal_156 : decode cX12_deal 156 = .ok (.iconst 1, 1) := by decide +kernel
theorem dX12_deal_157 : decode cX12_deal 157 = .ok (.bastore, 1) := by decide +kernel
theorem dX12_deal_158 : decode cX12_deal 158 = .ok (.aload_n 0, 1) := by decide +kernel
theorem dX12_deal_159 : decode cX12_deal 159 = .ok (.getfield 207, 3) := by decide +kernel
theorem dX12_deal_162 : decode cX12_deal 162 = .ok (.iload_n 1, 1) := by decide +kernel
theorem dX12_deal_163 : decode cX12_deal 163 = .ok (.iload_n 2, 1) := by decide +kernel
theorem dX12_deal_164 : decode cX12_deal 164 = .ok (.iastore, 1) := by decide +kernel
theorem dX12_deal_165 : decode cX12_deal 165 = .ok (.aload_n 0, 1) := by decide +kernel
theorem dX12_deal_166 : decode cX12_deal 166 = .ok (.invokevirtual 374, 3) := by decide +kernel
theorem dX12_deal_169 : decode cX12_deal 169 = .ok (.ireturn, 1) := by decide +kernel
set_option maxRecDepth 20000 in
theorem ggX12_undeal_X12_isRoad : GoodIn wsX12_undeal wsX12_isRoad := goodIn_r _ [6, 7, 8, 9, 10, 5, 11, 16, 17, 18, 19, 20, 21, 22, 23, 24, 25, 26, 27, 28, 29, 30, 31, 32, 33, 34, 35, 36, 37, 38, 39, 40, 41, 42, 43, 44, 45, 46, 47, 48, 49, 50, 51, 52, 53, 54, 55, 56, 57, 58, 59, 60, 61, 62, 63, 64, 65, 66, 67, 68, 69, 70, 71, 72, 73, 74, 75, 76, 77, 78, 79, 80, 81, 82, 83, 84, 85, 86, 87, 88, 89, 90] rfl (by decide +kernel)
set_option maxRecDepth 20000 in
theorem gX12_undeal_X12_isRoad : GoodIn wsX12_undeal (wsV RX12 386 RX12 yX12_isRoad wsX12_isRoad) := goodIn_app (goodIn_of _ (by decide +kernel)) ggX12_undeal_X12_isRoad
set_option maxRecDepth 20000 in
theorem ggX12_undeal_X12_deals : GoodIn wsX12_undeal wsX12_deals := goodIn_r _ [15, 7, 8, 1, 16, 17, 18, 19, 20, 21, 22, 23, 24, 25, 26, 27, 28, 29, 30, 31, 32, 33, 34, 35, 36, 37, 38, 39, 40, 41, 42, 43, 44, 45, 46, 47, 48, 49, 50, 51, 52, 53, 54, 55, 56, 57, 58, 59, 60, 61, 62, 63, 64, 65, 66, 67, 68, 69, 70, 71, 72, 73, 74, 75, 76, 77, 78, 79, 80, 81, 82, 83, 84, 85, 86, 87, 88, 89, 90] rfl (by decide +kernel)
set_option maxRecDepth 20000 in
theorem gX12_undeal_X12_deals : GoodIn wsX12_undeal (wsV RX12 374 RX12 yX12_deals wsX12_deals) := goodIn_app (goodIn_of _ (by decide +kernel)) ggX12_undeal_X12_deals
theorem dX12_undeal_0 : decode cX12_undeal 0 = .ok (.aload_n 0, 1) := by decide +kernel
theorem dX12_undeal_1 : decode cX12_undeal 1 = .ok (.iload_n 1, 1) := by decide +kernel
theorem dX12_undeal_2 : decode cX12_undeal 2 = .ok (.invokevirtual 386, 3) := by decide +kernel
theorem dX12_undeal_5 : decode cX12_undeal 5 = .ok (.ifCond .eq 12, 3) := by decide +kernel
theorem dX12_undeal_8 : decode cX12_undeal 8 = .ok (.aload_n 0, 1) := by decide +kernel
theorem dX12_undeal_9 : decode cX12_undeal 9 = .ok (.getfield 204, 3) := by decide +kernel
theorem dX12_undeal_12 : decode cX12_undeal 12 = .ok (.iload_n 1, 1) := by decide +kernel
theorem dX12_undeal_13 : decode cX12_undeal 13 = .ok (.baload, 1) := by decide +kernel
theorem dX12_undeal_14 : decode cX12_undeal 14 = .ok (.ifCond .ne 5, 3) := by decide +kernel
theorem dX12_undeal_17 : decode cX12_undeal 17 = .ok (.iconst (-1), 1) := by decide +kernel
theorem dX12_undeal_18 : decode cX12_undeal 18 = .ok (.ireturn, 1) := by decide +kernel
theorem dX12_undeal_19 : decode cX12_undeal 19 = .ok (.aload_n 0, 1) := by decide +kernel
theorem dX12_undeal_20 : decode cX12_undeal 20 = .ok (.getfield 204, 3) := by decide +kernel
theorem dX12_undeal_23 : decode cX12_undeal 23 = .ok (.iload_n 1, 1) := by decide +kernel
theorem dX12_undeal_24 : decode cX12_undeal 24 = .ok (.iconst 0, 1) := by decide +kernel
theorem dX12_undeal_25 : decode cX12_undeal 25 = .ok (.bastore, 1) := by decide +kernel
theorem dX12_undeal_26 : decode cX12_undeal 26 = .ok (.aload_n 0, 1) := by decide +kernel
theorem dX12_undeal_27 : decode cX12_undeal 27 = .ok (.invokevirtual 374, 3) := by decide +kernel
theorem dX12_undeal_30 : decode cX12_undeal 30 = .ok (.ireturn, 1) := by decide +kernel
set_option maxRecDepth 20000 in
theorem ggX12_dealRow_X12_lays : GoodIn wsX12_dealRow wsX12_lays := goodIn_r _ [9, 10, 11, 12, 13, 14, 15, 16, 17, 18, 8, 19, 20, 21, 22, 23, 24, 25, 26, 27, 28, 29, 30, 31, 32, 33, 34, 35, 36, 37, 38, 39, 40, 41, 42, 43, 44, 45, 46, 47, 48, 49, 50, 51, 52, 53, 54, 55, 56, 57, 58, 59, 60, 61, 62, 63, 64, 65, 66, 67, 68, 69, 70, 71, 72, 73, 74, 75, 76, 93, 94, 95, 96, 97, 98, 99, 100, 101, 102, 103, 104, 105, 106, 107, 108, 109, 110, 111, 112, 113, 114, 115, 116, 117, 118, 119, 120, 121, 122, 123, 124, 125, 126, 127, 128, 129, 130, 131, 132, 133, 134, 135, 136, 137, 138, 139, 140, 141, 142, 143, 144, 145, 146, 147, 148, 149, 150, 151, 152, 153, 154, 155, 156, 157, 158, 159, 160, 161, 162, 163, 164, 165, 166, 167] rfl (by decide +kernel)
set_option maxRecDepth 20000 in
theorem gX12_dealRow_X12_lays : GoodIn wsX12_dealRow (wsV RX12 434 RX12 yX12_lays wsX12_lays) := goodIn_app (goodIn_of _ (by decide +kernel)) ggX12_dealRow_X12_lays
set_option maxRecDepth 20000 in
theorem ggX12_dealRow_X12_finds : GoodIn wsX12_dealRow wsX12_finds := goodIn_r _ [80, 2, 81, 82, 11, 12, 3, 83, 84, 85, 8, 86, 87, 88, 63, 64, 65, 66, 67, 68, 69, 70, 71, 72, 73, 74, 75, 76, 14, 13, 47, 48, 49, 50, 51, 89, 90, 91, 92, 93, 94, 95, 96, 97, 98, 99, 100, 101, 102, 103, 104, 105, 106, 107, 108, 109, 110, 111, 112, 113, 114, 115, 116, 117, 118, 119, 120, 121, 122, 123, 124, 125, 126, 127, 128, 129, 130, 131, 132, 133, 134, 135, 136, 137, 138, 139, 140, 141, 142, 143, 144, 145, 146, 147, 148, 149, 150, 151, 152, 153, 154, 155, 156, 157, 158, 159, 160, 161, 162, 163, 164, 165, 166, 167] rfl (by decide +kernel)
set_option maxRecDepth 20000 in
theorem gX12_dealRow_X12_finds : GoodIn wsX12_dealRow (wsV RX12 447 RX12 yX12_finds wsX12_finds) := goodIn_app (goodIn_of _ (by decide +kernel)) ggX12_dealRow_X12_finds
set_option maxRecDepth 20000 in
theorem ggX12_dealRow_X12_first : GoodIn wsX12_dealRow wsX12_first := goodIn_r _ [66, 67, 12, 93, 94, 95, 96, 97, 98, 99, 100, 101, 102, 103, 104, 105, 106, 107, 108, 109, 110, 111, 112, 113, 114, 115, 116, 117, 118, 119, 120, 121, 122, 123, 124, 125, 126, 127, 128, 129, 130, 131, 132, 133, 134, 135, 136, 137, 138, 139, 140, 141, 142, 143, 144, 145, 146, 147, 148, 149, 150, 151, 152, 153, 154, 155, 156, 157, 158, 159, 160, 161, 162, 163, 164, 165, 166, 167] rfl (by decide +kernel)
set_option maxRecDepth 20000 in
theorem gX12_dealRow_X12_first : GoodIn wsX12_dealRow (wsV RX12 389 RX12 yX12_first wsX12_first) := goodIn_app (goodIn_of _ (by decide +kernel)) ggX12_dealRow_X12_first
set_option maxRecDepth 20000 in
theorem ggX12_dealRow_X12_aloneOf : GoodIn wsX12_dealRow wsX12_aloneOf := goodIn_r _ [50, 51, 12, 93, 94, 95, 96, 97, 98, 99, 100, 101, 102, 103, 104, 105, 106, 107, 108, 109, 110, 111, 112, 113, 114, 115, 116, 117, 118, 119, 120, 121, 122, 123, 124, 125, 126, 127, 128, 129, 130, 131, 132, 133, 134, 135, 136, 137, 138, 139, 140, 141, 142, 143, 144, 145, 146, 147, 148, 149, 150, 151, 152, 153, 154, 155, 156, 157, 158, 159, 160, 161, 162, 163, 164, 165, 166, 167] rfl (by decide +kernel)
set_option maxRecDepth 20000 in
theorem gX12_dealRow_X12_aloneOf : GoodIn wsX12_dealRow (wsV RX12 411 RX12 yX12_aloneOf wsX12_aloneOf) := goodIn_app (goodIn_of _ (by decide +kernel)) ggX12_dealRow_X12_aloneOf
set_option maxRecDepth 20000 in
theorem ggX12_dealRow_X12_gainOf : GoodIn wsX12_dealRow wsX12_gainOf := goodIn_r _ [76, 14, 13, 63, 64, 65, 8, 66, 67, 12, 47, 48, 49, 50, 51, 68, 69, 70, 71, 72, 93, 94, 95, 96, 97, 98, 99, 100, 101, 102, 103, 104, 105, 106, 107, 108, 109, 110, 111, 112, 113, 114, 115, 116, 117, 118, 119, 120, 121, 122, 123, 124, 125, 126, 127, 128, 129, 130, 131, 132, 133, 134, 135, 136, 137, 138, 139, 140, 141, 142, 143, 144, 145, 146, 147, 148, 149, 150, 151, 152, 153, 154, 155, 156, 157, 158, 159, 160, 161, 162, 163, 164, 165, 166, 167] rfl (by decide +kernel)
set_option maxRecDepth 20000 in
theorem gX12_dealRow_X12_gainOf : GoodIn wsX12_dealRow (wsV RX12 430 RX12 yX12_gainOf wsX12_gainOf) := goodIn_app (goodIn_of _ (by decide +kernel)) ggX12_dealRow_X12_gainOf
theorem dX12_dealRow_0 : decode cX12_dealRow 0 = .ok (.aload_n 0, 1) := by decide +kernel
theorem dX12_dealRow_1 : decode cX12_dealRow 1 = .ok (.iconst (-1), 1) := by decide +kernel
theorem dX12_dealRow_2 : decode cX12_dealRow 2 = .ok (.iconst 0, 1) := by decide +kernel
theorem dX12_dealRow_3 : decode cX12_dealRow 3 = .ok (.invokevirtual 434, 3) := by decide +kernel
theorem dX12_dealRow_6 : decode cX12_dealRow 6 = .ok (.aload_n 0, 1) := by decide +kernel
theorem dX12_dealRow_7 : decode cX12_dealRow 7 = .ok (.invokevirtual 447, 3) := by decide +kernel
theorem dX12_dealRow_10 : decode cX12_dealRow 10 = .ok (.iconst 0, 1) := by decide +kernel
theorem dX12_dealRow_11 : decode cX12_dealRow 11 = .ok (.istore_n 1, 1) := by decide +kernel
theorem dX12_dealRow_12 : decode cX12_dealRow 12 = .ok (.iload_n 1, 1) := by decide +kernel
theorem dX12_dealRow_13 : decode cX12_dealRow 13 = .ok (.bipush 30, 2) := by decide +kernel
theorem dX12_dealRow_15 : decode cX12_dealRow 15 = .ok (.if_icmp .ge 16, 3) := by decide +kernel
theorem dX12_dealRow_18 : decode cX12_dealRow 18 = .ok (.aload_n 0, 1) := by decide +kernel
theorem dX12_dealRow_19 : decode cX12_dealRow 19 = .ok (.getfield 204, 3) := by decide +kernel
theorem dX12_dealRow_22 : decode cX12_dealRow 22 = .ok (.iload_n 1, 1) := by decide +kernel
theorem dX12_dealRow_23 : decode cX12_dealRow 23 = .ok (.iconst 0, 1) := by decide +kernel
theorem dX12_dealRow_24 : decode cX12_dealRow 24 = .ok (.bastore, 1) := by decide +kernel
theorem dX12_dealRow_25 : decode cX12_dealRow 25 = .ok (.iinc 1 1, 3) := by decide +kernel
theorem dX12_dealRow_28 : decode cX12_dealRow 28 = .ok (.goto (-16), 3) := by decide +kernel
theorem dX12_dealRow_31 : decode cX12_dealRow 31 = .ok (.iconst 0, 1) := by decide +kernel
theorem dX12_dealRow_32 : decode cX12_dealRow 32 = .ok (.istore_n 1, 1) := by decide +kernel
theorem dX12_dealRow_33 : decode cX12_dealRow 33 = .ok (.iload_n 1, 1) := by decide +kernel
theorem dX12_dealRow_34 : decode cX12_dealRow 34 = .ok (.aload_n 0, 1) := by decide +kernel
theorem dX12_dealRow_35 : decode cX12_dealRow 35 = .ok (.getfield 183, 3) := by decide +kernel
theorem dX12_dealRow_38 : decode cX12_dealRow 38 = .ok (.if_icmp .ge 59, 3) := by decide +kernel
theorem dX12_dealRow_41 : decode cX12_dealRow 41 = .ok (.aload_n 0, 1) := by decide +kernel
theorem dX12_dealRow_42 : decode cX12_dealRow 42 = .ok (.getfield 204, 3) := by decide +kernel
theorem dX12_dealRow_45 : decode cX12_dealRow 45 = .ok (.aload_n 0, 1) := by decide +kernel
theorem dX12_dealRow_46 : decode cX12_dealRow 46 = .ok (.getfield 186, 3) := by decide +kernel
theorem dX12_dealRow_49 : decode cX12_dealRow 49 = .ok (.iload_n 1, 1) := by decide +kernel
theorem dX12_dealRow_50 : decode cX12_dealRow 50 = .ok (.iaload, 1) := by decide +kernel
theorem dX12_dealRow_51 : decode cX12_dealRow 51 = .ok (.iconst 1, 1) := by decide +kernel
theorem dX12_dealRow_52 : decode cX12_dealRow 52 = .ok (.bastore, 1) := by decide +kernel
theorem dX12_dealRow_53 : decode cX12_dealRow 53 = .ok (.aload_n 0, 1) := by decide +kernel
theorem dX12_dealRow_54 : decode cX12_dealRow 54 = .ok (.getfield 207, 3) := by decide +kernel
theorem dX12_dealRow_57 : decode cX12_dealRow 57 = .ok (.aload_n 0, 1) := by decide +kernel
theorem dX12_dealRow_58 : decode cX12_dealRow 58 = .ok (.getfield 186, 3) := by decide +kernel
theorem dX12_dealRow_61 : decode cX12_dealRow 61 = .ok (.iload_n 1, 1) := by decide +kernel
theorem dX12_dealRow_62 : decode cX12_dealRow 62 = .ok (.iaload, 1) := by decide +kernel
theorem dX12_dealRow_63 : decode cX12_dealRow 63 = .ok (.aload_n 0, 1) := by decide +kernel
theorem dX12_dealRow_64 : decode cX12_dealRow 64 = .ok (.aload_n 0, 1) := by decide +kernel
theorem dX12_dealRow_65 : decode cX12_dealRow 65 = .ok (.aload_n 0, 1) := by decide +kernel
theorem dX12_dealRow_66 : decode cX12_dealRow 66 = .ok (.getfield 186, 3) := by decide +kernel
theorem dX12_dealRow_69 : decode cX12_dealRow 69 = .ok (.iload_n 1, 1) := by decide +kernel
theorem dX12_dealRow_70 : decode cX12_dealRow 70 = .ok (.iaload, 1) := by decide +kernel
theorem dX12_dealRow_71 : decode cX12_dealRow 71 = .ok (.invokevirtual 389, 3) := by decide +kernel
theorem dX12_dealRow_74 : decode cX12_dealRow 74 = .ok (.invokevirtual 411, 3) := by decide +kernel
theorem dX12_dealRow_77 : decode cX12_dealRow 77 = .ok (.aload_n 0, 1) := by decide +kernel
theorem dX12_dealRow_78 : decode cX12_dealRow 78 = .ok (.aload_n 0, 1) := by decide +kernel
theorem dX12_dealRow_79 : decode cX12_dealRow 79 = .ok (.getfield 186, 3) := by decide +kernel
theorem dX12_dealRow_82 : decode cX12_dealRow 82 = .ok (.iload_n 1, 1) := by decide +kernel
theorem dX12_dealRow_83 : decode cX12_dealRow 83 = .ok (.iaload, 1) := by decide +kernel
theorem dX12_dealRow_84 : decode cX12_dealRow 84 = .ok (.invokevirtual 430, 3) := by decide +kernel
theorem dX12_dealRow_87 : decode cX12_dealRow 87 = .ok (.iconst 2, 1) := by decide +kernel
theorem dX12_dealRow_88 : decode cX12_dealRow 88 = .ok (.idiv, 1) := by decide +kernel
theorem dX12_dealRow_89 : decode cX12_dealRow 89 = .ok (.iadd, 1) := by decide +kernel
theorem dX12_dealRow_90 : decode cX12_dealRow 90 = .ok (.iastore, 1) := by decide +kernel
theorem dX12_dealRow_91 : decode cX12_dealRow 91 = .ok (.iinc 1 1, 3) := by decide +kernel
theorem dX12_dealRow_94 : decode cX12_dealRow 94 = .ok (.goto (-61), 3) := by decide +kernel
theorem dX12_dealRow_97 : decode cX12_dealRow 97 = .ok (.aload_n 0, 1) := by decide +kernel
theorem dX12_dealRow_98 : decode cX12_dealRow 98 = .ok (.getfield 183, 3) := by decide +kernel
theorem dX12_dealRow_101 : decode cX12_dealRow 101 = .ok (.ireturn, 1) := by decide +kernel
set_option maxRecDepth 20000 in
theorem ggX12_shares_X12_aloneOf : GoodIn wsX12_shares wsX12_aloneOf := goodIn_r _ [14, 15, 2, 26, 27, 28, 29, 30, 31, 32, 33, 34, 35, 36, 37, 38, 39, 40, 41, 42, 43, 44, 45, 46, 47, 48, 49, 50, 51, 52, 53, 54, 55, 56, 57, 58, 59, 60, 61, 62, 63, 64, 65, 66, 67, 68, 69, 70, 71, 72, 73, 74, 75, 76, 77, 78, 79, 80, 81, 82, 83, 84, 85, 86, 87, 88, 89, 90, 91, 92, 93, 94, 95, 96, 97, 98, 99, 100] rfl (by decide +kernel)
set_option maxRecDepth 20000 in
theorem gX12_shares_X12_aloneOf : GoodIn wsX12_shares (wsV RX12 411 RX12 yX12_aloneOf wsX12_aloneOf) := goodIn_app (goodIn_of _ (by decide +kernel)) ggX12_shares_X12_aloneOf
set_option maxRecDepth 20000 in
theorem ggX12_shares_X12_first : GoodIn wsX12_shares wsX12_first := goodIn_r _ [19, 20, 2, 26, 27, 28, 29, 30, 31, 32, 33, 34, 35, 36, 37, 38, 39, 40, 41, 42, 43, 44, 45, 46, 47, 48, 49, 50, 51, 52, 53, 54, 55, 56, 57, 58, 59, 60, 61, 62, 63, 64, 65, 66, 67, 68, 69, 70, 71, 72, 73, 74, 75, 76, 77, 78, 79, 80, 81, 82, 83, 84, 85, 86, 87, 88, 89, 90, 91, 92, 93, 94, 95, 96, 97, 98, 99, 100] rfl (by decide +kernel)
set_option maxRecDepth 20000 in
theorem gX12_shares_X12_first : GoodIn wsX12_shares (wsV RX12 389 RX12 yX12_first wsX12_first) := goodIn_app (goodIn_of _ (by decide +kernel)) ggX12_shares_X12_first
set_option maxRecDepth 20000 in
theorem ggX12_shares_X12_second : GoodIn wsX12_shares wsX12_second := goodIn_r _ [24, 25, 2, 26, 27, 28, 29, 30, 31, 32, 33, 34, 35, 36, 37, 38, 39, 40, 41, 42, 43, 44, 45, 46, 47, 48, 49, 50, 51, 52, 53, 54, 55, 56, 57, 58, 59, 60, 61, 62, 63, 64, 65, 66, 67, 68, 69, 70, 71, 72, 73, 74, 75, 76, 77, 78, 79, 80, 81, 82, 83, 84, 85, 86, 87, 88, 89, 90, 91, 92, 93, 94, 95, 96, 97, 98, 99, 100] rfl (by decide +kernel)
set_option maxRecDepth 20000 in
theorem gX12_shares_X12_second : GoodIn wsX12_shares (wsV RX12 392 RX12 yX12_second wsX12_second) := goodIn_app (goodIn_of _ (by decide +kernel)) ggX12_shares_X12_second
theorem dX12_shares_0 : decode cX12_shares 0 = .ok (.iconst 0, 1) := by decide +kernel
theorem dX12_shares_1 : decode cX12_shares 1 = .ok (.istore_n 1, 1) := by decide +kernel
theorem dX12_shares_2 : decode cX12_shares 2 = .ok (.iload_n 1, 1) := by decide +kernel
theorem dX12_shares_3 : decode cX12_shares 3 = .ok (.aload_n 0, 1) := by decide +kernel
theorem dX12_shares_4 : decode cX12_shares 4 = .ok (.getfield 51, 3) := by decide +kernel
theorem dX12_shares_7 : decode cX12_shares 7 = .ok (.aload_n 0, 1) := by decide +kernel
theorem dX12_shares_8 : decode cX12_shares 8 = .ok (.getfield 48, 3) := by decide +kernel
theorem dX12_shares_11 : decode cX12_shares 11 = .ok (.iaload, 1) := by decide +kernel
theorem dX12_shares_12 : decode cX12_shares 12 = .ok (.if_icmp .ge 28, 3) := by decide +kernel
theorem dX12_shares_15 : decode cX12_shares 15 = .ok (.aload_n 0, 1) := by decide +kernel
theorem dX12_shares_16 : decode cX12_shares 16 = .ok (.getfield 210, 3) := by decide +kernel
theorem dX12_shares_19 : decode cX12_shares 19 = .ok (.iload_n 1, 1) := by decide +kernel
theorem dX12_shares_20 : decode cX12_shares 20 = .ok (.iconst (-1), 1) := by decide +kernel
theorem dX12_shares_21 : decode cX12_shares 21 = .ok (.iastore, 1) := by decide +kernel
theorem dX12_shares_22 : decode cX12_shares 22 = .ok (.aload_n 0, 1) := by decide +kernel
theorem dX12_shares_23 : decode cX12_shares 23 = .ok (.getfield 213, 3) := by decide +kernel
theorem dX12_shares_26 : decode cX12_shares 26 = .ok (.iload_n 1, 1) := by decide +kernel
theorem dX12_shares_27 : decode cX12_shares 27 = .ok (.aload_n 0, 1) := by decide +kernel
theorem dX12_shares_28 : decode cX12_shares 28 = .ok (.iload_n 1, 1) := by decide +kernel
theorem dX12_shares_29 : decode cX12_shares 29 = .ok (.invokevirtual 411, 3) := by decide +kernel
theorem dX12_shares_32 : decode cX12_shares 32 = .ok (.i2l, 1) := by decide +kernel
theorem dX12_shares_33 : decode cX12_shares 33 = .ok (.lastore, 1) := by decide +kernel
theorem dX12_shares_34 : decode cX12_shares 34 = .ok (.iinc 1 1, 3) := by decide +kernel
theorem dX12_shares_37 : decode cX12_shares 37 = .ok (.goto (-35), 3) := by decide +kernel
theorem dX12_shares_40 : decode cX12_shares 40 = .ok (.iconst 0, 1) := by decide +kernel
theorem dX12_shares_41 : decode cX12_shares 41 = .ok (.istore_n 1, 1) := by decide +kernel
theorem dX12_shares_42 : decode cX12_shares 42 = .ok (.iload_n 1, 1) := by decide +kernel
theorem dX12_shares_43 : decode cX12_shares 43 = .ok (.aload_n 0, 1) := by decide +kernel
theorem dX12_shares_44 : decode cX12_shares 44 = .ok (.getfield 54, 3) := by decide +kernel
theorem dX12_shares_47 : decode cX12_shares 47 = .ok (.aload_n 0, 1) := by decide +kernel
theorem dX12_shares_48 : decode cX12_shares 48 = .ok (.getfield 48, 3) := by decide +kernel
theorem dX12_shares_51 : decode cX12_shares 51 = .ok (.iaload, 1) := by decide +kernel
theorem dX12_shares_52 : decode cX12_shares 52 = .ok (.if_icmp .ge 94, 3) := by decide +kernel
theorem dX12_shares_55 : decode cX12_shares 55 = .ok (.aload_n 0, 1) := by decide +kernel
theorem dX12_shares_56 : decode cX12_shares 56 = .ok (.getfield 204, 3) := by decide +kernel
theorem dX12_shares_59 : decode cX12_shares 59 = .ok (.iload_n 1, 1) := by decide +kernel
theorem dX12_shares_60 : decode cX12_shares 60 = .ok (.baload, 1) := by decide +kernel
theorem dX12_shares_61 : decode cX12_shares 61 = .ok (.ifCond .eq 79, 3) := by decide +kernel
theorem dX12_shares_64 : decode cX12_shares 64 = .ok (.aload_n 0, 1) := by decide +kernel
theorem dX12_shares_65 : decode cX12_shares 65 = .ok (.getfield 162, 3) := by decide +kernel
theorem dX12_shares_68 : decode cX12_shares 68 = .ok (.iload_n 1, 1) := by decide +kernel
theorem dX12_shares_69 : decode cX12_shares 69 = .ok (.baload, 1) := by decide +kernel
theorem dX12_shares_70 : decode cX12_shares 70 = .ok (.ifCond .ne 6, 3) := by decide +kernel
theorem dX12_shares_73 : decode cX12_shares 73 = .ok (.goto 67, 3) := by decide +kernel
theorem dX12_shares_76 : decode cX12_shares 76 = .ok (.aload_n 0, 1) := by decide +kernel
theorem dX12_shares_77 : decode cX12_shares 77 = .ok (.getfield 210, 3) := by decide +kernel
theorem dX12_shares_80 : decode cX12_shares 80 = .ok (.aload_n 0, 1) := by decide +kernel
theorem dX12_shares_81 : decode cX12_shares 81 = .ok (.iload_n 1, 1) := by decide +kernel
theorem dX12_shares_82 : decode cX12_shares 82 = .ok (.invokevirtual 389, 3) := by decide +kernel
theorem dX12_shares_85 : decode cX12_shares 85 = .ok (.iload_n 1, 1) := by decide +kernel
theorem dX12_shares_86 : decode cX12_shares 86 = .ok (.iastore, 1) := by decide +kernel
theorem dX12_shares_87 : decode cX12_shares 87 = .ok (.aload_n 0, 1) := by decide +kernel
theorem dX12_shares_88 : decode cX12_shares 88 = .ok (.getfield 210, 3) := by decide +kernel
theorem dX12_shares_91 : decode cX12_shares 91 = .ok (.aload_n 0, 1) := by decide +kernel
theorem dX12_shares_92 : decode cX12_shares 92 = .ok (.iload_n 1, 1) := by decide +kernel
theorem dX12_shares_93 : decode cX12_shares 93 = .ok (.invokevirtual 392, 3) := by decide +kernel
theorem dX12_shares_96 : decode cX12_shares 96 = .ok (.iload_n 1, 1) := by decide +kernel
theorem dX12_shares_97 : decode cX12_shares 97 = .ok (.iastore, 1) := by decide +kernel
theorem dX12_shares_98 : decode cX12_shares 98 = .ok (.aload_n 0, 1) := by decide +kernel
theorem dX12_shares_99 : decode cX12_shares 99 = .ok (.getfield 213, 3) := by decide +kernel
theorem dX12_shares_102 : decode cX12_shares 102 = .ok (.aload_n 0, 1) := by decide +kernel
theorem dX12_shares_103 : decode cX12_shares 103 = .ok (.iload_n 1, 1) := by decide +kernel
theorem dX12_shares_104 : decode cX12_shares 104 = .ok (.invokevirtual 389, 3) := by decide +kernel
theorem dX12_shares_107 : decode cX12_shares 107 = .ok (.aload_n 0, 1) := by decide +kernel
theorem dX12_shares_108 : decode cX12_shares 108 = .ok (.getfield 207, 3) := by decide +kernel
theorem dX12_shares_111 : decode cX12_shares 111 = .ok (.iload_n 1, 1) := by decide +kernel
theorem dX12_shares_112 : decode cX12_shares 112 = .ok (.iaload, 1) := by decide +kernel
theorem dX12_shares_113 : decode cX12_shares 113 = .ok (.i2l, 1) := by decide +kernel
theorem dX12_shares_114 : decode cX12_shares 114 = .ok (.lastore, 1) := by decide +kernel
theorem dX12_shares_115 : decode cX12_shares 115 = .ok (.aload_n 0, 1) := by decide +kernel
theorem dX12_shares_116 : decode cX12_shares 116 = .ok (.getfield 213, 3) := by decide +kernel
theorem dX12_shares_119 : decode cX12_shares 119 = .ok (.aload_n 0, 1) := by decide +kernel
theorem dX12_shares_120 : decode cX12_shares 120 = .ok (.iload_n 1, 1) := by decide +kernel
theorem dX12_shares_121 : decode cX12_shares 121 = .ok (.invokevirtual 392, 3) := by decide +kernel
theorem dX12_shares_124 : decode cX12_shares 124 = .ok (.aload_n 0, 1) := by decide +kernel
theorem dX12_shares_125 : decode cX12_shares 125 = .ok (.getfield 165, 3) := by decide +kernel
theorem dX12_shares_128 : decode cX12_shares 128 = .ok (.iload_n 1, 1) := by decide +kernel
theorem dX12_shares_129 : decode cX12_shares 129 = .ok (.iaload, 1) := by decide +kernel
theorem dX12_shares_130 : decode cX12_shares 130 = .ok (.i2l, 1) := by decide +kernel
theorem dX12_shares_131 : decode cX12_shares 131 = .ok (.aload_n 0, 1) := by decide +kernel
theorem dX12_shares_132 : decode cX12_shares 132 = .ok (.getfield 207, 3) := by decide +kernel
theorem dX12_shares_135 : decode cX12_shares 135 = .ok (.iload_n 1, 1) := by decide +kernel
theorem dX12_shares_136 : decode cX12_shares 136 = .ok (.iaload, 1) := by decide +kernel
theorem dX12_shares_137 : decode cX12_shares 137 = .ok (.i2l, 1) := by decide +kernel
theorem dX12_shares_138 : decode cX12_shares 138 = .ok (.lsub, 1) := by decide +kernel
theorem dX12_shares_139 : decode cX12_shares 139 = .ok (.lastore, 1) := by decide +kernel
theorem dX12_shares_140 : decode cX12_shares 140 = .ok (.iinc 1 1, 3) := by decide +kernel
theorem dX12_shares_143 : decode cX12_shares 143 = .ok (.goto (-101), 3) := by decide +kernel
theorem dX12_shares_146 : decode cX12_shares 146 = .ok (.return_, 1) := by decide +kernel
set_option maxRecDepth 20000 in
theorem ggX12_laysAll_X12_lays : GoodIn wsX12_laysAll wsX12_lays := goodIn_r _ [5, 6, 7, 8, 9, 10, 11, 12, 13, 14, 4, 15, 16, 17, 18, 19, 20, 21, 22, 23, 24, 25, 26, 27, 28, 29, 30, 31, 32, 33, 34, 35, 36, 37, 38, 39, 40, 41, 42, 43, 44, 45, 46, 47, 48, 49, 50, 51, 52, 53, 54, 55, 56, 57, 58, 59, 60, 61, 62, 63, 64, 65, 66, 67, 68, 69, 70, 71, 72, 82, 83, 84, 85, 86, 87, 88, 89, 90, 91, 92, 93, 94, 95, 96, 97, 98, 99, 100, 101, 102, 103, 104, 105, 106, 107, 108, 109, 110, 111, 112, 113, 114, 115, 116, 117, 118, 119, 120, 121, 122, 123, 124, 125, 126, 127, 128, 129, 130, 131, 132, 133, 134, 135, 136, 137, 138, 139, 140, 141, 142, 143, 144, 145, 146, 147, 148, 149, 150, 151, 152, 153, 154, 155, 156] rfl (by decide +kernel)
set_option maxRecDepth 20000 in
theorem gX12_laysAll_X12_lays : GoodIn wsX12_laysAll (wsV RX12 434 RX12 yX12_lays wsX12_lays) := goodIn_app (goodIn_of _ (by decide +kernel)) ggX12_laysAll_X12_lays
set_option maxRecDepth 20000 in
theorem ggX12_laysAll_X12_shares : GoodIn wsX12_laysAll wsX12_shares := goodIn_r _ [76, 77, 8, 78, 79, 7, 80, 9, 81, 10, 43, 44, 45, 4, 46, 47, 59, 60, 61, 62, 63, 64, 65, 66, 67, 68, 82, 83, 84, 85, 86, 87, 88, 89, 90, 91, 92, 93, 94, 95, 96, 97, 98, 99, 100, 101, 102, 103, 104, 105, 106, 107, 108, 109, 110, 111, 112, 113, 114, 115, 116, 117, 118, 119, 120, 121, 122, 123, 124, 125, 126, 127, 128, 129, 130, 131, 132, 133, 134, 135, 136, 137, 138, 139, 140, 141, 142, 143, 144, 145, 146, 147, 148, 149, 150, 151, 152, 153, 154, 155, 156] rfl (by decide +kernel)
set_option maxRecDepth 20000 in
theorem gX12_laysAll_X12_shares : GoodIn wsX12_laysAll (wsV RX12 491 RX12 yX12_shares wsX12_shares) := goodIn_app (goodIn_of _ (by decide +kernel)) ggX12_laysAll_X12_shares
theorem dX12_laysAll_0 : decode cX12_laysAll 0 = .ok (.aload_n 0, 1) := by decide +kernel
theorem dX12_laysAll_1 : decode cX12_laysAll 1 = .ok (.iconst (-1), 1) := by decide +kernel
theorem dX12_laysAll_2 : decode cX12_laysAll 2 = .ok (.iconst 0, 1) := by decide +kernel
theorem dX12_laysAll_3 : decode cX12_laysAll 3 = .ok (.invokevirtual 434, 3) := by decide +kernel
theorem dX12_laysAll_6 : decode cX12_laysAll 6 = .ok (.aload_n 0, 1) := by decide +kernel
theorem dX12_laysAll_7 : decode cX12_laysAll 7 = .ok (.invokevirtual 491, 3) := by decide +kernel
theorem dX12_laysAll_10 : decode cX12_laysAll 10 = .ok (.return_, 1) := by decide +kernel
set_option maxRecDepth 20000 in
theorem ggX12_share_X12_isWho : GoodIn wsX12_share wsX12_isWho := goodIn_r _ [7, 8, 9, 10, 11, 6, 12, 94, 95, 96, 97, 98, 99, 100, 101, 102, 103, 104, 105, 106, 107, 108, 109, 110, 111, 112, 113, 114, 115, 116, 117, 118, 119, 120, 121, 122, 123, 124, 125, 126, 127, 128, 129, 130, 131, 132, 133, 134, 135, 136, 137, 138, 139, 140, 141, 142, 143, 144, 145, 146, 147, 148, 149, 150, 151, 152, 153, 154, 155, 156, 157, 158, 159, 160, 161, 162, 163, 164, 165, 166, 167, 168] rfl (by decide +kernel)
set_option maxRecDepth 20000 in
theorem gX12_share_X12_isWho : GoodIn wsX12_share (wsV RX12 381 RX12 yX12_isWho wsX12_isWho) := goodIn_app (goodIn_of _ (by decide +kernel)) ggX12_share_X12_isWho
set_option maxRecDepth 20000 in
theorem ggX12_share_X12_laysAll : GoodIn wsX12_share wsX12_laysAll := goodIn_r _ [16, 17, 18, 19, 6, 20, 21, 22, 9, 23, 24, 25, 26, 27, 28, 29, 30, 31, 32, 33, 34, 35, 36, 37, 38, 39, 40, 41, 42, 43, 44, 45, 46, 47, 48, 49, 50, 51, 52, 53, 54, 55, 56, 57, 58, 59, 60, 61, 62, 63, 64, 65, 66, 67, 68, 69, 70, 71, 72, 73, 74, 75, 76, 77, 78, 79, 80, 81, 82, 83, 84, 85, 86, 87, 88, 89, 90, 8, 91, 2, 92, 93, 94, 95, 96, 97, 98, 99, 100, 101, 102, 103, 104, 105, 106, 107, 108, 109, 110, 111, 112, 113, 114, 115, 116, 117, 118, 119, 120, 121, 122, 123, 124, 125, 126, 127, 128, 129, 130, 131, 132, 133, 134, 135, 136, 137, 138, 139, 140, 141, 142, 143, 144, 145, 146, 147, 148, 149, 150, 151, 152, 153, 154, 155, 156, 157, 158, 159, 160, 161, 162, 163, 164, 165, 166, 167, 168] rfl (by decide +kernel)
set_option maxRecDepth 20000 in
theorem gX12_share_X12_laysAll : GoodIn wsX12_share (wsV RX12 494 RX12 yX12_laysAll wsX12_laysAll) := goodIn_app (goodIn_of _ (by decide +kernel)) ggX12_share_X12_laysAll
theorem dX12_share_0 : decode cX12_share 0 = .ok (.aload_n 0, 1) := by decide +kernel
theorem dX12_share_1 : decode cX12_share 1 = .ok (.iload_n 1, 1) := by decide +kernel
theorem dX12_share_2 : decode cX12_share 2 = .ok (.invokevirtual 381, 3) := by decide +kernel
theorem dX12_share_5 : decode cX12_share 5 = .ok (.ifCond .ne 7, 3) := by decide +kernel
theorem dX12_share_8 : decode cX12_share 8 = .ok (.ldc_w 433, 3) := by decide +kernel
theorem dX12_share_11 : decode cX12_share 11 = .ok (.ireturn, 1) := by decide +kernel
theorem dX12_share_12 : decode cX12_share 12 = .ok (.aload_n 0, 1) := by decide +kernel
theorem dX12_share_13 : decode cX12_share 13 = .ok (.invokevirtual 494, 3) := by decide +kernel
theorem dX12_share_16 : decode cX12_share 16 = .ok (.aload_n 0, 1) := by decide +kernel
theorem dX12_share_17 : decode cX12_share 17 = .ok (.getfield 213, 3) := by decide +kernel
theorem dX12_share_20 : decode cX12_share 20 = .ok (.iload_n 1, 1) := by decide +kernel
theorem dX12_share_21 : decode cX12_share 21 = .ok (.laload, 1) := by decide +kernel
theorem dX12_share_22 : decode cX12_share 22 = .ok (.l2i, 1) := by decide +kernel
theorem dX12_share_23 : decode cX12_share 23 = .ok (.ireturn, 1) := by decide +kernel
set_option maxRecDepth 20000 in
theorem ggX12_otherOn_X12_first : GoodIn wsX12_otherOn wsX12_first := goodIn_r _ [5, 6, 7, 13, 14, 15, 16, 17, 18, 19, 20, 21, 22, 23, 24, 25, 26, 27, 28, 29, 30, 31, 32, 33, 34, 35, 36, 37, 38, 39, 40, 41, 42, 43, 44, 45, 46, 47, 48, 49, 50, 51, 52, 53, 54, 55, 56, 57, 58, 59, 60, 61, 62, 63, 64, 65, 66, 67, 68, 69, 70, 71, 72, 73, 74, 75, 76, 77, 78, 79, 80, 81, 82, 83, 84, 85, 86, 87] rfl (by decide +kernel)
set_option maxRecDepth 20000 in
theorem gX12_otherOn_X12_first : GoodIn wsX12_otherOn (wsV RX12 389 RX12 yX12_first wsX12_first) := goodIn_app (goodIn_of _ (by decide +kernel)) ggX12_otherOn_X12_first
set_option maxRecDepth 20000 in
theorem ggX12_otherOn_X12_second : GoodIn wsX12_otherOn wsX12_second := goodIn_r _ [11, 12, 7, 13, 14, 15, 16, 17, 18, 19, 20, 21, 22, 23, 24, 25, 26, 27, 28, 29, 30, 31, 32, 33, 34, 35, 36, 37, 38, 39, 40, 41, 42, 43, 44, 45, 46, 47, 48, 49, 50, 51, 52, 53, 54, 55, 56, 57, 58, 59, 60, 61, 62, 63, 64, 65, 66, 67, 68, 69, 70, 71, 72, 73, 74, 75, 76, 77, 78, 79, 80, 81, 82, 83, 84, 85, 86, 87] rfl (by decide +kernel)
set_option maxRecDepth 20000 in
theorem gX12_otherOn_X12_second : GoodIn wsX12_otherOn (wsV RX12 392 RX12 yX12_second wsX12_second) := goodIn_app (goodIn_of _ (by decide +kernel)) ggX12_otherOn_X12_second
theorem dX12_otherOn_0 : decode cX12_otherOn 0 = .ok (.aload_n 0, 1) := by decide +kernel
theorem dX12_otherOn_1 : decode cX12_otherOn 1 = .ok (.iload_n 1, 1) := by decide +kernel
theorem dX12_otherOn_2 : decode cX12_otherOn 2 = .ok (.invokevirtual 389, 3) := by decide +kernel
theorem dX12_otherOn_5 : decode cX12_otherOn 5 = .ok (.iload_n 2, 1) := by decide +kernel
theorem dX12_otherOn_6 : decode cX12_otherOn 6 = .ok (.if_icmp .ne 11, 3) := by decide +kernel
theorem dX12_otherOn_9 : decode cX12_otherOn 9 = .ok (.aload_n 0, 1) := by decide +kernel
theorem dX12_otherOn_10 : decode cX12_otherOn 10 = .ok (.iload_n 1, 1) := by decide +kernel
theorem dX12_otherOn_11 : decode cX12_otherOn 11 = .ok (.invokevirtual 392, 3) := by decide +kernel
theorem dX12_otherOn_14 : decode cX12_otherOn 14 = .ok (.goto 8, 3) := by decide +kernel
theorem dX12_otherOn_17 : decode cX12_otherOn 17 = .ok (.aload_n 0, 1) := by decide +kernel
theorem dX12_otherOn_18 : decode cX12_otherOn 18 = .ok (.iload_n 1, 1) := by decide +kernel
theorem dX12_otherOn_19 : decode cX12_otherOn 19 = .ok (.invokevirtual 389, 3) := by decide +kernel
theorem dX12_otherOn_22 : decode cX12_otherOn 22 = .ok (.ireturn, 1) := by decide +kernel
set_option maxRecDepth 20000 in
theorem ggX12_money_X12_isWho : GoodIn wsX12_money wsX12_isWho := goodIn_r _ [10, 11, 5, 12, 13, 9, 14, 98, 99, 100, 101, 102, 103, 104, 105, 106, 107, 108, 109, 110, 111, 112, 113, 114, 115, 116, 117, 118, 119, 120, 121, 122, 123, 124, 125, 126, 127, 128, 129, 130, 131, 132, 133, 134, 135, 136, 137, 138, 139, 140, 141, 142, 143, 144, 145, 146, 147, 148, 149, 150, 151, 152, 153, 154, 155, 156, 157, 158, 159, 160, 161, 162, 163, 164, 165, 166, 167, 168, 169, 170, 171, 172] rfl (by decide +kernel)
set_option maxRecDepth 20000 in
theorem gX12_money_X12_isWho : GoodIn wsX12_money (wsV RX12 381 RX12 yX12_isWho wsX12_isWho) := goodIn_app (goodIn_of _ (by decide +kernel)) ggX12_money_X12_isWho
set_option maxRecDepth 20000 in
theorem ggX12_money_X12_laysAll : GoodIn wsX12_money wsX12_laysAll := goodIn_r _ [18, 19, 20, 21, 9, 22, 23, 24, 5, 25, 26, 4, 27, 28, 29, 30, 31, 32, 33, 34, 35, 36, 37, 38, 39, 40, 41, 42, 43, 44, 45, 46, 47, 48, 49, 50, 51, 52, 53, 54, 55, 56, 57, 58, 59, 60, 61, 62, 63, 64, 65, 66, 67, 68, 69, 70, 71, 72, 73, 74, 75, 76, 77, 78, 79, 80, 81, 82, 83, 84, 85, 86, 87, 88, 89, 90, 91, 11, 2, 3, 92, 93, 98, 99, 100, 101, 102, 103, 104, 105, 106, 107, 108, 109, 110, 111, 112, 113, 114, 115, 116, 117, 118, 119, 120, 121, 122, 123, 124, 125, 126, 127, 128, 129, 130, 131, 132, 133, 134, 135, 136, 137, 138, 139, 140, 141, 142, 143, 144, 145, 146, 147, 148, 149, 150, 151, 152, 153, 154, 155, 156, 157, 158, 159, 160, 161, 162, 163, 164, 165, 166, 167, 168, 169, 170, 171, 172] rfl (by decide +kernel)
set_option maxRecDepth 20000 in
theorem gX12_money_X12_laysAll : GoodIn wsX12_money (wsV RX12 494 RX12 yX12_laysAll wsX12_laysAll) := goodIn_app (goodIn_of _ (by decide +kernel)) ggX12_money_X12_laysAll
set_option maxRecDepth 20000 in
theorem ggX12_money_X12_otherOn : GoodIn wsX12_money wsX12_otherOn := goodIn_r _ [97, 74, 75, 76, 9, 77, 78, 5, 79, 80, 81, 82, 83, 98, 99, 100, 101, 102, 103, 104, 105, 106, 107, 108, 109, 110, 111, 112, 113, 114, 115, 116, 117, 118, 119, 120, 121, 122, 123, 124, 125, 126, 127, 128, 129, 130, 131, 132, 133, 134, 135, 136, 137, 138, 139, 140, 141, 142, 143, 144, 145, 146, 147, 148, 149, 150, 151, 152, 153, 154, 155, 156, 157, 158, 159, 160, 161, 162, 163, 164, 165, 166, 167, 168, 169, 170, 171, 172] rfl (by decide +kernel)
set_option maxRecDepth 20000 in
theorem gX12_money_X12_otherOn : GoodIn wsX12_money (wsV RX12 497 RX12 yX12_otherOn wsX12_otherOn) := goodIn_app (goodIn_of _ (by decide +kernel)) ggX12_money_X12_otherOn
theorem dX12_money_0 : decode cX12_money 0 = .ok (.aload_n 0, 1) := by decide +kernel
theorem dX12_money_1 : decode cX12_money 1 = .ok (.iload_n 1, 1) := by decide +kernel
theorem dX12_money_2 : decode cX12_money 2 = .ok (.invokevirtual 381, 3) := by decide +kernel
theorem dX12_money_5 : decode cX12_money 5 = .ok (.ifCond .ne 7, 3) := by decide +kernel
theorem dX12_money_8 : decode cX12_money 8 = .ok (.ldc_w 433, 3) := by decide +kernel
theorem dX12_money_11 : decode cX12_money 11 = .ok (.ireturn, 1) := by decide +kernel
theorem dX12_money_12 : decode cX12_money 12 = .ok (.aload_n 0, 1) := by decide +kernel
theorem dX12_money_13 : decode cX12_money 13 = .ok (.invokevirtual 494, 3) := by decide +kernel
theorem dX12_money_16 : decode cX12_money 16 = .ok (.aload_n 0, 1) := by decide +kernel
theorem dX12_money_17 : decode cX12_money 17 = .ok (.getfield 210, 3) := by decide +kernel
theorem dX12_money_20 : decode cX12_money 20 = .ok (.iload_n 1, 1) := by decide +kernel
theorem dX12_money_21 : decode cX12_money 21 = .ok (.iaload, 1) := by decide +kernel
theorem dX12_money_22 : decode cX12_money 22 = .ok (.istore_n 2, 1) := by decide +kernel
theorem dX12_money_23 : decode cX12_money 23 = .ok (.iload_n 2, 1) := by decide +kernel
theorem dX12_money_24 : decode cX12_money 24 = .ok (.iconst (-1), 1) := by decide +kernel
theorem dX12_money_25 : decode cX12_money 25 = .ok (.if_icmp .ne 12, 3) := by decide +kernel
theorem dX12_money_28 : decode cX12_money 28 = .ok (.aload_n 0, 1) := by decide +kernel
theorem dX12_money_29 : decode cX12_money 29 = .ok (.getfield 213, 3) := by decide +kernel
theorem dX12_money_32 : decode cX12_money 32 = .ok (.iload_n 1, 1) := by decide +kernel
theorem dX12_money_33 : decode cX12_money 33 = .ok (.laload, 1) := by decide +kernel
theorem dX12_money_34 : decode cX12_money 34 = .ok (.goto 36, 3) := by decide +kernel
theorem dX12_money_37 : decode cX12_money 37 = .ok (.aload_n 0, 1) := by decide +kernel
theorem dX12_money_38 : decode cX12_money 38 = .ok (.getfield 213, 3) := by decide +kernel
theorem dX12_money_41 : decode cX12_money 41 = .ok (.iload_n 1, 1) := by decide +kernel
theorem dX12_money_42 : decode cX12_money 42 = .ok (.laload, 1) := by decide +kernel
theorem dX12_money_43 : decode cX12_money 43 = .ok (.aload_n 0, 1) := by decide +kernel
theorem dX12_money_44 : decode cX12_money 44 = .ok (.getfield 91, 3) := by decide +kernel
theorem dX12_money_47 : decode cX12_money 47 = .ok (.sipush 144, 3) := by decide +kernel
theorem dX12_money_50 : decode cX12_money 50 = .ok (.aload_n 0, 1) := by decide +kernel
theorem dX12_money_51 : decode cX12_money 51 = .ok (.getfield 48, 3) := by decide +kernel
theorem dX12_money_54 : decode cX12_money 54 = .ok (.imul, 1) := by decide +kernel
theorem dX12_money_55 : decode cX12_money 55 = .ok (.bipush 12, 2) := by decide +kernel
theorem dX12_money_57 : decode cX12_money 57 = .ok (.iload_n 1, 1) := by decide +kernel
theorem dX12_money_58 : decode cX12_money 58 = .ok (.imul, 1) := by decide +kernel
theorem dX12_money_59 : decode cX12_money 59 = .ok (.iadd, 1) := by decide +kernel
theorem dX12_money_60 : decode cX12_money 60 = .ok (.aload_n 0, 1) := by decide +kernel
theorem dX12_money_61 : decode cX12_money 61 = .ok (.iload_n 2, 1) := by decide +kernel
theorem dX12_money_62 : decode cX12_money 62 = .ok (.iload_n 1, 1) := by decide +kernel
theorem dX12_money_63 : decode cX12_money 63 = .ok (.invokevirtual 497, 3) := by decide +kernel
theorem dX12_money_66 : decode cX12_money 66 = .ok (.iadd, 1) := by decide +kernel
theorem dX12_money_67 : decode cX12_money 67 = .ok (.iaload, 1) := by decide +kernel
theorem dX12_money_68 : decode cX12_money 68 = .ok (.i2l, 1) := by decide +kernel
theorem dX12_money_69 : decode cX12_money 69 = .ok (.lsub, 1) := by decide +kernel
theorem dX12_money_70 : decode cX12_money 70 = .ok (.l2i, 1) := by decide +kernel
theorem dX12_money_71 : decode cX12_money 71 = .ok (.ireturn, 1) := by decide +kernel
set_option maxRecDepth 20000 in
theorem ggX12_elseOf_X12_aloneOf : GoodIn wsX12_elseOf wsX12_aloneOf := goodIn_r _ [11, 12, 2, 27, 28, 29, 30, 31, 32, 33, 34, 35, 36, 37, 38, 39, 40, 41, 42, 43, 44, 45, 46, 47, 48, 49, 50, 51, 52, 53, 54, 55, 56, 57, 58, 59, 60, 61, 62, 63, 64, 65, 66, 67, 68, 69, 70, 71, 72, 73, 74, 75, 76, 77, 78, 79, 80, 81, 82, 83, 84, 85, 86, 87, 88, 89, 90, 91, 92, 93, 94, 95, 96, 97, 98, 99, 100, 101] rfl (by decide +kernel)
set_option maxRecDepth 20000 in
theorem gX12_elseOf_X12_aloneOf : GoodIn wsX12_elseOf (wsV RX12 411 RX12 yX12_aloneOf wsX12_aloneOf) := goodIn_app (goodIn_of _ (by decide +kernel)) ggX12_elseOf_X12_aloneOf
set_option maxRecDepth 20000 in
theorem ggX12_elseOf_X12_first : GoodIn wsX12_elseOf wsX12_first := goodIn_r _ [16, 17, 2, 27, 28, 29, 30, 31, 32, 33, 34, 35, 36, 37, 38, 39, 40, 41, 42, 43, 44, 45, 46, 47, 48, 49, 50, 51, 52, 53, 54, 55, 56, 57, 58, 59, 60, 61, 62, 63, 64, 65, 66, 67, 68, 69, 70, 71, 72, 73, 74, 75, 76, 77, 78, 79, 80, 81, 82, 83, 84, 85, 86, 87, 88, 89, 90, 91, 92, 93, 94, 95, 96, 97, 98, 99, 100, 101] rfl (by decide +kernel)
set_option maxRecDepth 20000 in
theorem gX12_elseOf_X12_first : GoodIn wsX12_elseOf (wsV RX12 389 RX12 yX12_first wsX12_first) := goodIn_app (goodIn_of _ (by decide +kernel)) ggX12_elseOf_X12_first
set_option maxRecDepth 20000 in
theorem ggX12_elseOf_X12_second : GoodIn wsX12_elseOf wsX12_second := goodIn_r _ [21, 22, 2, 27, 28, 29, 30, 31, 32, 33, 34, 35, 36, 37, 38, 39, 40, 41, 42, 43, 44, 45, 46, 47, 48, 49, 50, 51, 52, 53, 54, 55, 56, 57, 58, 59, 60, 61, 62, 63, 64, 65, 66, 67, 68, 69, 70, 71, 72, 73, 74, 75, 76, 77, 78, 79, 80, 81, 82, 83, 84, 85, 86, 87, 88, 89, 90, 91, 92, 93, 94, 95, 96, 97, 98, 99, 100, 101] rfl (by decide +kernel)
set_option maxRecDepth 20000 in
theorem gX12_elseOf_X12_second : GoodIn wsX12_elseOf (wsV RX12 392 RX12 yX12_second wsX12_second) := goodIn_app (goodIn_of _ (by decide +kernel)) ggX12_elseOf_X12_second
set_option maxRecDepth 20000 in
theorem ggX12_elseOf_X12_otherOn : GoodIn wsX12_elseOf wsX12_otherOn := goodIn_r _ [26, 13, 14, 15, 10, 16, 17, 2, 18, 19, 20, 21, 22, 27, 28, 29, 30, 31, 32, 33, 34, 35, 36, 37, 38, 39, 40, 41, 42, 43, 44, 45, 46, 47, 48, 49, 50, 51, 52, 53, 54, 55, 56, 57, 58, 59, 60, 61, 62, 63, 64, 65, 66, 67, 68, 69, 70, 71, 72, 73, 74, 75, 76, 77, 78, 79, 80, 81, 82, 83, 84, 85, 86, 87, 88, 89, 90, 91, 92, 93, 94, 95, 96, 97, 98, 99, 100, 101] rfl (by decide +kernel)
set_option maxRecDepth 20000 in
theorem gX12_elseOf_X12_otherOn : GoodIn wsX12_elseOf (wsV RX12 497 RX12 yX12_otherOn wsX12_otherOn) := goodIn_app (goodIn_of _ (by decide +kernel)) ggX12_elseOf_X12_otherOn
theorem dX12_elseOf_0 : decode cX12_elseOf 0 = .ok (.aload_n 0, 1) := by decide +kernel
theorem dX12_elseOf_1 : decode cX12_elseOf 1 = .ok (.iload_n 1, 1) := by decide +kernel
theorem dX12_elseOf_2 : decode cX12_elseOf 2 = .ok (.invokevirtual 411, 3) := by decide +kernel
theorem dX12_elseOf_5 : decode cX12_elseOf 5 = .ok (.i2l, 1) := by decide +kernel
theorem dX12_elseOf_6 : decode cX12_elseOf 6 = .ok (.lstore_n 2, 1) := by decide +kernel
theorem dX12_elseOf_7 : decode cX12_elseOf 7 = .ok (.iconst 0, 1) := by decide +kernel
theorem dX12_elseOf_8 : decode cX12_elseOf 8 = .ok (.istore 4, 2) := by decide +kernel
theorem dX12_elseOf_10 : decode cX12_elseOf 10 = .ok (.iload 4, 2) := by decide +kernel
theorem dX12_elseOf_12 : decode cX12_elseOf 12 = .ok (.aload_n 0, 1) := by decide +kernel
theorem dX12_elseOf_13 : decode cX12_elseOf 13 = .ok (.getfield 54, 3) := by decide +kernel
theorem dX12_elseOf_16 : decode cX12_elseOf 16 = .ok (.aload_n 0, 1) := by decide +kernel
theorem dX12_elseOf_17 : decode cX12_elseOf 17 = .ok (.getfield 48, 3) := by decide +kernel
theorem dX12_elseOf_20 : decode cX12_elseOf 20 = .ok (.iaload, 1) := by decide +kernel
theorem dX12_elseOf_21 : decode cX12_elseOf 21 = .ok (.if_icmp .ge 90, 3) := by decide +kernel
theorem dX12_elseOf_24 : decode cX12_elseOf 24 = .ok (.aload_n 0, 1) := by decide +kernel
theorem dX12_elseOf_25 : decode cX12_elseOf 25 = .ok (.getfield 162, 3) := by decide +kernel
theorem dX12_elseOf_28 : decode cX12_elseOf 28 = .ok (.iload 4, 2) := by decide +kernel
theorem dX12_elseOf_30 : decode cX12_elseOf 30 = .ok (.baload, 1) := by decide +kernel
theorem dX12_elseOf_31 : decode cX12_elseOf 31 = .ok (.ifCond .eq 74, 3) := by decide +kernel
theorem dX12_elseOf_34 : decode cX12_elseOf 34 = .ok (.iload 4, 2) := by decide +kernel
theorem dX12_elseOf_36 : decode cX12_elseOf 36 = .ok (.aload_n 0, 1) := by decide +kernel
theorem dX12_elseOf_37 : decode cX12_elseOf 37 = .ok (.getfield 210, 3) := by decide +kernel
theorem dX12_elseOf_40 : decode cX12_elseOf 40 = .ok (.iload_n 1, 1) := by decide +kernel
theorem dX12_elseOf_41 : decode cX12_elseOf 41 = .ok (.iaload, 1) := by decide +kernel
theorem dX12_elseOf_42 : decode cX12_elseOf 42 = .ok (.if_icmp .eq 63, 3) := by decide +kernel
theorem dX12_elseOf_45 : decode cX12_elseOf 45 = .ok (.aload_n 0, 1) := by decide +kernel
theorem dX12_elseOf_46 : decode cX12_elseOf 46 = .ok (.iload 4, 2) := by decide +kernel
theorem dX12_elseOf_48 : decode cX12_elseOf 48 = .ok (.invokevirtual 389, 3) := by decide +kernel
theorem dX12_elseOf_51 : decode cX12_elseOf 51 = .ok (.iload_n 1, 1) := by decide +kernel
theorem dX12_elseOf_52 : decode cX12_elseOf 52 = .ok (.if_icmp .eq 16, 3) := by decide +kernel
theorem dX12_elseOf_55 : decode cX12_elseOf 55 = .ok (.aload_n 0, 1) := by decide +kernel
theorem dX12_elseOf_56 : decode cX12_elseOf 56 = .ok (.iload 4, 2) := by decide +kernel
theorem dX12_elseOf_58 : decode cX12_elseOf 58 = .ok (.invokevirtual 392, 3) := by decide +kernel
theorem dX12_elseOf_61 : decode cX12_elseOf 61 = .ok (.iload_n 1, 1) := by decide +kernel
theorem dX12_elseOf_62 : decode cX12_elseOf 62 = .ok (.if_icmp .eq 6, 3) := by decide +kernel
theorem dX12_elseOf_65 : decode cX12_elseOf 65 = .ok (.goto 40, 3) := by decide +kernel
theorem dX12_elseOf_68 : decode cX12_elseOf 68 = .ok (.aload_n 0, 1) := by decide +kernel
theorem dX12_elseOf_69 : decode cX12_elseOf 69 = .ok (.getfield 165, 3) := by decide +kernel
theorem dX12_elseOf_72 : decode cX12_elseOf 72 = .ok (.iload 4, 2) := by decide +kernel
theorem dX12_elseOf_74 : decode cX12_elseOf 74 = .ok (.iaload, 1) := by decide +kernel
theorem dX12_elseOf_75 : decode cX12_elseOf 75 = .ok (.i2l, 1) := by decide +kernel
theorem dX12_elseOf_76 : decode cX12_elseOf 76 = .ok (.aload_n 0, 1) := by decide +kernel
theorem dX12_elseOf_77 : decode cX12_elseOf 77 = .ok (.getfield 213, 3) := by decide +kernel
theorem dX12_elseOf_80 : decode cX12_elseOf 80 = .ok (.aload_n 0, 1) := by decide +kernel
theorem dX12_elseOf_81 : decode cX12_elseOf 81 = .ok (.iload 4, 2) := by decide +kernel
theorem dX12_elseOf_83 : decode cX12_elseOf 83 = .ok (.iload_n 1, 1) := by decide +kernel
theorem dX12_elseOf_84 : decode cX12_elseOf 84 = .ok (.invokevirtual 497, 3) := by decide +kernel
theorem dX12_elseOf_87 : decode cX12_elseOf 87 = .ok (.laload, 1) := by decide +kernel
theorem dX12_elseOf_88 : decode cX12_elseOf 88 = .ok (.lsub, 1) := by decide +kernel
theorem dX12_elseOf_89 : decode cX12_elseOf 89 = .ok (.lstore 5, 2) := by decide +kernel
theorem dX12_elseOf_91 : decode cX12_elseOf 91 = .ok (.lload 5, 2) := by decide +kernel
theorem dX12_elseOf_93 : decode cX12_elseOf 93 = .ok (.lload_n 2, 1) := by decide +kernel
theorem dX12_elseOf_94 : decode cX12_elseOf 94 = .ok (.lcmp, 1) := by decide +kernel
theorem dX12_elseOf_95 : decode cX12_elseOf 95 = .ok (.ifCond .le 8, 3) := by decide +kernel
theorem dX12_elseOf_98 : decode cX12_elseOf 98 = .ok (.lload 5, 2) := by decide +kernel
theorem dX12_elseOf_100 : decode cX12_elseOf 100 = .ok (.goto 4, 3) := by decide +kernel
theorem dX12_elseOf_103 : decode cX12_elseOf 103 = .ok (.lload_n 2, 1) := by decide +kernel
theorem dX12_elseOf_104 : decode cX12_elseOf 104 = .ok (.lstore_n 2, 1) := by decide +kernel
theorem dX12_elseOf_105 : decode cX12_elseOf 105 = .ok (.iinc 4 1, 3) := by decide +kernel
theorem dX12_elseOf_108 : decode cX12_elseOf 108 = .ok (.goto (-98), 3) := by decide +kernel
theorem dX12_elseOf_111 : decode cX12_elseOf 111 = .ok (.lload_n 2, 1) := by decide +kernel
theorem dX12_elseOf_112 : decode cX12_elseOf 112 = .ok (.lreturn, 1) := by decide +kernel
set_option maxRecDepth 20000 in
theorem ggX12_other_X12_isWho : GoodIn wsX12_other wsX12_isWho := goodIn_r _ [6, 7, 8, 9, 10, 5, 11, 106, 107, 108, 109, 110, 111, 112, 113, 114, 115, 116, 117, 118, 119, 120, 121, 122, 123, 124, 125, 126, 127, 128, 129, 130, 131, 132, 133, 134, 135, 136, 137, 138, 139, 140, 141, 142, 143, 144, 145, 146, 147, 148, 149, 150, 151, 152, 153, 154, 155, 156, 157, 158, 159, 160, 161, 162, 163, 164, 165, 166, 167, 168, 169, 170, 171, 172, 173, 174, 175, 176, 177, 178, 179, 180] rfl (by decide +kernel)
set_option maxRecDepth 20000 in
theorem gX12_other_X12_isWho : GoodIn wsX12_other (wsV RX12 381 RX12 yX12_isWho wsX12_isWho) := goodIn_app (goodIn_of _ (by decide +kernel)) ggX12_other_X12_isWho
set_option maxRecDepth 20000 in
theorem ggX12_other_X12_laysAll : GoodIn wsX12_other wsX12_laysAll := goodIn_r _ [15, 16, 17, 18, 5, 19, 20, 21, 8, 22, 23, 24, 25, 26, 27, 28, 29, 30, 31, 32, 33, 34, 35, 36, 37, 38, 39, 40, 41, 42, 43, 44, 45, 46, 47, 48, 49, 50, 51, 52, 53, 54, 55, 56, 57, 58, 59, 60, 61, 62, 63, 64, 65, 66, 67, 68, 69, 70, 71, 72, 73, 74, 75, 76, 77, 78, 79, 80, 81, 82, 83, 84, 85, 86, 87, 88, 89, 7, 90, 91, 92, 93, 106, 107, 108, 109, 110, 111, 112, 113, 114, 115, 116, 117, 118, 119, 120, 121, 122, 123, 124, 125, 126, 127, 128, 129, 130, 131, 132, 133, 134, 135, 136, 137, 138, 139, 140, 141, 142, 143, 144, 145, 146, 147, 148, 149, 150, 151, 152, 153, 154, 155, 156, 157, 158, 159, 160, 161, 162, 163, 164, 165, 166, 167, 168, 169, 170, 171, 172, 173, 174, 175, 176, 177, 178, 179, 180] rfl (by decide +kernel)
set_option maxRecDepth 20000 in
theorem gX12_other_X12_laysAll : GoodIn wsX12_other (wsV RX12 494 RX12 yX12_laysAll wsX12_laysAll) := goodIn_app (goodIn_of _ (by decide +kernel)) ggX12_other_X12_laysAll
set_option maxRecDepth 20000 in
theorem ggX12_other_X12_elseOf : GoodIn wsX12_other wsX12_elseOf := goodIn_r _ [97, 21, 8, 22, 90, 23, 91, 56, 57, 58, 5, 59, 60, 72, 73, 74, 75, 76, 77, 78, 79, 80, 81, 98, 99, 100, 101, 106, 107, 108, 109, 110, 111, 112, 113, 114, 115, 116, 117, 118, 119, 120, 121, 122, 123, 124, 125, 126, 127, 128, 129, 130, 131, 132, 133, 134, 135, 136, 137, 138, 139, 140, 141, 142, 143, 144, 145, 146, 147, 148, 149, 150, 151, 152, 153, 154, 155, 156, 157, 158, 159, 160, 161, 162, 163, 164, 165, 166, 167, 168, 169, 170, 171, 172, 173, 174, 175, 176, 177, 178, 179, 180] rfl (by decide +kernel)
set_option maxRecDepth 20000 in
theorem gX12_other_X12_elseOf : GoodIn wsX12_other (wsV RX12 500 RX12 yX12_elseOf wsX12_elseOf) := goodIn_app (goodIn_of _ (by decide +kernel)) ggX12_other_X12_elseOf
set_option maxRecDepth 20000 in
theorem ggX12_other_X12_turnsTo : GoodIn wsX12_other wsX12_turnsTo := goodIn_r _ [105, 21, 8, 22, 90, 23, 91, 94, 95, 96, 5, 97, 56, 57, 58, 59, 60, 72, 73, 74, 75, 76, 77, 78, 79, 80, 81, 98, 99, 100, 101, 106, 107, 108, 109, 110, 111, 112, 113, 114, 115, 116, 117, 118, 119, 120, 121, 122, 123, 124, 125, 126, 127, 128, 129, 130, 131, 132, 133, 134, 135, 136, 137, 138, 139, 140, 141, 142, 143, 144, 145, 146, 147, 148, 149, 150, 151, 152, 153, 154, 155, 156, 157, 158, 159, 160, 161, 162, 163, 164, 165, 166, 167, 168, 169, 170, 171, 172, 173, 174, 175, 176, 177, 178, 179, 180] rfl (by decide +kernel)
set_option maxRecDepth 20000 in
theorem gX12_other_X12_turnsTo : GoodIn wsX12_other (wsV RX12 504 RX12 yX12_turnsTo wsX12_turnsTo) := goodIn_app (goodIn_of _ (by decide +kernel)) ggX12_other_X12_turnsTo
theorem dX12_other_0 : decode cX12_other 0 = .ok (.aload_n 0, 1) := by decide +kernel
theorem dX12_other_1 : decode cX12_other 1 = .ok (.iload_n 1, 1) := by decide +kernel
theorem dX12_other_2 : decode cX12_other 2 = .ok (.invokevirtual 381, 3) := by decide +kernel
theorem dX12_other_5 : decode cX12_other 5 = .ok (.ifCond .ne 7, 3) := by decide +kernel
theorem dX12_other_8 : decode cX12_other 8 = .ok (.ldc_w 433, 3) := by decide +kernel
theorem dX12_other_11 : decode cX12_other 11 = .ok (.ireturn, 1) := by decide +kernel
theorem dX12_other_12 : decode cX12_other 12 = .ok (.aload_n 0, 1) := by decide +kernel
theorem dX12_other_13 : decode cX12_other 13 = .ok (.invokevirtual 494, 3) := by decide +kernel
theorem dX12_other_16 : decode cX12_other 16 = .ok (.aload_n 0, 1) := by decide +kernel
theorem dX12_other_17 : decode cX12_other 17 = .ok (.iload_n 1, 1) := by decide +kernel
theorem dX12_other_18 : decode cX12_other 18 = .ok (.invokevirtual 500, 3) := by decide +kernel
theorem dX12_other_21 : decode cX12_other 21 = .ok (.lstore_n 3, 1) := by decide +kernel
theorem dX12_other_22 : decode cX12_other 22 = .ok (.iload_n 2, 1) := by decide +kernel
theorem dX12_other_23 : decode cX12_other 23 = .ok (.ifCond .eq 11, 3) := by decide +kernel
theorem dX12_other_26 : decode cX12_other 26 = .ok (.aload_n 0, 1) := by decide +kernel
theorem dX12_other_27 : decode cX12_other 27 = .ok (.iload_n 1, 1) := by decide +kernel
theorem dX12_other_28 : decode cX12_other 28 = .ok (.invokevirtual 504, 3) := by decide +kernel
theorem dX12_other_31 : decode cX12_other 31 = .ok (.goto 5, 3) := by decide +kernel
theorem dX12_other_34 : decode cX12_other 34 = .ok (.lload_n 3, 1) := by decide +kernel
theorem dX12_other_35 : decode cX12_other 35 = .ok (.l2i, 1) := by decide +kernel
theorem dX12_other_36 : decode cX12_other 36 = .ok (.ireturn, 1) := by decide +kernel
set_option maxRecDepth 20000 in
theorem ggX12_turnsTo_X12_elseOf : GoodIn wsX12_turnsTo wsX12_elseOf := goodIn_r _ [11, 1, 2, 3, 4, 5, 6, 12, 13, 14, 10, 15, 16, 17, 18, 19, 20, 21, 22, 23, 24, 25, 26, 27, 28, 29, 30, 31, 32, 33, 34, 35, 36, 37, 38, 39, 40, 41, 42, 43, 44, 45, 46, 47, 48, 49, 50, 51, 52, 53, 54, 55, 56, 57, 58, 59, 60, 61, 62, 63, 64, 65, 66, 67, 68, 69, 70, 71, 72, 73, 74, 75, 76, 77, 78, 79, 80, 81, 82, 83, 84, 85, 86, 87, 88, 89, 90, 91, 92, 93, 94, 95, 96, 97, 98, 99, 100, 101, 102, 103, 104, 105] rfl (by decide +kernel)
set_option maxRecDepth 20000 in
theorem gX12_turnsTo_X12_elseOf : GoodIn wsX12_turnsTo (wsV RX12 500 RX12 yX12_elseOf wsX12_elseOf) := goodIn_app (goodIn_of _ (by decide +kernel)) ggX12_turnsTo_X12_elseOf
set_option maxRecDepth 20000 in
theorem ggX12_turnsTo_X12_aloneOf : GoodIn wsX12_turnsTo wsX12_aloneOf := goodIn_r _ [15, 16, 2, 31, 32, 33, 34, 35, 36, 37, 38, 39, 40, 41, 42, 43, 44, 45, 46, 47, 48, 49, 50, 51, 52, 53, 54, 55, 56, 57, 58, 59, 60, 61, 62, 63, 64, 65, 66, 67, 68, 69, 70, 71, 72, 73, 74, 75, 76, 77, 78, 79, 80, 81, 82, 83, 84, 85, 86, 87, 88, 89, 90, 91, 92, 93, 94, 95, 96, 97, 98, 99, 100, 101, 102, 103, 104, 105] rfl (by decide +kernel)
set_option maxRecDepth 20000 in
theorem gX12_turnsTo_X12_aloneOf : GoodIn wsX12_turnsTo (wsV RX12 411 RX12 yX12_aloneOf wsX12_aloneOf) := goodIn_app (goodIn_of _ (by decide +kernel)) ggX12_turnsTo_X12_aloneOf
set_option maxRecDepth 20000 in
theorem ggX12_turnsTo_X12_first : GoodIn wsX12_turnsTo wsX12_first := goodIn_r _ [20, 21, 2, 31, 32, 33, 34, 35, 36, 37, 38, 39, 40, 41, 42, 43, 44, 45, 46, 47, 48, 49, 50, 51, 52, 53, 54, 55, 56, 57, 58, 59, 60, 61, 62, 63, 64, 65, 66, 67, 68, 69, 70, 71, 72, 73, 74, 75, 76, 77, 78, 79, 80, 81, 82, 83, 84, 85, 86, 87, 88, 89, 90, 91, 92, 93, 94, 95, 96, 97, 98, 99, 100, 101, 102, 103, 104, 105] rfl (by decide +kernel)
set_option maxRecDepth 20000 in
theorem gX12_turnsTo_X12_first : GoodIn wsX12_turnsTo (wsV RX12 389 RX12 yX12_first wsX12_first) := goodIn_app (goodIn_of _ (by decide +kernel)) ggX12_turnsTo_X12_first
set_option maxRecDepth 20000 in
theorem ggX12_turnsTo_X12_second : GoodIn wsX12_turnsTo wsX12_second := goodIn_r _ [25, 26, 2, 31, 32, 33, 34, 35, 36, 37, 38, 39, 40, 41, 42, 43, 44, 45, 46, 47, 48, 49, 50, 51, 52, 53, 54, 55, 56, 57, 58, 59, 60, 61, 62, 63, 64, 65, 66, 67, 68, 69, 70, 71, 72, 73, 74, 75, 76, 77, 78, 79, 80, 81, 82, 83, 84, 85, 86, 87, 88, 89, 90, 91, 92, 93, 94, 95, 96, 97, 98, 99, 100, 101, 102, 103, 104, 105] rfl (by decide +kernel)
set_option maxRecDepth 20000 in
theorem gX12_turnsTo_X12_second : GoodIn wsX12_turnsTo (wsV RX12 392 RX12 yX12_second wsX12_second) := goodIn_app (goodIn_of _ (by decide +kernel)) ggX12_turnsTo_X12_second
set_option maxRecDepth 20000 in
theorem ggX12_turnsTo_X12_otherOn : GoodIn wsX12_turnsTo wsX12_otherOn := goodIn_r _ [30, 17, 18, 19, 10, 20, 21, 2, 22, 23, 24, 25, 26, 31, 32, 33, 34, 35, 36, 37, 38, 39, 40, 41, 42, 43, 44, 45, 46, 47, 48, 49, 50, 51, 52, 53, 54, 55, 56, 57, 58, 59, 60, 61, 62, 63, 64, 65, 66, 67, 68, 69, 70, 71, 72, 73, 74, 75, 76, 77, 78, 79, 80, 81, 82, 83, 84, 85, 86, 87, 88, 89, 90, 91, 92, 93, 94, 95, 96, 97, 98, 99, 100, 101, 102, 103, 104, 105] rfl (by decide +kernel)
set_option maxRecDepth 20000 in
theorem gX12_turnsTo_X12_otherOn : GoodIn wsX12_turnsTo (wsV RX12 497 RX12 yX12_otherOn wsX12_otherOn) := goodIn_app (goodIn_of _ (by decide +kernel)) ggX12_turnsTo_X12_otherOn
theorem dX12_turnsTo_0 : decode cX12_turnsTo 0 = .ok (.aload_n 0, 1) := by decide +kernel
theorem dX12_turnsTo_1 : decode cX12_turnsTo 1 = .ok (.iload_n 1, 1) := by decide +kernel
theorem dX12_turnsTo_2 : decode cX12_turnsTo 2 = .ok (.invokevirtual 500, 3) := by decide +kernel
theorem dX12_turnsTo_5 : decode cX12_turnsTo 5 = .ok (.lstore_n 2, 1) := by decide +kernel
theorem dX12_turnsTo_6 : decode cX12_turnsTo 6 = .ok (.iconst (-1), 1) := by decide +kernel
theorem dX12_turnsTo_7 : decode cX12_turnsTo 7 = .ok (.istore 4, 2) := by decide +kernel
theorem dX12_turnsTo_9 : decode cX12_turnsTo 9 = .ok (.iconst 0, 1) := by decide +kernel
theorem dX12_turnsTo_10 : decode cX12_turnsTo 10 = .ok (.istore 5, 2) := by decide +kernel
theorem dX12_turnsTo_12 : decode cX12_turnsTo 12 = .ok (.iload 5, 2) := by decide +kernel
theorem dX12_turnsTo_14 : decode cX12_turnsTo 14 = .ok (.aload_n 0, 1) := by decide +kernel
theorem dX12_turnsTo_15 : decode cX12_turnsTo 15 = .ok (.getfield 54, 3) := by decide +kernel
theorem dX12_turnsTo_18 : decode cX12_turnsTo 18 = .ok (.aload_n 0, 1) := by decide +kernel
theorem dX12_turnsTo_19 : decode cX12_turnsTo 19 = .ok (.getfield 48, 3) := by decide +kernel
theorem dX12_turnsTo_22 : decode cX12_turnsTo 22 = .ok (.iaload, 1) := by decide +kernel
theorem dX12_turnsTo_23 : decode cX12_turnsTo 23 = .ok (.if_icmp .ge 111, 3) := by decide +kernel
theorem dX12_turnsTo_26 : decode cX12_turnsTo 26 = .ok (.lload_n 2, 1) := by decide +kernel
theorem dX12_turnsTo_27 : decode cX12_turnsTo 27 = .ok (.aload_n 0, 1) := by decide +kernel
theorem dX12_turnsTo_28 : decode cX12_turnsTo 28 = .ok (.iload_n 1, 1) := by decide +kernel
theorem dX12_turnsTo_29 : decode cX12_turnsTo 29 = .ok (.invokevirtual 411, 3) := by decide +kernel
theorem dX12_turnsTo_32 : decode cX12_turnsTo 32 = .ok (.i2l, 1) := by decide +kernel
theorem dX12_turnsTo_33 : decode cX12_turnsTo 33 = .ok (.lcmp, 1) := by decide +kernel
theorem dX12_turnsTo_34 : decode cX12_turnsTo 34 = .ok (.ifCond .le 100, 3) := by decide +kernel
theorem dX12_turnsTo_37 : decode cX12_turnsTo 37 = .ok (.aload_n 0, 1) := by decide +kernel
theorem dX12_turnsTo_38 : decode cX12_turnsTo 38 = .ok (.getfield 162, 3) := by decide +kernel
theorem dX12_turnsTo_41 : decode cX12_turnsTo 41 = .ok (.iload 5, 2) := by decide +kernel
theorem dX12_turnsTo_43 : decode cX12_turnsTo 43 = .ok (.baload, 1) := by decide +kernel
theorem dX12_turnsTo_44 : decode cX12_turnsTo 44 = .ok (.ifCond .eq 84, 3) := by decide +kernel
theorem dX12_turnsTo_47 : decode cX12_turnsTo 47 = .ok (.iload 5, 2) := by decide +kernel
theorem dX12_turnsTo_49 : decode cX12_turnsTo 49 = .ok (.aload_n 0, 1) := by decide +kernel
theorem dX12_turnsTo_50 : decode cX12_turnsTo 50 = .ok (.getfield 210, 3) := by decide +kernel
theorem dX12_turnsTo_53 : decode cX12_turnsTo 53 = .ok (.iload_n 1, 1) := by decide +kernel
theorem dX12_turnsTo_54 : decode cX12_turnsTo 54 = .ok (.iaload, 1) := by decide +kernel
theorem dX12_turnsTo_55 : decode cX12_turnsTo 55 = .ok (.if_icmp .eq 73, 3) := by decide +kernel
theorem dX12_turnsTo_58 : decode cX12_turnsTo 58 = .ok (.aload_n 0, 1) := by decide +kernel
theorem dX12_turnsTo_59 : decode cX12_turnsTo 59 = .ok (.iload 5, 2) := by decide +kernel
theorem dX12_turnsTo_61 : decode cX12_turnsTo 61 = .ok (.invokevirtual 389, 3) := by decide +kernel
theorem dX12_turnsTo_64 : decode cX12_turnsTo 64 = .ok (.iload_n 1, 1) := by decide +kernel
theorem dX12_turnsTo_65 : decode cX12_turnsTo 65 = .ok (.if_icmp .eq 16, 3) := by decide +kernel
theorem dX12_turnsTo_68 : decode cX12_turnsTo 68 = .ok (.aload_n 0, 1) := by decide +kernel
theorem dX12_turnsTo_69 : decode cX12_turnsTo 69 = .ok (.iload 5, 2) := by decide +kernel
theorem dX12_turnsTo_71 : decode cX12_turnsTo 71 = .ok (.invokevirtual 392, 3) := by decide +kernel
theorem dX12_turnsTo_74 : decode cX12_turnsTo 74 = .ok (.iload_n 1, 1) := by decide +kernel
theorem dX12_turnsTo_75 : decode cX12_turnsTo 75 = .ok (.if_icmp .eq 6, 3) := by decide +kernel
theorem dX12_turnsTo_78 : decode cX12_turnsTo 78 = .ok (.goto 50, 3) := by decide +kernel
theorem dX12_turnsTo_81 : decode cX12_turnsTo 81 = .ok (.aload_n 0, 1) := by decide +kernel
theorem dX12_turnsTo_82 : decode cX12_turnsTo 82 = .ok (.iload 5, 2) := by decide +kernel
theorem dX12_turnsTo_84 : decode cX12_turnsTo 84 = .ok (.iload_n 1, 1) := by decide +kernel
theorem dX12_turnsTo_85 : decode cX12_turnsTo 85 = .ok (.invokevirtual 497, 3) := by decide +kernel
theorem dX12_turnsTo_88 : decode cX12_turnsTo 88 = .ok (.istore 6, 2) := by decide +kernel
theorem dX12_turnsTo_90 : decode cX12_turnsTo 90 = .ok (.aload_n 0, 1) := by decide +kernel
theorem dX12_turnsTo_91 : decode cX12_turnsTo 91 = .ok (.getfield 165, 3) := by decide +kernel
theorem dX12_turnsTo_94 : decode cX12_turnsTo 94 = .ok (.iload 5, 2) := by decide +kernel
theorem dX12_turnsTo_96 : decode cX12_turnsTo 96 = .ok (.iaload, 1) := by decide +kernel
theorem dX12_turnsTo_97 : decode cX12_turnsTo 97 = .ok (.i2l, 1) := by decide +kernel
theorem dX12_turnsTo_98 : decode cX12_turnsTo 98 = .ok (.aload_n 0, 1) := by decide +kernel
theorem dX12_turnsTo_99 : decode cX12_turnsTo 99 = .ok (.getfield 213, 3) := by decide +kernel
theorem dX12_turnsTo_102 : decode cX12_turnsTo 102 = .ok (.iload 6, 2) := by decide +kernel
theorem dX12_turnsTo_104 : decode cX12_turnsTo 104 = .ok (.laload, 1) := by decide +kernel
theorem dX12_turnsTo_105 : decode cX12_turnsTo 105 = .ok (.lsub, 1) := by decide +kernel
theorem dX12_turnsTo_106 : decode cX12_turnsTo 106 = .ok (.lload_n 2, 1) := by decide +kernel
theorem dX12_turnsTo_107 : decode cX12_turnsTo 107 = .ok (.lcmp, 1) := by decide +kernel
theorem dX12_turnsTo_108 : decode cX12_turnsTo 108 = .ok (.ifCond .ne 20, 3) := by decide +kernel
theorem dX12_turnsTo_111 : decode cX12_turnsTo 111 = .ok (.iload 4, 2) := by decide +kernel
theorem dX12_turnsTo_113 : decode cX12_turnsTo 113 = .ok (.iconst (-1), 1) := by decide +kernel
theorem dX12_turnsTo_114 : decode cX12_turnsTo 114 = .ok (.if_icmp .eq 10, 3) := by decide +kernel
theorem dX12_turnsTo_117 : decode cX12_turnsTo 117 = .ok (.iload 6, 2) := by decide +kernel
theorem dX12_turnsTo_119 : decode cX12_turnsTo 119 = .ok (.iload 4, 2) := by decide +kernel
theorem dX12_turnsTo_121 : decode cX12_turnsTo 121 = .ok (.if_icmp .ge 7, 3) := by decide +kernel
theorem dX12_turnsTo_124 : decode cX12_turnsTo 124 = .ok (.iload 6, 2) := by decide +kernel
theorem dX12_turnsTo_126 : decode cX12_turnsTo 126 = .ok (.istore 4, 2) := by decide +kernel
theorem dX12_turnsTo_128 : decode cX12_turnsTo 128 = .ok (.iinc 5 1, 3) := by decide +kernel
theorem dX12_turnsTo_131 : decode cX12_turnsTo 131 = .ok (.goto (-119), 3) := by decide +kernel
theorem dX12_turnsTo_134 : decode cX12_turnsTo 134 = .ok (.iload 4, 2) := by decide +kernel
theorem dX12_turnsTo_136 : decode cX12_turnsTo 136 = .ok (.ireturn, 1) := by decide +kernel
set_option maxRecDepth 20000 in
theorem ggX12_chain_X12_isWho : GoodIn wsX12_chain wsX12_isWho := goodIn_r _ [5, 6, 7, 8, 9, 4, 10, 105, 106, 107, 108, 109, 110, 111, 112, 113, 114, 115, 116, 117, 118, 119, 120, 121, 122, 123, 124, 125, 126, 127, 128, 129, 130, 131, 132, 133, 134, 135, 136, 137, 138, 139, 140, 141, 142, 143, 144, 145, 146, 147, 148, 149, 150, 151, 152, 153, 154, 155, 156, 157, 158, 159, 160, 161, 162, 163, 164, 165, 166, 167, 168, 169, 170, 171, 172, 173, 174, 175, 176, 177, 178, 179] rfl (by decide +kernel)
set_option maxRecDepth 20000 in
theorem gX12_chain_X12_isWho : GoodIn wsX12_chain (wsV RX12 381 RX12 yX12_isWho wsX12_isWho) := goodIn_app (goodIn_of _ (by decide +kernel)) ggX12_chain_X12_isWho
set_option maxRecDepth 20000 in
theorem ggX12_chain_X12_laysAll : GoodIn wsX12_chain wsX12_laysAll := goodIn_r _ [14, 15, 16, 17, 4, 18, 19, 20, 7, 21, 22, 23, 24, 25, 26, 27, 28, 29, 30, 31, 32, 33, 34, 35, 36, 37, 38, 39, 40, 41, 42, 43, 44, 45, 46, 47, 48, 49, 50, 51, 52, 53, 54, 55, 56, 57, 58, 59, 60, 61, 62, 63, 64, 65, 66, 67, 68, 69, 70, 71, 72, 73, 74, 75, 76, 77, 78, 79, 80, 81, 82, 83, 84, 85, 86, 87, 88, 6, 89, 90, 91, 92, 105, 106, 107, 108, 109, 110, 111, 112, 113, 114, 115, 116, 117, 118, 119, 120, 121, 122, 123, 124, 125, 126, 127, 128, 129, 130, 131, 132, 133, 134, 135, 136, 137, 138, 139, 140, 141, 142, 143, 144, 145, 146, 147, 148, 149, 150, 151, 152, 153, 154, 155, 156, 157, 158, 159, 160, 161, 162, 163, 164, 165, 166, 167, 168, 169, 170, 171, 172, 173, 174, 175, 176, 177, 178, 179] rfl (by decide +kernel)
set_option maxRecDepth 20000 in
theorem gX12_chain_X12_laysAll : GoodIn wsX12_chain (wsV RX12 494 RX12 yX12_laysAll wsX12_laysAll) := goodIn_app (goodIn_of _ (by decide +kernel)) ggX12_chain_X12_laysAll
set_option maxRecDepth 20000 in
theorem ggX12_chain_X12_turnsTo : GoodIn wsX12_chain wsX12_turnsTo := goodIn_r _ [96, 20, 7, 21, 89, 22, 90, 97, 98, 99, 4, 100, 55, 56, 57, 58, 59, 71, 72, 73, 74, 75, 76, 77, 78, 79, 80, 101, 102, 103, 104, 105, 106, 107, 108, 109, 110, 111, 112, 113, 114, 115, 116, 117, 118, 119, 120, 121, 122, 123, 124, 125, 126, 127, 128, 129, 130, 131, 132, 133, 134, 135, 136, 137, 138, 139, 140, 141, 142, 143, 144, 145, 146, 147, 148, 149, 150, 151, 152, 153, 154, 155, 156, 157, 158, 159, 160, 161, 162, 163, 164, 165, 166, 167, 168, 169, 170, 171, 172, 173, 174, 175, 176, 177, 178, 179] rfl (by decide +kernel)
set_option maxRecDepth 20000 in
theorem gX12_chain_X12_turnsTo : GoodIn wsX12_chain (wsV RX12 504 RX12 yX12_turnsTo wsX12_turnsTo) := goodIn_app (goodIn_of _ (by decide +kernel)) ggX12_chain_X12_turnsTo
theorem dX12_chain_0 : decode cX12_chain 0 = .ok (.aload_n 0, 1) := by decide +kernel
theorem dX12_chain_1 : decode cX12_chain 1 = .ok (.iload_n 1, 1) := by decide +kernel
theorem dX12_chain_2 : decode cX12_chain 2 = .ok (.invokevirtual 381, 3) := by decide +kernel
theorem dX12_chain_5 : decode cX12_chain 5 = .ok (.ifCond .eq 7, 3) := by decide +kernel
theorem dX12_chain_8 : decode cX12_chain 8 = .ok (.iload_n 2, 1) := by decide +kernel
theorem dX12_chain_9 : decode cX12_chain 9 = .ok (.ifCond .ge 5, 3) := by decide +kernel
theorem dX12_chain_12 : decode cX12_chain 12 = .ok (.iconst (-1), 1) := by decide +kernel
theorem dX12_chain_13 : decode cX12_chain 13 = .ok (.ireturn, 1) := by decide +kernel
theorem dX12_chain_14 : decode cX12_chain 14 = .ok (.aload_n 0, 1) := by decide +kernel
theorem dX12_chain_15 : decode cX12_chain 15 = .ok (.invokevirtual 494, 3) := by decide +kernel
theorem dX12_chain_18 : decode cX12_chain 18 = .ok (.iconst 0, 1) := by decide +kernel
theorem dX12_chain_19 : decode cX12_chain 19 = .ok (.istore_n 3, 1) := by decide +kernel
theorem dX12_chain_20 : decode cX12_chain 20 = .ok (.iload_n 1, 1) := by decide +kernel
theorem dX12_chain_21 : decode cX12_chain 21 = .ok (.istore 4, 2) := by decide +kernel
theorem dX12_chain_23 : decode cX12_chain 23 = .ok (.iconst 0, 1) := by decide +kernel
theorem dX12_chain_24 : decode cX12_chain 24 = .ok (.istore 5, 2) := by decide +kernel
theorem dX12_chain_26 : decode cX12_chain 26 = .ok (.iload 4, 2) := by decide +kernel
theorem dX12_chain_28 : decode cX12_chain 28 = .ok (.iconst (-1), 1) := by decide +kernel
theorem dX12_chain_29 : decode cX12_chain 29 = .ok (.if_icmp .eq 42, 3) := by decide +kernel
theorem dX12_chain_32 : decode cX12_chain 32 = .ok (.iload_n 3, 1) := by decide +kernel
theorem dX12_chain_33 : decode cX12_chain 33 = .ok (.iload 4, 2) := by decide +kernel
theorem dX12_chain_35 : decode cX12_chain 35 = .ok (.ishr, 1) := by decide +kernel
theorem dX12_chain_36 : decode cX12_chain 36 = .ok (.iconst 1, 1) := by decide +kernel
theorem dX12_chain_37 : decode cX12_chain 37 = .ok (.iand, 1) := by decide +kernel
theorem dX12_chain_38 : decode cX12_chain 38 = .ok (.ifCond .ne 33, 3) := by decide +kernel
theorem dX12_chain_41 : decode cX12_chain 41 = .ok (.iload 5, 2) := by decide +kernel
theorem dX12_chain_43 : decode cX12_chain 43 = .ok (.iload_n 2, 1) := by decide +kernel
theorem dX12_chain_44 : decode cX12_chain 44 = .ok (.if_icmp .ne 6, 3) := by decide +kernel
theorem dX12_chain_47 : decode cX12_chain 47 = .ok (.iload 4, 2) := by decide +kernel
theorem dX12_chain_49 : decode cX12_chain 49 = .ok (.ireturn, 1) := by decide +kernel
theorem dX12_chain_50 : decode cX12_chain 50 = .ok (.iload_n 3, 1) := by decide +kernel
theorem dX12_chain_51 : decode cX12_chain 51 = .ok (.iconst 1, 1) := by decide +kernel
theorem dX12_chain_52 : decode cX12_chain 52 = .ok (.iload 4, 2) := by decide +kernel
theorem dX12_chain_54 : decode cX12_chain 54 = .ok (.ishl, 1) := by decide +kernel
theorem dX12_chain_55 : decode cX12_chain 55 = .ok (.ior, 1) := by decide +kernel
theorem dX12_chain_56 : decode cX12_chain 56 = .ok (.istore_n 3, 1) := by decide +kernel
theorem dX12_chain_57 : decode cX12_chain 57 = .ok (.iinc 5 1, 3) := by decide +kernel
theorem dX12_chain_60 : decode cX12_chain 60 = .ok (.aload_n 0, 1) := by decide +kernel
theorem dX12_chain_61 : decode cX12_chain 61 = .ok (.iload 4, 2) := by decide +kernel
theorem dX12_chain_63 : decode cX12_chain 63 = .ok (.invokevirtual 504, 3) := by decide +kernel
theorem dX12_chain_66 : decode cX12_chain 66 = .ok (.istore 4, 2) := by decide +kernel
theorem dX12_chain_68 : decode cX12_chain 68 = .ok (.goto (-42), 3) := by decide +kernel
theorem dX12_chain_71 : decode cX12_chain 71 = .ok (.iconst (-1), 1) := by decide +kernel
theorem dX12_chain_72 : decode cX12_chain 72 = .ok (.ireturn, 1) := by decide +kernel
set_option maxRecDepth 20000 in
theorem ggX12_lone_X12_aloneOf : GoodIn wsX12_lone wsX12_aloneOf := goodIn_r _ [8, 9, 2, 10, 11, 12, 13, 14, 15, 16, 17, 18, 19, 20, 21, 22, 23, 24, 25, 26, 27, 28, 29, 30, 31, 32, 33, 34, 35, 36, 37, 38, 39, 40, 41, 42, 43, 44, 45, 46, 47, 48, 49, 50, 51, 52, 53, 54, 55, 56, 57, 58, 59, 60, 61, 62, 63, 64, 65, 66, 67, 68, 69, 70, 71, 72, 73, 74, 75, 76, 77, 78, 79, 80, 81, 82, 83, 84] rfl (by decide +kernel)
set_option maxRecDepth 20000 in
theorem gX12_lone_X12_aloneOf : GoodIn wsX12_lone (wsV RX12 411 RX12 yX12_aloneOf wsX12_aloneOf) := goodIn_app (goodIn_of _ (by decide +kernel)) ggX12_lone_X12_aloneOf
theorem dX12_lone_0 : decode cX12_lone 0 = .ok (.iconst 0, 1) := by decide +kernel
theorem dX12_lone_1 : decode cX12_lone 1 = .ok (.istore_n 1, 1) := by decide +kernel
theorem dX12_lone_2 : decode cX12_lone 2 = .ok (.iload_n 1, 1) := by decide +kernel
theorem dX12_lone_3 : decode cX12_lone 3 = .ok (.aload_n 0, 1) := by decide +kernel
theorem dX12_lone_4 : decode cX12_lone 4 = .ok (.getfield 51, 3) := by decide +kernel
theorem dX12_lone_7 : decode cX12_lone 7 = .ok (.aload_n 0, 1) := by decide +kernel
theorem dX12_lone_8 : decode cX12_lone 8 = .ok (.getfield 48, 3) := by decide +kernel
theorem dX12_lone_11 : decode cX12_lone 11 = .ok (.iaload, 1) := by decide +kernel
theorem dX12_lone_12 : decode cX12_lone 12 = .ok (.if_icmp .ge 27, 3) := by decide +kernel
theorem dX12_lone_15 : decode cX12_lone 15 = .ok (.aload_n 0, 1) := by decide +kernel
theorem dX12_lone_16 : decode cX12_lone 16 = .ok (.getfield 213, 3) := by decide +kernel
theorem dX12_lone_19 : decode cX12_lone 19 = .ok (.iload_n 1, 1) := by decide +kernel
theorem dX12_lone_20 : decode cX12_lone 20 = .ok (.laload, 1) := by decide +kernel
theorem dX12_lone_21 : decode cX12_lone 21 = .ok (.aload_n 0, 1) := by decide +kernel
theorem dX12_lone_22 : decode cX12_lone 22 = .ok (.iload_n 1, 1) := by decide +kernel
theorem dX12_lone_23 : decode cX12_lone 23 = .ok (.invokevirtual 411, 3) := by decide +kernel
theorem dX12_lone_26 : decode cX12_lone 26 = .ok (.i2l, 1) := by decide +kernel
theorem dX12_lone_27 : decode cX12_lone 27 = .ok (.lcmp, 1) := by decide +kernel
theorem dX12_lone_28 : decode cX12_lone 28 = .ok (.ifCond .ge 5, 3) := by decide +kernel
theorem dX12_lone_31 : decode cX12_lone 31 = .ok (.iload_n 1, 1) := by decide +kernel
theorem dX12_lone_32 : decode cX12_lone 32 = .ok (.ireturn, 1) := by decide +kernel
theorem dX12_lone_33 : decode cX12_lone 33 = .ok (.iinc 1 1, 3) := by decide +kernel
theorem dX12_lone_36 : decode cX12_lone 36 = .ok (.goto (-34), 3) := by decide +kernel
theorem dX12_lone_39 : decode cX12_lone 39 = .ok (.iconst (-1), 1) := by decide +kernel
theorem dX12_lone_40 : decode cX12_lone 40 = .ok (.ireturn, 1) := by decide +kernel
set_option maxRecDepth 20000 in
theorem ggX12_breaks_X12_laysAll : GoodIn wsX12_breaks wsX12_laysAll := goodIn_r _ [10, 11, 12, 13, 9, 14, 15, 1, 2, 3, 5, 16, 17, 18, 19, 20, 21, 22, 23, 24, 25, 26, 27, 28, 29, 30, 31, 32, 33, 34, 35, 36, 37, 38, 39, 40, 41, 42, 43, 44, 45, 46, 47, 48, 49, 50, 51, 52, 53, 54, 55, 56, 57, 58, 59, 60, 61, 62, 63, 64, 65, 66, 67, 68, 69, 70, 71, 72, 73, 74, 75, 76, 77, 78, 79, 80, 81, 82, 83, 4, 84, 85, 90, 91, 92, 93, 94, 95, 96, 97, 98, 99, 100, 101, 102, 103, 104, 105, 106, 107, 108, 109, 110, 111, 112, 113, 114, 115, 116, 117, 118, 119, 120, 121, 122, 123, 124, 125, 126, 127, 128, 129, 130, 131, 132, 133, 134, 135, 136, 137, 138, 139, 140, 141, 142, 143, 144, 145, 146, 147, 148, 149, 150, 151, 152, 153, 154, 155, 156, 157, 158, 159, 160, 161, 162, 163, 164] rfl (by decide +kernel)
set_option maxRecDepth 20000 in
theorem gX12_breaks_X12_laysAll : GoodIn wsX12_breaks (wsV RX12 494 RX12 yX12_laysAll wsX12_laysAll) := goodIn_app (goodIn_of _ (by decide +kernel)) ggX12_breaks_X12_laysAll
set_option maxRecDepth 20000 in
theorem ggX12_breaks_X12_lone : GoodIn wsX12_breaks wsX12_lone := goodIn_r _ [89, 82, 2, 4, 48, 49, 50, 9, 51, 52, 90, 91, 92, 93, 94, 95, 96, 97, 98, 99, 100, 101, 102, 103, 104, 105, 106, 107, 108, 109, 110, 111, 112, 113, 114, 115, 116, 117, 118, 119, 120, 121, 122, 123, 124, 125, 126, 127, 128, 129, 130, 131, 132, 133, 134, 135, 136, 137, 138, 139, 140, 141, 142, 143, 144, 145, 146, 147, 148, 149, 150, 151, 152, 153, 154, 155, 156, 157, 158, 159, 160, 161, 162, 163, 164] rfl (by decide +kernel)
set_option maxRecDepth 20000 in
theorem gX12_breaks_X12_lone : GoodIn wsX12_breaks (wsV RX12 507 RX12 yX12_lone wsX12_lone) := goodIn_app (goodIn_of _ (by decide +kernel)) ggX12_breaks_X12_lone
set_option maxRecDepth 20000 in
theorem ggX12_breaks_X12_first : GoodIn wsX12_breaks wsX12_first := goodIn_r _ [67, 68, 2, 90, 91, 92, 93, 94, 95, 96, 97, 98, 99, 100, 101, 102, 103, 104, 105, 106, 107, 108, 109, 110, 111, 112, 113, 114, 115, 116, 117, 118, 119, 120, 121, 122, 123, 124, 125, 126, 127, 128, 129, 130, 131, 132, 133, 134, 135, 136, 137, 138, 139, 140, 141, 142, 143, 144, 145, 146, 147, 148, 149, 150, 151, 152, 153, 154, 155, 156, 157, 158, 159, 160, 161, 162, 163, 164] rfl (by decide +kernel)
set_option maxRecDepth 20000 in
theorem gX12_breaks_X12_first : GoodIn wsX12_breaks (wsV RX12 389 RX12 yX12_first wsX12_first) := goodIn_app (goodIn_of _ (by decide +kernel)) ggX12_breaks_X12_first
set_option maxRecDepth 20000 in
theorem ggX12_breaks_X12_second : GoodIn wsX12_breaks wsX12_second := goodIn_r _ [72, 73, 2, 90, 91, 92, 93, 94, 95, 96, 97, 98, 99, 100, 101, 102, 103, 104, 105, 106, 107, 108, 109, 110, 111, 112, 113, 114, 115, 116, 117, 118, 119, 120, 121, 122, 123, 124, 125, 126, 127, 128, 129, 130, 131, 132, 133, 134, 135, 136, 137, 138, 139, 140, 141, 142, 143, 144, 145, 146, 147, 148, 149, 150, 151, 152, 153, 154, 155, 156, 157, 158, 159, 160, 161, 162, 163, 164] rfl (by decide +kernel)
set_option maxRecDepth 20000 in
theorem gX12_breaks_X12_second : GoodIn wsX12_breaks (wsV RX12 392 RX12 yX12_second wsX12_second) := goodIn_app (goodIn_of _ (by decide +kernel)) ggX12_breaks_X12_second
theorem dX12_breaks_0 : decode cX12_breaks 0 = .ok (.aload_n 0, 1) := by decide +kernel
theorem dX12_breaks_1 : decode cX12_breaks 1 = .ok (.invokevirtual 494, 3) := by decide +kernel
theorem dX12_breaks_4 : decode cX12_breaks 4 = .ok (.aload_n 0, 1) := by decide +kernel
theorem dX12_breaks_5 : decode cX12_breaks 5 = .ok (.invokevirtual 507, 3) := by decide +kernel
theorem dX12_breaks_8 : decode cX12_breaks 8 = .ok (.istore_n 1, 1) := by decide +kernel
theorem dX12_breaks_9 : decode cX12_breaks 9 = .ok (.iload_n 1, 1) := by decide +kernel
theorem dX12_breaks_10 : decode cX12_breaks 10 = .ok (.iconst (-1), 1) := by decide +kernel
theorem dX12_breaks_11 : decode cX12_breaks 11 = .ok (.if_icmp .eq 8, 3) := by decide +kernel
theorem dX12_breaks_14 : decode cX12_breaks 14 = .ok (.bipush 100, 2) := by decide +kernel
theorem dX12_breaks_16 : decode cX12_breaks 16 = .ok (.iload_n 1, 1) := by decide +kernel
theorem dX12_breaks_17 : decode cX12_breaks 17 = .ok (.iadd, 1) := by decide +kernel
theorem dX12_breaks_18 : decode cX12_breaks 18 = .ok (.ireturn, 1) := by decide +kernel
theorem dX12_breaks_19 : decode cX12_breaks 19 = .ok (.iconst 0, 1) := by decide +kernel
theorem dX12_breaks_20 : decode cX12_breaks 20 = .ok (.istore_n 2, 1) := by decide +kernel
theorem dX12_breaks_21 : decode cX12_breaks 21 = .ok (.iload_n 2, 1) := by decide +kernel
theorem dX12_breaks_22 : decode cX12_breaks 22 = .ok (.aload_n 0, 1) := by decide +kernel
theorem dX12_breaks_23 : decode cX12_breaks 23 = .ok (.getfield 54, 3) := by decide +kernel
theorem dX12_breaks_26 : decode cX12_breaks 26 = .ok (.aload_n 0, 1) := by decide +kernel
theorem dX12_breaks_27 : decode cX12_breaks 27 = .ok (.getfield 48, 3) := by decide +kernel
theorem dX12_breaks_30 : decode cX12_breaks 30 = .ok (.iaload, 1) := by decide +kernel
theorem dX12_breaks_31 : decode cX12_breaks 31 = .ok (.if_icmp .ge 52, 3) := by decide +kernel
theorem dX12_breaks_34 : decode cX12_breaks 34 = .ok (.aload_n 0, 1) := by decide +kernel
theorem dX12_breaks_35 : decode cX12_breaks 35 = .ok (.getfield 162, 3) := by decide +kernel
theorem dX12_breaks_38 : decode cX12_breaks 38 = .ok (.iload_n 2, 1) := by decide +kernel
theorem dX12_breaks_39 : decode cX12_breaks 39 = .ok (.baload, 1) := by decide +kernel
theorem dX12_breaks_40 : decode cX12_breaks 40 = .ok (.ifCond .eq 37, 3) := by decide +kernel
theorem dX12_breaks_43 : decode cX12_breaks 43 = .ok (.aload_n 0, 1) := by decide +kernel
theorem dX12_breaks_44 : decode cX12_breaks 44 = .ok (.getfield 213, 3) := by decide +kernel
theorem dX12_breaks_47 : decode cX12_breaks 47 = .ok (.aload_n 0, 1) := by decide +kernel
theorem dX12_breaks_48 : decode cX12_breaks 48 = .ok (.iload_n 2, 1) := by decide +kernel
theorem dX12_breaks_49 : decode cX12_breaks 49 = .ok (.invokevirtual 389, 3) := by decide +kernel
theorem dX12_breaks_52 : decode cX12_breaks 52 = .ok (.laload, 1) := by decide +kernel
theorem dX12_breaks_53 : decode cX12_breaks 53 = .ok (.aload_n 0, 1) := by decide +kernel
theorem dX12_breaks_54 : decode cX12_breaks 54 = .ok (.getfield 213, 3) := by decide +kernel
theorem dX12_breaks_57 : decode cX12_breaks 57 = .ok (.aload_n 0, 1) := by decide +kernel
theorem dX12_breaks_58 : decode cX12_breaks 58 = .ok (.iload_n 2, 1) := by decide +kernel
theorem dX12_breaks_59 : decode cX12_breaks 59 = .ok (.invokevirtual 392, 3) := by decide +kernel
theorem dX12_breaks_62 : decode cX12_breaks 62 = .ok (.laload, 1) := by decide +kernel
theorem dX12_breaks_63 : decode cX12_breaks 63 = .ok (.ladd, 1) := by decide +kernel
theorem dX12_breaks_64 : decode cX12_breaks 64 = .ok (.aload_n 0, 1) := by decide +kernel
theorem dX12_breaks_65 : decode cX12_breaks 65 = .ok (.getfield 165, 3) := by decide +kernel
theorem dX12_breaks_68 : decode cX12_breaks 68 = .ok (.iload_n 2, 1) := by decide +kernel
theorem dX12_breaks_69 : decode cX12_breaks 69 = .ok (.iaload, 1) := by decide +kernel
theorem dX12_breaks_70 : decode cX12_breaks 70 = .ok (.i2l, 1) := by decide +kernel
theorem dX12_breaks_71 : decode cX12_breaks 71 = .ok (.lcmp, 1) := by decide +kernel
theorem dX12_breaks_72 : decode cX12_breaks 72 = .ok (.ifCond .ge 5, 3) := by decide +kernel
theorem dX12_breaks_75 : decode cX12_breaks 75 = .ok (.iload_n 2, 1) := by decide +kernel
theorem dX12_breaks_76 : decode cX12_breaks 76 = .ok (.ireturn, 1) := by decide +kernel
theorem dX12_breaks_77 : decode cX12_breaks 77 = .ok (.iinc 2 1, 3) := by decide +kernel
theorem dX12_breaks_80 : decode cX12_breaks 80 = .ok (.goto (-59), 3) := by decide +kernel
theorem dX12_breaks_83 : decode cX12_breaks 83 = .ok (.iconst (-1), 1) := by decide +kernel
theorem dX12_breaks_84 : decode cX12_breaks 84 = .ok (.ireturn, 1) := by decide +kernel
set_option maxRecDepth 20000 in
theorem ggX12_away_X12_laysAll : GoodIn wsX12_away wsX12_laysAll := goodIn_r _ [9, 10, 11, 12, 8, 13, 14, 15, 3, 16, 17, 18, 19, 20, 21, 22, 23, 24, 25, 26, 27, 28, 29, 30, 31, 32, 33, 34, 35, 36, 37, 38, 39, 40, 41, 42, 43, 44, 45, 46, 47, 48, 49, 50, 51, 52, 53, 54, 55, 56, 57, 58, 59, 60, 61, 62, 63, 64, 65, 66, 67, 68, 69, 70, 71, 72, 73, 74, 75, 76, 77, 78, 79, 80, 81, 82, 83, 2, 84, 4, 85, 86, 96, 97, 98, 99, 100, 101, 102, 103, 104, 105, 106, 107, 108, 109, 110, 111, 112, 113, 114, 115, 116, 117, 118, 119, 120, 121, 122, 123, 124, 125, 126, 127, 128, 129, 130, 131, 132, 133, 134, 135, 136, 137, 138, 139, 140, 141, 142, 143, 144, 145, 146, 147, 148, 149, 150, 151, 152, 153, 154, 155, 156, 157, 158, 159, 160, 161, 162, 163, 164, 165, 166, 167, 168, 169, 170] rfl (by decide +kernel)
set_option maxRecDepth 20000 in
theorem gX12_away_X12_laysAll : GoodIn wsX12_away (wsV RX12 494 RX12 yX12_laysAll wsX12_laysAll) := goodIn_app (goodIn_of _ (by decide +kernel)) ggX12_away_X12_laysAll
set_option maxRecDepth 20000 in
theorem ggX12_away_X12_mosts : GoodIn wsX12_away wsX12_mosts := goodIn_r _ [90, 91, 15, 3, 1, 2, 66, 67, 68, 8, 69, 70, 71, 72, 73, 74, 75, 76, 77, 78, 79, 17, 16, 50, 51, 52, 53, 54, 96, 97, 98, 99, 100, 101, 102, 103, 104, 105, 106, 107, 108, 109, 110, 111, 112, 113, 114, 115, 116, 117, 118, 119, 120, 121, 122, 123, 124, 125, 126, 127, 128, 129, 130, 131, 132, 133, 134, 135, 136, 137, 138, 139, 140, 141, 142, 143, 144, 145, 146, 147, 148, 149, 150, 151, 152, 153, 154, 155, 156, 157, 158, 159, 160, 161, 162, 163, 164, 165, 166, 167, 168, 169, 170] rfl (by decide +kernel)
set_option maxRecDepth 20000 in
theorem gX12_away_X12_mosts : GoodIn wsX12_away (wsV RX12 444 RX12 yX12_mosts wsX12_mosts) := goodIn_app (goodIn_of _ (by decide +kernel)) ggX12_away_X12_mosts
set_option maxRecDepth 20000 in
theorem ggX12_away_X12_all : GoodIn wsX12_away wsX12_all := goodIn_r _ [95, 2, 3, 96, 97, 98, 99, 100, 101, 102, 103, 104, 105, 106, 107, 108, 109, 110, 111, 112, 113, 114, 115, 116, 117, 118, 119, 120, 121, 122, 123, 124, 125, 126, 127, 128, 129, 130, 131, 132, 133, 134, 135, 136, 137, 138, 139, 140, 141, 142, 143, 144, 145, 146, 147, 148, 149, 150, 151, 152, 153, 154, 155, 156, 157, 158, 159, 160, 161, 162, 163, 164, 165, 166, 167, 168, 169, 170] rfl (by decide +kernel)
set_option maxRecDepth 20000 in
theorem gX12_away_X12_all : GoodIn wsX12_away (wsV RX12 437 RX12 yX12_all wsX12_all) := goodIn_app (goodIn_of _ (by decide +kernel)) ggX12_away_X12_all
set_option maxRecDepth 20000 in
theorem ggX12_away_X12_aloneOf : GoodIn wsX12_away wsX12_aloneOf := goodIn_r _ [53, 54, 3, 96, 97, 98, 99, 100, 101, 102, 103, 104, 105, 106, 107, 108, 109, 110, 111, 112, 113, 114, 115, 116, 117, 118, 119, 120, 121, 122, 123, 124, 125, 126, 127, 128, 129, 130, 131, 132, 133, 134, 135, 136, 137, 138, 139, 140, 141, 142, 143, 144, 145, 146, 147, 148, 149, 150, 151, 152, 153, 154, 155, 156, 157, 158, 159, 160, 161, 162, 163, 164, 165, 166, 167, 168, 169, 170] rfl (by decide +kernel)
set_option maxRecDepth 20000 in
theorem gX12_away_X12_aloneOf : GoodIn wsX12_away (wsV RX12 411 RX12 yX12_aloneOf wsX12_aloneOf) := goodIn_app (goodIn_of _ (by decide +kernel)) ggX12_away_X12_aloneOf
theorem dX12_away_0 : decode cX12_away 0 = .ok (.aload_n 0, 1) := by decide +kernel
theorem dX12_away_1 : decode cX12_away 1 = .ok (.invokevirtual 494, 3) := by decide +kernel
theorem dX12_away_4 : decode cX12_away 4 = .ok (.aload_n 0, 1) := by decide +kernel
theorem dX12_away_5 : decode cX12_away 5 = .ok (.iconst (-1), 1) := by decide +kernel
theorem dX12_away_6 : decode cX12_away 6 = .ok (.invokevirtual 444, 3) := by decide +kernel
theorem dX12_away_9 : decode cX12_away 9 = .ok (.iconst 1, 1) := by decide +kernel
theorem dX12_away_10 : decode cX12_away 10 = .ok (.istore_n 1, 1) := by decide +kernel
theorem dX12_away_11 : decode cX12_away 11 = .ok (.iload_n 1, 1) := by decide +kernel
theorem dX12_away_12 : decode cX12_away 12 = .ok (.aload_n 0, 1) := by decide +kernel
theorem dX12_away_13 : decode cX12_away 13 = .ok (.invokevirtual 437, 3) := by decide +kernel
theorem dX12_away_16 : decode cX12_away 16 = .ok (.if_icmp .gt 80, 3) := by decide +kernel
theorem dX12_away_19 : decode cX12_away 19 = .ok (.aload_n 0, 1) := by decide +kernel
theorem dX12_away_20 : decode cX12_away 20 = .ok (.getfield 171, 3) := by decide +kernel
theorem dX12_away_23 : decode cX12_away 23 = .ok (.iload_n 1, 1) := by decide +kernel
theorem dX12_away_24 : decode cX12_away 24 = .ok (.iaload, 1) := by decide +kernel
theorem dX12_away_25 : decode cX12_away 25 = .ok (.i2l, 1) := by decide +kernel
theorem dX12_away_26 : decode cX12_away 26 = .ok (.lstore_n 2, 1) := by decide +kernel
theorem dX12_away_27 : decode cX12_away 27 = .ok (.iconst 0, 1) := by decide +kernel
theorem dX12_away_28 : decode cX12_away 28 = .ok (.istore 4, 2) := by decide +kernel
theorem dX12_away_30 : decode cX12_away 30 = .ok (.iload 4, 2) := by decide +kernel
theorem dX12_away_32 : decode cX12_away 32 = .ok (.aload_n 0, 1) := by decide +kernel
theorem dX12_away_33 : decode cX12_away 33 = .ok (.getfield 51, 3) := by decide +kernel
theorem dX12_away_36 : decode cX12_away 36 = .ok (.aload_n 0, 1) := by decide +kernel
theorem dX12_away_37 : decode cX12_away 37 = .ok (.getfield 48, 3) := by decide +kernel
theorem dX12_away_40 : decode cX12_away 40 = .ok (.iaload, 1) := by decide +kernel
theorem dX12_away_41 : decode cX12_away 41 = .ok (.if_icmp .ge 41, 3) := by decide +kernel
theorem dX12_away_44 : decode cX12_away 44 = .ok (.lload_n 2, 1) := by decide +kernel
theorem dX12_away_45 : decode cX12_away 45 = .ok (.iload_n 1, 1) := by decide +kernel
theorem dX12_away_46 : decode cX12_away 46 = .ok (.iload 4, 2) := by decide +kernel
theorem dX12_away_48 : decode cX12_away 48 = .ok (.ishr, 1) := by decide +kernel
theorem dX12_away_49 : decode cX12_away 49 = .ok (.iconst 1, 1) := by decide +kernel
theorem dX12_away_50 : decode cX12_away 50 = .ok (.iand, 1) := by decide +kernel
theorem dX12_away_51 : decode cX12_away 51 = .ok (.iconst 1, 1) := by decide +kernel
theorem dX12_away_52 : decode cX12_away 52 = .ok (.if_icmp .ne 21, 3) := by decide +kernel
theorem dX12_away_55 : decode cX12_away 55 = .ok (.aload_n 0, 1) := by decide +kernel
theorem dX12_away_56 : decode cX12_away 56 = .ok (.iload 4, 2) := by decide +kernel
theorem dX12_away_58 : decode cX12_away 58 = .ok (.invokevirtual 411, 3) := by decide +kernel
theorem dX12_away_61 : decode cX12_away 61 = .ok (.i2l, 1) := by decide +kernel
theorem dX12_away_62 : decode cX12_away 62 = .ok (.aload_n 0, 1) := by decide +kernel
theorem dX12_away_63 : decode cX12_away 63 = .ok (.getfield 213, 3) := by decide +kernel
theorem dX12_away_66 : decode cX12_away 66 = .ok (.iload 4, 2) := by decide +kernel
theorem dX12_away_68 : decode cX12_away 68 = .ok (.laload, 1) := by decide +kernel
theorem dX12_away_69 : decode cX12_away 69 = .ok (.lsub, 1) := by decide +kernel
theorem dX12_away_70 : decode cX12_away 70 = .ok (.goto 4, 3) := by decide +kernel
theorem dX12_away_73 : decode cX12_away 73 = .ok (.lconst 0, 1) := by decide +kernel
theorem dX12_away_74 : decode cX12_away 74 = .ok (.ladd, 1) := by decide +kernel
theorem dX12_away_75 : decode cX12_away 75 = .ok (.lstore_n 2, 1) := by decide +kernel
theorem dX12_away_76 : decode cX12_away 76 = .ok (.iinc 4 1, 3) := by decide +kernel
theorem dX12_away_79 : decode cX12_away 79 = .ok (.goto (-49), 3) := by decide +kernel
theorem dX12_away_82 : decode cX12_away 82 = .ok (.lload_n 2, 1) := by decide +kernel
theorem dX12_away_83 : decode cX12_away 83 = .ok (.lconst 0, 1) := by decide +kernel
theorem dX12_away_84 : decode cX12_away 84 = .ok (.lcmp, 1) := by decide +kernel
theorem dX12_away_85 : decode cX12_away 85 = .ok (.ifCond .le 5, 3) := by decide +kernel
theorem dX12_away_88 : decode cX12_away 88 = .ok (.iload_n 1, 1) := by decide +kernel
theorem dX12_away_89 : decode cX12_away 89 = .ok (.ireturn, 1) := by decide +kernel
theorem dX12_away_90 : decode cX12_away 90 = .ok (.iinc 1 1, 3) := by decide +kernel
theorem dX12_away_93 : decode cX12_away 93 = .ok (.goto (-82), 3) := by decide +kernel
theorem dX12_away_96 : decode cX12_away 96 = .ok (.iconst 0, 1) := by decide +kernel
theorem dX12_away_97 : decode cX12_away 97 = .ok (.ireturn, 1) := by decide +kernel
set_option maxRecDepth 20000 in
theorem ggX12_evenOf_X12_first : GoodIn wsX12_evenOf wsX12_first := goodIn_r _ [7, 8, 9, 35, 36, 37, 38, 39, 40, 41, 42, 43, 44, 45, 46, 47, 48, 49, 50, 51, 52, 53, 54, 55, 56, 57, 58, 59, 60, 61, 62, 63, 64, 65, 66, 67, 68, 69, 70, 71, 72, 73, 74, 75, 76, 77, 78, 79, 80, 81, 82, 83, 84, 85, 86, 87, 88, 89, 90, 91, 92, 93, 94, 95, 96, 97, 98, 99, 100, 101, 102, 103, 104, 105, 106, 107, 108, 109] rfl (by decide +kernel)
set_option maxRecDepth 20000 in
theorem gX12_evenOf_X12_first : GoodIn wsX12_evenOf (wsV RX12 389 RX12 yX12_first wsX12_first) := goodIn_app (goodIn_of _ (by decide +kernel)) ggX12_evenOf_X12_first
set_option maxRecDepth 20000 in
theorem ggX12_evenOf_X12_elseOf : GoodIn wsX12_evenOf wsX12_elseOf := goodIn_r _ [13, 14, 9, 15, 16, 1, 17, 18, 19, 20, 6, 21, 22, 3, 4, 5, 7, 8, 23, 24, 25, 26, 27, 28, 29, 30, 31, 35, 36, 37, 38, 39, 40, 41, 42, 43, 44, 45, 46, 47, 48, 49, 50, 51, 52, 53, 54, 55, 56, 57, 58, 59, 60, 61, 62, 63, 64, 65, 66, 67, 68, 69, 70, 71, 72, 73, 74, 75, 76, 77, 78, 79, 80, 81, 82, 83, 84, 85, 86, 87, 88, 89, 90, 91, 92, 93, 94, 95, 96, 97, 98, 99, 100, 101, 102, 103, 104, 105, 106, 107, 108, 109] rfl (by decide +kernel)
set_option maxRecDepth 20000 in
theorem gX12_evenOf_X12_elseOf : GoodIn wsX12_evenOf (wsV RX12 500 RX12 yX12_elseOf wsX12_elseOf) := goodIn_app (goodIn_of _ (by decide +kernel)) ggX12_evenOf_X12_elseOf
set_option maxRecDepth 20000 in
theorem ggX12_evenOf_X12_second : GoodIn wsX12_evenOf wsX12_second := goodIn_r _ [26, 27, 9, 35, 36, 37, 38, 39, 40, 41, 42, 43, 44, 45, 46, 47, 48, 49, 50, 51, 52, 53, 54, 55, 56, 57, 58, 59, 60, 61, 62, 63, 64, 65, 66, 67, 68, 69, 70, 71, 72, 73, 74, 75, 76, 77, 78, 79, 80, 81, 82, 83, 84, 85, 86, 87, 88, 89, 90, 91, 92, 93, 94, 95, 96, 97, 98, 99, 100, 101, 102, 103, 104, 105, 106, 107, 108, 109] rfl (by decide +kernel)
set_option maxRecDepth 20000 in
theorem gX12_evenOf_X12_second : GoodIn wsX12_evenOf (wsV RX12 392 RX12 yX12_second wsX12_second) := goodIn_app (goodIn_of _ (by decide +kernel)) ggX12_evenOf_X12_second
set_option maxRecDepth 20000 in
theorem ggX12_evenOf_X12_over : GoodIn wsX12_evenOf wsX12_over := goodIn_r _ [34] (by decide +kernel) (by decide +kernel)
set_option maxRecDepth 20000 in
theorem gX12_evenOf_X12_over : GoodIn wsX12_evenOf (va_wsS RX12 407 yX12_over wsX12_over) := goodIn_app (goodIn_of _ (by decide +kernel)) ggX12_evenOf_X12_over
theorem dX12_evenOf_0 : decode cX12_evenOf 0 = .ok (.aload_n 0, 1) := by decide +kernel
theorem dX12_evenOf_1 : decode cX12_evenOf 1 = .ok (.aload_n 0, 1) := by decide +kernel
theorem dX12_evenOf_2 : decode cX12_evenOf 2 = .ok (.iload_n 1, 1) := by decide +kernel
theorem dX12_evenOf_3 : decode cX12_evenOf 3 = .ok (.invokevirtual 389, 3) := by decide +kernel
theorem dX12_evenOf_6 : decode cX12_evenOf 6 = .ok (.invokevirtual 500, 3) := by decide +kernel
theorem dX12_evenOf_9 : decode cX12_evenOf 9 = .ok (.lstore_n 2, 1) := by decide +kernel
theorem dX12_evenOf_10 : decode cX12_evenOf 10 = .ok (.aload_n 0, 1) := by decide +kernel
theorem dX12_evenOf_11 : decode cX12_evenOf 11 = .ok (.aload_n 0, 1) := by decide +kernel
theorem dX12_evenOf_12 : decode cX12_evenOf 12 = .ok (.iload_n 1, 1) := by decide +kernel
theorem dX12_evenOf_13 : decode cX12_evenOf 13 = .ok (.invokevirtual 392, 3) := by decide +kernel
theorem dX12_evenOf_16 : decode cX12_evenOf 16 = .ok (.invokevirtual 500, 3) := by decide +kernel
theorem dX12_evenOf_19 : decode cX12_evenOf 19 = .ok (.lstore 4, 2) := by decide +kernel
theorem dX12_evenOf_21 : decode cX12_evenOf 21 = .ok (.lload_n 2, 1) := by decide +kernel
theorem dX12_evenOf_22 : decode cX12_evenOf 22 = .ok (.aload_n 0, 1) := by decide +kernel
theorem dX12_evenOf_23 : decode cX12_evenOf 23 = .ok (.getfield 165, 3) := by decide +kernel
theorem dX12_evenOf_26 : decode cX12_evenOf 26 = .ok (.iload_n 1, 1) := by decide +kernel
theorem dX12_evenOf_27 : decode cX12_evenOf 27 = .ok (.iaload, 1) := by decide +kernel
theorem dX12_evenOf_28 : decode cX12_evenOf 28 = .ok (.i2l, 1) := by decide +kernel
theorem dX12_evenOf_29 : decode cX12_evenOf 29 = .ok (.lload_n 2, 1) := by decide +kernel
theorem dX12_evenOf_30 : decode cX12_evenOf 30 = .ok (.lsub, 1) := by decide +kernel
theorem dX12_evenOf_31 : decode cX12_evenOf 31 = .ok (.lload 4, 2) := by decide +kernel
theorem dX12_evenOf_33 : decode cX12_evenOf 33 = .ok (.lsub, 1) := by decide +kernel
theorem dX12_evenOf_34 : decode cX12_evenOf 34 = .ok (.ldc2_w 456, 3) := by decide +kernel
theorem dX12_evenOf_37 : decode cX12_evenOf 37 = .ok (.invokestatic 407, 3) := by decide +kernel
theorem dX12_evenOf_40 : decode cX12_evenOf 40 = .ok (.ladd, 1) := by decide +kernel
theorem dX12_evenOf_41 : decode cX12_evenOf 41 = .ok (.lreturn, 1) := by decide +kernel
theorem dX12_isDeal_0 : decode cX12_isDeal 0 = .ok (.aload_n 0, 1) := by decide +kernel
theorem dX12_isDeal_1 : decode cX12_isDeal 1 = .ok (.getfield 204, 3) := by decide +kernel
theorem dX12_isDeal_4 : decode cX12_isDeal 4 = .ok (.iload_n 1, 1) := by decide +kernel
theorem dX12_isDeal_5 : decode cX12_isDeal 5 = .ok (.baload, 1) := by decide +kernel
theorem dX12_isDeal_6 : decode cX12_isDeal 6 = .ok (.ifCond .eq 16, 3) := by decide +kernel
theorem dX12_isDeal_9 : decode cX12_isDeal 9 = .ok (.aload_n 0, 1) := by decide +kernel
theorem dX12_isDeal_10 : decode cX12_isDeal 10 = .ok (.getfield 162, 3) := by decide +kernel
theorem dX12_isDeal_13 : decode cX12_isDeal 13 = .ok (.iload_n 1, 1) := by decide +kernel
theorem dX12_isDeal_14 : decode cX12_isDeal 14 = .ok (.baload, 1) := by decide +kernel
theorem dX12_isDeal_15 : decode cX12_isDeal 15 = .ok (.ifCond .eq 7, 3) := by decide +kernel
theorem dX12_isDeal_18 : decode cX12_isDeal 18 = .ok (.iconst 1, 1) := by decide +kernel
theorem dX12_isDeal_19 : decode cX12_isDeal 19 = .ok (.goto 4, 3) := by decide +kernel
theorem dX12_isDeal_22 : decode cX12_isDeal 22 = .ok (.iconst 0, 1) := by decide +kernel
theorem dX12_isDeal_23 : decode cX12_isDeal 23 = .ok (.ireturn, 1) := by decide +kernel
set_option maxRecDepth 20000 in
theorem ggX12_uneven_X12_laysAll : GoodIn wsX12_uneven wsX12_laysAll := goodIn_r _ [8, 9, 10, 11, 7, 12, 13, 1, 2, 14, 15, 16, 17, 18, 19, 20, 21, 22, 23, 24, 25, 26, 27, 28, 29, 30, 31, 32, 33, 34, 35, 36, 37, 38, 39, 40, 41, 42, 43, 44, 45, 46, 47, 48, 49, 50, 51, 52, 53, 54, 55, 56, 57, 58, 59, 60, 61, 62, 63, 64, 65, 66, 67, 68, 69, 70, 71, 72, 73, 74, 75, 76, 77, 78, 79, 80, 81, 82, 83, 84, 85, 3, 103, 104, 105, 106, 107, 108, 109, 110, 111, 112, 113, 114, 115, 116, 117, 118, 119, 120, 121, 122, 123, 124, 125, 126, 127, 128, 129, 130, 131, 132, 133, 134, 135, 136, 137, 138, 139, 140, 141, 142, 143, 144, 145, 146, 147, 148, 149, 150, 151, 152, 153, 154, 155, 156, 157, 158, 159, 160, 161, 162, 163, 164, 165, 166, 167, 168, 169, 170, 171, 172, 173, 174, 175, 176, 177] rfl (by decide +kernel)
set_option maxRecDepth 20000 in
theorem gX12_uneven_X12_laysAll : GoodIn wsX12_uneven (wsV RX12 494 RX12 yX12_laysAll wsX12_laysAll) := goodIn_app (goodIn_of _ (by decide +kernel)) ggX12_uneven_X12_laysAll
set_option maxRecDepth 20000 in
theorem ggX12_uneven_X12_isDeal : GoodIn wsX12_uneven wsX12_isDeal := goodIn_r _ [89, 85, 14, 103, 104, 105, 106, 107, 108, 109, 110, 111, 112, 113, 114, 115, 116, 117, 118, 119, 120, 121, 122, 123, 124, 125, 126, 127, 128, 129, 130, 131, 132, 133, 134, 135, 136, 137, 138, 139, 140, 141, 142, 143, 144, 145, 146, 147, 148, 149, 150, 151, 152, 153, 154, 155, 156, 157, 158, 159, 160, 161, 162, 163, 164, 165, 166, 167, 168, 169, 170, 171, 172, 173, 174, 175, 176, 177] rfl (by decide +kernel)
set_option maxRecDepth 20000 in
theorem gX12_uneven_X12_isDeal : GoodIn wsX12_uneven (wsV RX12 510 RX12 yX12_isDeal wsX12_isDeal) := goodIn_app (goodIn_of _ (by decide +kernel)) ggX12_uneven_X12_isDeal
set_option maxRecDepth 20000 in
theorem ggX12_uneven_X12_evenOf : GoodIn wsX12_uneven wsX12_evenOf := goodIn_r _ [93, 15, 94, 64, 65, 66, 7, 67, 68, 2, 95, 96, 97, 98, 1, 14, 83, 84, 48, 49, 50, 51, 52, 69, 70, 71, 72, 73, 99, 100, 101, 102, 61, 62, 63, 103, 104, 105, 106, 107, 108, 109, 110, 111, 112, 113, 114, 115, 116, 117, 118, 119, 120, 121, 122, 123, 124, 125, 126, 127, 128, 129, 130, 131, 132, 133, 134, 135, 136, 137, 138, 139, 140, 141, 142, 143, 144, 145, 146, 147, 148, 149, 150, 151, 152, 153, 154, 155, 156, 157, 158, 159, 160, 161, 162, 163, 164, 165, 166, 167, 168, 169, 170, 171, 172, 173, 174, 175, 176, 177] rfl (by decide +kernel)
set_option maxRecDepth 20000 in
theorem gX12_uneven_X12_evenOf : GoodIn wsX12_uneven (wsV RX12 513 RX12 yX12_evenOf wsX12_evenOf) := goodIn_app (goodIn_of _ (by decide +kernel)) ggX12_uneven_X12_evenOf
theorem dX12_uneven_0 : decode cX12_uneven 0 = .ok (.aload_n 0, 1) := by decide +kernel
theorem dX12_uneven_1 : decode cX12_uneven 1 = .ok (.invokevirtual 494, 3) := by decide +kernel
theorem dX12_uneven_4 : decode cX12_uneven 4 = .ok (.iconst 0, 1) := by decide +kernel
theorem dX12_uneven_5 : decode cX12_uneven 5 = .ok (.istore_n 1, 1) := by decide +kernel
theorem dX12_uneven_6 : decode cX12_uneven 6 = .ok (.iload_n 1, 1) := by decide +kernel
theorem dX12_uneven_7 : decode cX12_uneven 7 = .ok (.aload_n 0, 1) := by decide +kernel
theorem dX12_uneven_8 : decode cX12_uneven 8 = .ok (.getfield 54, 3) := by decide +kernel
theorem dX12_uneven_11 : decode cX12_uneven 11 = .ok (.aload_n 0, 1) := by decide +kernel
theorem dX12_uneven_12 : decode cX12_uneven 12 = .ok (.getfield 48, 3) := by decide +kernel
theorem dX12_uneven_15 : decode cX12_uneven 15 = .ok (.iaload, 1) := by decide +kernel
theorem dX12_uneven_16 : decode cX12_uneven 16 = .ok (.if_icmp .ge 35, 3) := by decide +kernel
theorem dX12_uneven_19 : decode cX12_uneven 19 = .ok (.aload_n 0, 1) := by decide +kernel
theorem dX12_uneven_20 : decode cX12_uneven 20 = .ok (.iload_n 1, 1) := by decide +kernel
theorem dX12_uneven_21 : decode cX12_uneven 21 = .ok (.invokevirtual 510, 3) := by decide +kernel
theorem dX12_uneven_24 : decode cX12_uneven 24 = .ok (.ifCond .eq 21, 3) := by decide +kernel
theorem dX12_uneven_27 : decode cX12_uneven 27 = .ok (.aload_n 0, 1) := by decide +kernel
theorem dX12_uneven_28 : decode cX12_uneven 28 = .ok (.getfield 207, 3) := by decide +kernel
theorem dX12_uneven_31 : decode cX12_uneven 31 = .ok (.iload_n 1, 1) := by decide +kernel
theorem dX12_uneven_32 : decode cX12_uneven 32 = .ok (.iaload, 1) := by decide +kernel
theorem dX12_uneven_33 : decode cX12_uneven 33 = .ok (.i2l, 1) := by decide +kernel
theorem dX12_uneven_34 : decode cX12_uneven 34 = .ok (.aload_n 0, 1) := by decide +kernel
theorem dX12_uneven_35 : decode cX12_uneven 35 = .ok (.iload_n 1, 1) := by decide +kernel
theorem dX12_uneven_36 : decode cX12_uneven 36 = .ok (.invokevirtual 513, 3) := by decide +kernel
theorem dX12_uneven_39 : decode cX12_uneven 39 = .ok (.lcmp, 1) := by decide +kernel
theorem dX12_uneven_40 : decode cX12_uneven 40 = .ok (.ifCond .eq 5, 3) := by decide +kernel
theorem dX12_uneven_43 : decode cX12_uneven 43 = .ok (.iload_n 1, 1) := by decide +kernel
theorem dX12_uneven_44 : decode cX12_uneven 44 = .ok (.ireturn, 1) := by decide +kernel
theorem dX12_uneven_45 : decode cX12_uneven 45 = .ok (.iinc 1 1, 3) := by decide +kernel
theorem dX12_uneven_48 : decode cX12_uneven 48 = .ok (.goto (-42), 3) := by decide +kernel
theorem dX12_uneven_51 : decode cX12_uneven 51 = .ok (.iconst (-1), 1) := by decide +kernel
theorem dX12_uneven_52 : decode cX12_uneven 52 = .ok (.ireturn, 1) := by decide +kernel
set_option maxRecDepth 20000 in
theorem ggX12_keeps_X12_isDeal : GoodIn wsX12_keeps wsX12_isDeal := goodIn_r _ [9, 10, 11, 12, 13, 14, 15, 16, 17, 18, 19, 20, 21, 22, 23, 24, 25, 26, 27, 28, 29, 30, 31, 32, 33, 34, 35, 36, 37, 38, 39, 40, 41, 42, 43, 44, 45, 46, 47, 48, 49, 50, 51, 52, 53, 54, 55, 56, 57, 58, 59, 60, 61, 62, 63, 64, 65, 66, 67, 68, 69, 70, 71, 72, 73, 74, 75, 76, 77, 78, 79, 80, 81, 82, 83, 84, 85, 86] rfl (by decide +kernel)
set_option maxRecDepth 20000 in
theorem gX12_keeps_X12_isDeal : GoodIn wsX12_keeps (wsV RX12 510 RX12 yX12_isDeal wsX12_isDeal) := goodIn_app (goodIn_of _ (by decide +kernel)) ggX12_keeps_X12_isDeal
theorem dX12_keeps_0 : decode cX12_keeps 0 = .ok (.iconst 0, 1) := by decide +kernel
theorem dX12_keeps_1 : decode cX12_keeps 1 = .ok (.istore_n 2, 1) := by decide +kernel
theorem dX12_keeps_2 : decode cX12_keeps 2 = .ok (.iconst 0, 1) := by decide +kernel
theorem dX12_keeps_3 : decode cX12_keeps 3 = .ok (.istore_n 3, 1) := by decide +kernel
theorem dX12_keeps_4 : decode cX12_keeps 4 = .ok (.iload_n 3, 1) := by decide +kernel
theorem dX12_keeps_5 : decode cX12_keeps 5 = .ok (.aload_n 0, 1) := by decide +kernel
theorem dX12_keeps_6 : decode cX12_keeps 6 = .ok (.getfield 54, 3) := by decide +kernel
theorem dX12_keeps_9 : decode cX12_keeps 9 = .ok (.aload_n 0, 1) := by decide +kernel
theorem dX12_keeps_10 : decode cX12_keeps 10 = .ok (.getfield 48, 3) := by decide +kernel
theorem dX12_keeps_13 : decode cX12_keeps 13 = .ok (.iaload, 1) := by decide +kernel
theorem dX12_keeps_14 : decode cX12_keeps 14 = .ok (.if_icmp .ge 40, 3) := by decide +kernel
theorem dX12_keeps_17 : decode cX12_keeps 17 = .ok (.aload_n 0, 1) := by decide +kernel
theorem dX12_keeps_18 : decode cX12_keeps 18 = .ok (.iload_n 3, 1) := by decide +kernel
theorem dX12_keeps_19 : decode cX12_keeps 19 = .ok (.invokevirtual 510, 3) := by decide +kernel
theorem dX12_keeps_22 : decode cX12_keeps 22 = .ok (.ifCond .ne 6, 3) := by decide +kernel
theorem dX12_keeps_25 : decode cX12_keeps 25 = .ok (.goto 23, 3) := by decide +kernel
theorem dX12_keeps_28 : decode cX12_keeps 28 = .ok (.aload_n 0, 1) := by decide +kernel
theorem dX12_keeps_29 : decode cX12_keeps 29 = .ok (.getfield 219, 3) := by decide +kernel
theorem dX12_keeps_32 : decode cX12_keeps 32 = .ok (.bipush 6, 2) := by decide +kernel
theorem dX12_keeps_34 : decode cX12_keeps 34 = .ok (.iload_n 1, 1) := by decide +kernel
theorem dX12_keeps_35 : decode cX12_keeps 35 = .ok (.imul, 1) := by decide +kernel
theorem dX12_keeps_36 : decode cX12_keeps 36 = .ok (.iload_n 2, 1) := by decide +kernel
theorem dX12_keeps_37 : decode cX12_keeps 37 = .ok (.iadd, 1) := by decide +kernel
theorem dX12_keeps_38 : decode cX12_keeps 38 = .ok (.aload_n 0, 1) := by decide +kernel
theorem dX12_keeps_39 : decode cX12_keeps 39 = .ok (.getfield 207, 3) := by decide +kernel
theorem dX12_keeps_42 : decode cX12_keeps 42 = .ok (.iload_n 3, 1) := by decide +kernel
theorem dX12_keeps_43 : decode cX12_keeps 43 = .ok (.iaload, 1) := by decide +kernel
theorem dX12_keeps_44 : decode cX12_keeps 44 = .ok (.iastore, 1) := by decide +kernel
theorem dX12_keeps_45 : decode cX12_keeps 45 = .ok (.iinc 2 1, 3) := by decide +kernel
theorem dX12_keeps_48 : decode cX12_keeps 48 = .ok (.iinc 3 1, 3) := by decide +kernel
theorem dX12_keeps_51 : decode cX12_keeps 51 = .ok (.goto (-47), 3) := by decide +kernel
theorem dX12_keeps_54 : decode cX12_keeps 54 = .ok (.iload_n 2, 1) := by decide +kernel
theorem dX12_keeps_55 : decode cX12_keeps 55 = .ok (.istore_n 3, 1) := by decide +kernel
theorem dX12_keeps_56 : decode cX12_keeps 56 = .ok (.iload_n 3, 1) := by decide +kernel
theorem dX12_keeps_57 : decode cX12_keeps 57 = .ok (.bipush 6, 2) := by decide +kernel
theorem dX12_keeps_59 : decode cX12_keeps 59 = .ok (.if_icmp .ge 21, 3) := by decide +kernel
theorem dX12_keeps_62 : decode cX12_keeps 62 = .ok (.aload_n 0, 1) := by decide +kernel
theorem dX12_keeps_63 : decode cX12_keeps 63 = .ok (.getfield 219, 3) := by decide +kernel
theorem dX12_keeps_66 : decode cX12_keeps 66 = .ok (.bipush 6, 2) := by decide +kernel
theorem dX12_keeps_68 : decode cX12_keeps 68 = .ok (.iload_n 1, 1) := by decide +kernel
theorem dX12_keeps_69 : decode cX12_keeps 69 = .ok (.imul, 1) := by decide +kernel
theorem dX12_keeps_70 : decode cX12_keeps 70 = .ok (.iload_n 3, 1) := by decide +kernel
theorem dX12_keeps_71 : decode cX12_keeps 71 = .ok (.iadd, 1) := by decide +kernel
theorem dX12_keeps_72 : decode cX12_keeps 72 = .ok (.iconst 0, 1) := by decide +kernel
theorem dX12_keeps_73 : decode cX12_keeps 73 = .ok (.iastore, 1) := by decide +kernel
theorem dX12_keeps_74 : decode cX12_keeps 74 = .ok (.iinc 3 1, 3) := by decide +kernel
theorem dX12_keeps_77 : decode cX12_keeps 77 = .ok (.goto (-21), 3) := by decide +kernel
theorem dX12_keeps_80 : decode cX12_keeps 80 = .ok (.return_, 1) := by decide +kernel
theorem dX12_isLike_0 : decode cX12_isLike 0 = .ok (.iconst 0, 1) := by decide +kernel
theorem dX12_isLike_1 : decode cX12_isLike 1 = .ok (.istore_n 3, 1) := by decide +kernel
theorem dX12_isLike_2 : decode cX12_isLike 2 = .ok (.iload_n 3, 1) := by decide +kernel
theorem dX12_isLike_3 : decode cX12_isLike 3 = .ok (.bipush 6, 2) := by decide +kernel
theorem dX12_isLike_5 : decode cX12_isLike 5 = .ok (.if_icmp .ge 36, 3) := by decide +kernel
theorem dX12_isLike_8 : decode cX12_isLike 8 = .ok (.aload_n 0, 1) := by decide +kernel
theorem dX12_isLike_9 : decode cX12_isLike 9 = .ok (.getfield 219, 3) := by decide +kernel
theorem dX12_isLike_12 : decode cX12_isLike 12 = .ok (.bipush 6, 2) := by decide +kernel
theorem dX12_isLike_14 : decode cX12_isLike 14 = .ok (.iload_n 1, 1) := by decide +kernel
theorem dX12_isLike_15 : decode cX12_isLike 15 = .ok (.imul, 1) := by decide +kernel
theorem dX12_isLike_16 : decode cX12_isLike 16 = .ok (.iload_n 3, 1) := by decide +kernel
theorem dX12_isLike_17 : decode cX12_isLike 17 = .ok (.iadd, 1) := by decide +kernel
theorem dX12_isLike_18 : decode cX12_isLike 18 = .ok (.iaload, 1) := by decide +kernel
theorem dX12_isLike_19 : decode cX12_isLike 19 = .ok (.aload_n 0, 1) := by decide +kernel
theorem dX12_isLike_20 : decode cX12_isLike 20 = .ok (.getfield 219, 3) := by decide +kernel
theorem dX12_isLike_23 : decode cX12_isLike 23 = .ok (.bipush 6, 2) := by decide +kernel
theorem dX12_isLike_25 : decode cX12_isLike 25 = .ok (.iload_n 2, 1) := by decide +kernel
theorem dX12_isLike_26 : decode cX12_isLike 26 = .ok (.imul, 1) := by decide +kernel
theorem dX12_isLike_27 : decode cX12_isLike 27 = .ok (.iload_n 3, 1) := by decide +kernel
theorem dX12_isLike_28 : decode cX12_isLike 28 = .ok (.iadd, 1) := by decide +kernel
theorem dX12_isLike_29 : decode cX12_isLike 29 = .ok (.iaload, 1) := by decide +kernel
theorem dX12_isLike_30 : decode cX12_isLike 30 = .ok (.if_icmp .eq 5, 3) := by decide +kernel
theorem dX12_isLike_33 : decode cX12_isLike 33 = .ok (.iconst 0, 1) := by decide +kernel
theorem dX12_isLike_34 : decode cX12_isLike 34 = .ok (.ireturn, 1) := by decide +kernel
theorem dX12_isLike_35 : decode cX12_isLike 35 = .ok (.iinc 3 1, 3) := by decide +kernel
theorem dX12_isLike_38 : decode cX12_isLike 38 = .ok (.goto (-36), 3) := by decide +kernel
theorem dX12_isLike_41 : decode cX12_isLike 41 = .ok (.iconst 1, 1) := by decide +kernel
theorem dX12_isLike_42 : decode cX12_isLike 42 = .ok (.ireturn, 1) := by decide +kernel
set_option maxRecDepth 20000 in
theorem ggX12_haggle_X12_is : GoodIn wsX12_haggle wsX12_is := goodIn_r _ [10] (by decide +kernel) (by decide +kernel)
set_option maxRecDepth 20000 in
theorem gX12_haggle_X12_is : GoodIn wsX12_haggle (va_wsS RX12 377 yX12_is wsX12_is) := goodIn_app (goodIn_of _ (by decide +kernel)) ggX12_haggle_X12_is
set_option maxRecDepth 20000 in
theorem ggX12_haggle_X12_laysAll : GoodIn wsX12_haggle wsX12_laysAll := goodIn_r _ [14, 15, 16, 17, 9, 18, 19, 1, 2, 20, 21, 22, 23, 24, 25, 26, 27, 28, 29, 30, 31, 32, 33, 34, 35, 36, 37, 38, 39, 40, 41, 42, 43, 44, 45, 46, 47, 48, 49, 50, 51, 52, 53, 54, 55, 56, 57, 58, 59, 60, 61, 62, 63, 64, 65, 66, 67, 68, 69, 70, 71, 72, 73, 74, 75, 76, 77, 78, 79, 80, 81, 82, 83, 84, 85, 86, 87, 88, 89, 90, 91, 3, 118, 119, 120, 121, 122, 123, 124, 125, 126, 127, 128, 129, 130, 131, 132, 133, 134, 135, 136, 137, 138, 139, 140, 141, 142, 143, 144, 145, 146, 147, 148, 149, 150, 151, 152, 153, 154, 155, 156, 157, 158, 159, 160, 161, 162, 163, 164, 165, 166, 167, 168, 169, 170, 171, 172, 173, 174, 175, 176, 177, 178, 179, 180, 181, 182, 183, 184, 185, 186, 187, 188, 189, 190, 191, 192] rfl (by decide +kernel)
set_option maxRecDepth 20000 in
theorem gX12_haggle_X12_laysAll : GoodIn wsX12_haggle (wsV RX12 494 RX12 yX12_laysAll wsX12_laysAll) := goodIn_app (goodIn_of _ (by decide +kernel)) ggX12_haggle_X12_laysAll
set_option maxRecDepth 20000 in
theorem ggX12_haggle_X12_keeps : GoodIn wsX12_haggle wsX12_keeps := goodIn_r _ [95, 1, 2, 96, 3, 97, 98, 99, 9, 100, 91, 20, 118, 119, 120, 121, 122, 123, 124, 125, 126, 127, 128, 129, 130, 131, 132, 133, 134, 135, 136, 137, 138, 139, 140, 141, 142, 143, 144, 145, 146, 147, 148, 149, 150, 151, 152, 153, 154, 155, 156, 157, 158, 159, 160, 161, 162, 163, 164, 165, 166, 167, 168, 169, 170, 171, 172, 173, 174, 175, 176, 177, 178, 179, 180, 181, 182, 183, 184, 185, 186, 187, 188, 189, 190, 191, 192] rfl (by decide +kernel)
set_option maxRecDepth 20000 in
theorem gX12_haggle_X12_keeps : GoodIn wsX12_haggle (wsV RX12 516 RX12 yX12_keeps wsX12_keeps) := goodIn_app (goodIn_of _ (by decide +kernel)) ggX12_haggle_X12_keeps
set_option maxRecDepth 20000 in
theorem ggX12_haggle_X12_isDeal : GoodIn wsX12_haggle wsX12_isDeal := goodIn_r _ [100, 91, 20, 118, 119, 120, 121, 122, 123, 124, 125, 126, 127, 128, 129, 130, 131, 132, 133, 134, 135, 136, 137, 138, 139, 140, 141, 142, 143, 144, 145, 146, 147, 148, 149, 150, 151, 152, 153, 154, 155, 156, 157, 158, 159, 160, 161, 162, 163, 164, 165, 166, 167, 168, 169, 170, 171, 172, 173, 174, 175, 176, 177, 178, 179, 180, 181, 182, 183, 184, 185, 186, 187, 188, 189, 190, 191, 192] rfl (by decide +kernel)
set_option maxRecDepth 20000 in
theorem gX12_haggle_X12_isDeal : GoodIn wsX12_haggle (wsV RX12 510 RX12 yX12_isDeal wsX12_isDeal) := goodIn_app (goodIn_of _ (by decide +kernel)) ggX12_haggle_X12_isDeal
set_option maxRecDepth 20000 in
theorem ggX12_haggle_X12_evenOf : GoodIn wsX12_haggle wsX12_evenOf := goodIn_r _ [104, 21, 105, 70, 71, 72, 9, 73, 74, 2, 106, 107, 108, 109, 1, 20, 89, 90, 54, 55, 56, 57, 58, 75, 76, 77, 78, 79, 110, 111, 112, 113, 67, 68, 69, 118, 119, 120, 121, 122, 123, 124, 125, 126, 127, 128, 129, 130, 131, 132, 133, 134, 135, 136, 137, 138, 139, 140, 141, 142, 143, 144, 145, 146, 147, 148, 149, 150, 151, 152, 153, 154, 155, 156, 157, 158, 159, 160, 161, 162, 163, 164, 165, 166, 167, 168, 169, 170, 171, 172, 173, 174, 175, 176, 177, 178, 179, 180, 181, 182, 183, 184, 185, 186, 187, 188, 189, 190, 191, 192] rfl (by decide +kernel)
set_option maxRecDepth 20000 in
theorem gX12_haggle_X12_evenOf : GoodIn wsX12_haggle (wsV RX12 513 RX12 yX12_evenOf wsX12_evenOf) := goodIn_app (goodIn_of _ (by decide +kernel)) ggX12_haggle_X12_evenOf
set_option maxRecDepth 20000 in
theorem ggX12_haggle_X12_shares : GoodIn wsX12_haggle wsX12_shares := goodIn_r _ [87, 88, 2, 89, 90, 1, 91, 20, 3, 21, 54, 55, 56, 9, 57, 58, 70, 71, 72, 73, 74, 75, 76, 77, 78, 79, 118, 119, 120, 121, 122, 123, 124, 125, 126, 127, 128, 129, 130, 131, 132, 133, 134, 135, 136, 137, 138, 139, 140, 141, 142, 143, 144, 145, 146, 147, 148, 149, 150, 151, 152, 153, 154, 155, 156, 157, 158, 159, 160, 161, 162, 163, 164, 165, 166, 167, 168, 169, 170, 171, 172, 173, 174, 175, 176, 177, 178, 179, 180, 181, 182, 183, 184, 185, 186, 187, 188, 189, 190, 191, 192] rfl (by decide +kernel)
set_option maxRecDepth 20000 in
theorem gX12_haggle_X12_shares : GoodIn wsX12_haggle (wsV RX12 491 RX12 yX12_shares wsX12_shares) := goodIn_app (goodIn_of _ (by decide +kernel)) ggX12_haggle_X12_shares
set_option maxRecDepth 20000 in
theorem ggX12_haggle_X12_isLike : GoodIn wsX12_haggle wsX12_isLike := goodIn_r _ [117, 96, 118, 119, 120, 121, 122, 123, 124, 125, 126, 127, 128, 129, 130, 131, 132, 133, 134, 135, 136, 137, 138, 139, 140, 141, 142, 143, 144, 145, 146, 147, 148, 149, 150, 151, 152, 153, 154, 155, 156, 157, 158, 159, 160, 161, 162, 163, 164, 165, 166, 167, 168, 169, 170, 171, 172, 173, 174, 175, 176, 177, 178, 179, 180, 181, 182, 183, 184, 185, 186, 187, 188, 189, 190, 191, 192] rfl (by decide +kernel)
set_option maxRecDepth 20000 in
theorem gX12_haggle_X12_isLike : GoodIn wsX12_haggle (wsV RX12 523 RX12 yX12_isLike wsX12_isLike) := goodIn_app (goodIn_of _ (by decide +kernel)) ggX12_haggle_X12_isLike
theorem dX12_haggle_0 : decode cX12_haggle 0 = .ok (.iload_n 1, 1) := by decide +kernel
theorem dX12_haggle_1 : decode cX12_haggle 1 = .ok (.iconst 1, 1) := by decide +kernel
theorem dX12_haggle_2 : decode cX12_haggle 2 = .ok (.sipush 1000, 3) := by decide +kernel
theorem dX12_haggle_5 : decode cX12_haggle 5 = .ok (.invokestatic 377, 3) := by decide +kernel
theorem dX12_haggle_8 : decode cX12_haggle 8 = .ok (.ifCond .ne 5, 3) := by decide +kernel
theorem dX12_haggle_11 : decode cX12_haggle 11 = .ok (.iconst (-1), 1) := by decide +kernel
theorem dX12_haggle_12 : decode cX12_haggle 12 = .ok (.ireturn, 1) := by decide +kernel
theorem dX12_haggle_13 : decode cX12_haggle 13 = .ok (.aload_n 0, 1) := by decide +kernel
theorem dX12_haggle_14 : decode cX12_haggle 14 = .ok (.invokevirtual 494, 3) := by decide +kernel
theorem dX12_haggle_17 : decode cX12_haggle 17 = .ok (.aload_n 0, 1) := by decide +kernel
theorem dX12_haggle_18 : decode cX12_haggle 18 = .ok (.iconst 0, 1) := by decide +kernel
theorem dX12_haggle_19 : decode cX12_haggle 19 = .ok (.invokevirtual 516, 3) := by decide +kernel
theorem dX12_haggle_22 : decode cX12_haggle 22 = .ok (.iconst 1, 1) := by decide +kernel
theorem dX12_haggle_23 : decode cX12_haggle 23 = .ok (.istore_n 2, 1) := by decide +kernel
theorem dX12_haggle_24 : decode cX12_haggle 24 = .ok (.iload_n 2, 1) := by decide +kernel
theorem dX12_haggle_25 : decode cX12_haggle 25 = .ok (.iload_n 1, 1) := by decide +kernel
theorem dX12_haggle_26 : decode cX12_haggle 26 = .ok (.if_icmp .gt 140, 3) := by decide +kernel
theorem dX12_haggle_29 : decode cX12_haggle 29 = .ok (.iconst 0, 1) := by decide +kernel
theorem dX12_haggle_30 : decode cX12_haggle 30 = .ok (.istore_n 3, 1) := by decide +kernel
theorem dX12_haggle_31 : decode cX12_haggle 31 = .ok (.iload_n 3, 1) := by decide +kernel
theorem dX12_haggle_32 : decode cX12_haggle 32 = .ok (.aload_n 0, 1) := by decide +kernel
theorem dX12_haggle_33 : decode cX12_haggle 33 = .ok (.getfield 54, 3) := by decide +kernel
theorem dX12_haggle_36 : decode cX12_haggle 36 = .ok (.aload_n 0, 1) := by decide +kernel
theorem dX12_haggle_37 : decode cX12_haggle 37 = .ok (.getfield 48, 3) := by decide +kernel
theorem dX12_haggle_40 : decode cX12_haggle 40 = .ok (.iaload, 1) := by decide +kernel
theorem dX12_haggle_41 : decode cX12_haggle 41 = .ok (.if_icmp .ge 70, 3) := by decide +kernel
theorem dX12_haggle_44 : decode cX12_haggle 44 = .ok (.aload_n 0, 1) := by decide +kernel
theorem dX12_haggle_45 : decode cX12_haggle 45 = .ok (.iload_n 3, 1) := by decide +kernel
theorem dX12_haggle_46 : decode cX12_haggle 46 = .ok (.invokevirtual 510, 3) := by decide +kernel
theorem dX12_haggle_49 : decode cX12_haggle 49 = .ok (.ifCond .ne 6, 3) := by decide +kernel
theorem dX12_haggle_52 : decode cX12_haggle 52 = .ok (.goto 53, 3) := by decide +kernel
theorem dX12_haggle_55 : decode cX12_haggle 55 = .ok (.aload_n 0, 1) := by decide +kernel
theorem dX12_haggle_56 : decode cX12_haggle 56 = .ok (.iload_n 3, 1) := by decide +kernel
theorem dX12_haggle_57 : decode cX12_haggle 57 = .ok (.invokevirtual 513, 3) := by decide +kernel
theorem dX12_haggle_60 : decode cX12_haggle 60 = .ok (.lstore 4, 2) := by decide +kernel
theorem dX12_haggle_62 : decode cX12_haggle 62 = .ok (.aload_n 0, 1) := by decide +kernel
theorem dX12_haggle_63 : decode cX12_haggle 63 = .ok (.getfield 207, 3) := by decide +kernel
theorem dX12_haggle_66 : decode cX12_haggle 66 = .ok (.iload_n 3, 1) := by decide +kernel
theorem dX12_haggle_67 : decode cX12_haggle 67 = .ok (.lload 4, 2) := by decide +kernel
theorem dX12_haggle_69 : decode cX12_haggle 69 = .ok (.ldc2_w 519, 3) := by decide +kernel
theorem dX12_haggle_72 : decode cX12_haggle 72 = .ok (.lcmp, 1) := by decide +kernel
theorem dX12_haggle_73 : decode cX12_haggle 73 = .ok (.ifCond .le 9, 3) := by decide +kernel
theorem dX12_haggle_76 : decode cX12_haggle 76 = .ok (.ldc2_w 519, 3) := by decide +kernel
theorem dX12_haggle_79 : decode cX12_haggle 79 = .ok (.goto 20, 3) := by decide +kernel
theorem dX12_haggle_82 : decode cX12_haggle 82 = .ok (.lload 4, 2) := by decide +kernel
theorem dX12_haggle_84 : decode cX12_haggle 84 = .ok (.ldc2_w 521, 3) := by decide +kernel
theorem dX12_haggle_87 : decode cX12_haggle 87 = .ok (.lcmp, 1) := by decide +kernel
theorem dX12_haggle_88 : decode cX12_haggle 88 = .ok (.ifCond .ge 9, 3) := by decide +kernel
theorem dX12_haggle_91 : decode cX12_haggle 91 = .ok (.ldc2_w 521, 3) := by decide +kernel
theorem dX12_haggle_94 : decode cX12_haggle 94 = .ok (.goto 5, 3) := by decide +kernel
theorem dX12_haggle_97 : decode cX12_haggle 97 = .ok (.lload 4, 2) := by decide +kernel
theorem dX12_haggle_99 : decode cX12_haggle 99 = .ok (.l2i, 1) := by decide +kernel
theorem dX12_haggle_100 : decode cX12_haggle 100 = .ok (.iastore, 1) := by decide +kernel
theorem dX12_haggle_101 : decode cX12_haggle 101 = .ok (.aload_n 0, 1) := by decide +kernel
theorem dX12_haggle_102 : decode cX12_haggle 102 = .ok (.invokevirtual 491, 3) := by decide +kernel
theorem dX12_haggle_105 : decode cX12_haggle 105 = .ok (.iinc 3 1, 3) := by decide +kernel
theorem dX12_haggle_108 : decode cX12_haggle 108 = .ok (.goto (-77), 3) := by decide +kernel
theorem dX12_haggle_111 : decode cX12_haggle 111 = .ok (.aload_n 0, 1) := by decide +kernel
theorem dX12_haggle_112 : decode cX12_haggle 112 = .ok (.iload_n 2, 1) := by decide +kernel
theorem dX12_haggle_113 : decode cX12_haggle 113 = .ok (.invokevirtual 516, 3) := by decide +kernel
theorem dX12_haggle_116 : decode cX12_haggle 116 = .ok (.iload_n 2, 1) := by decide +kernel
theorem dX12_haggle_117 : decode cX12_haggle 117 = .ok (.iconst 1, 1) := by decide +kernel
theorem dX12_haggle_118 : decode cX12_haggle 118 = .ok (.isub, 1) := by decide +kernel
theorem dX12_haggle_119 : decode cX12_haggle 119 = .ok (.istore_n 3, 1) := by decide +kernel
theorem dX12_haggle_120 : decode cX12_haggle 120 = .ok (.iload_n 3, 1) := by decide +kernel
theorem dX12_haggle_121 : decode cX12_haggle 121 = .ok (.ifCond .lt 39, 3) := by decide +kernel
theorem dX12_haggle_124 : decode cX12_haggle 124 = .ok (.aload_n 0, 1) := by decide +kernel
theorem dX12_haggle_125 : decode cX12_haggle 125 = .ok (.iload_n 2, 1) := by decide +kernel
theorem dX12_haggle_126 : decode cX12_haggle 126 = .ok (.iload_n 3, 1) := by decide +kernel
theorem dX12_haggle_127 : decode cX12_haggle 127 = .ok (.invokevirtual 523, 3) := by decide +kernel
theorem dX12_haggle_130 : decode cX12_haggle 130 = .ok (.ifCond .ne 6, 3) := by decide +kernel
theorem dX12_haggle_133 : decode cX12_haggle 133 = .ok (.goto 21, 3) := by decide +kernel
theorem dX12_haggle_136 : decode cX12_haggle 136 = .ok (.aload_n 0, 1) := by decide +kernel
theorem dX12_haggle_137 : decode cX12_haggle 137 = .ok (.iload_n 3, 1) := by decide +kernel
theorem dX12_haggle_138 : decode cX12_haggle 138 = .ok (.iload_n 2, 1) := by decide +kernel
theorem dX12_haggle_139 : decode cX12_haggle 139 = .ok (.iconst 1, 1) := by decide +kernel
theorem dX12_haggle_140 : decode cX12_haggle 140 = .ok (.isub, 1) := by decide +kernel
theorem dX12_haggle_141 : decode cX12_haggle 141 = .ok (.if_icmp .ne 7, 3) := by decide +kernel
theorem dX12_haggle_144 : decode cX12_haggle 144 = .ok (.iconst 0, 1) := by decide +kernel
theorem dX12_haggle_145 : decode cX12_haggle 145 = .ok (.goto 4, 3) := by decide +kernel
theorem dX12_haggle_148 : decode cX12_haggle 148 = .ok (.iconst 1, 1) := by decide +kernel
theorem dX12_haggle_149 : decode cX12_haggle 149 = .ok (.putfield 216, 3) := by decide +kernel
theorem dX12_haggle_152 : decode cX12_haggle 152 = .ok (.iload_n 2, 1) := by decide +kernel
theorem dX12_haggle_153 : decode cX12_haggle 153 = .ok (.ireturn, 1) := by decide +kernel
theorem dX12_haggle_154 : decode cX12_haggle 154 = .ok (.iinc 3 (-1), 3) := by decide +kernel
theorem dX12_haggle_157 : decode cX12_haggle 157 = .ok (.goto (-37), 3) := by decide +kernel
theorem dX12_haggle_160 : decode cX12_haggle 160 = .ok (.iinc 2 1, 3) := by decide +kernel
theorem dX12_haggle_163 : decode cX12_haggle 163 = .ok (.goto (-139), 3) := by decide +kernel
theorem dX12_haggle_166 : decode cX12_haggle 166 = .ok (.aload_n 0, 1) := by decide +kernel
theorem dX12_haggle_167 : decode cX12_haggle 167 = .ok (.iconst 2, 1) := by decide +kernel
theorem dX12_haggle_168 : decode cX12_haggle 168 = .ok (.putfield 216, 3) := by decide +kernel
theorem dX12_haggle_171 : decode cX12_haggle 171 = .ok (.bipush (-2), 2) := by decide +kernel
theorem dX12_haggle_173 : decode cX12_haggle 173 = .ok (.iload_n 1, 1) := by decide +kernel
theorem dX12_haggle_174 : decode cX12_haggle 174 = .ok (.isub, 1) := by decide +kernel
theorem dX12_haggle_175 : decode cX12_haggle 175 = .ok (.ireturn, 1) := by decide +kernel
theorem dX12_ended_0 : decode cX12_ended 0 = .ok (.aload_n 0, 1) := by decide +kernel
theorem dX12_ended_1 : decode cX12_ended 1 = .ok (.getfield 216, 3) := by decide +kernel
theorem dX12_ended_4 : decode cX12_ended 4 = .ok (.ireturn, 1) := by decide +kernel
set_option maxRecDepth 20000 in
theorem ggX12_gift_X12_laysAll : GoodIn wsX12_gift wsX12_laysAll := goodIn_r _ [14, 15, 16, 17, 13, 18, 19, 7, 2, 9, 8, 20, 21, 22, 23, 24, 25, 26, 27, 28, 29, 30, 31, 32, 33, 34, 35, 36, 37, 38, 39, 40, 41, 42, 43, 44, 45, 46, 47, 48, 49, 50, 51, 52, 53, 54, 55, 56, 57, 58, 59, 60, 61, 62, 63, 64, 65, 66, 67, 68, 69, 70, 71, 72, 73, 74, 75, 76, 77, 78, 79, 80, 81, 82, 83, 84, 85, 1, 86, 4, 87, 88, 99, 100, 101, 102, 103, 104, 105, 106, 107, 108, 109, 110, 111, 112, 113, 114, 115, 116, 117, 118, 119, 120, 121, 122, 123, 124, 125, 126, 127, 128, 129, 130, 131, 132, 133, 134, 135, 136, 137, 138, 139, 140, 141, 142, 143, 144, 145, 146, 147, 148, 149, 150, 151, 152, 153, 154, 155, 156, 157, 158, 159, 160, 161, 162, 163, 164, 165, 166, 167, 168, 169, 170, 171, 172, 173] rfl (by decide +kernel)
set_option maxRecDepth 20000 in
theorem gX12_gift_X12_laysAll : GoodIn wsX12_gift (wsV RX12 494 RX12 yX12_laysAll wsX12_laysAll) := goodIn_app (goodIn_of _ (by decide +kernel)) ggX12_gift_X12_laysAll
set_option maxRecDepth 20000 in
theorem ggX12_gift_X12_aloneOf : GoodIn wsX12_gift wsX12_aloneOf := goodIn_r _ [55, 56, 2, 99, 100, 101, 102, 103, 104, 105, 106, 107, 108, 109, 110, 111, 112, 113, 114, 115, 116, 117, 118, 119, 120, 121, 122, 123, 124, 125, 126, 127, 128, 129, 130, 131, 132, 133, 134, 135, 136, 137, 138, 139, 140, 141, 142, 143, 144, 145, 146, 147, 148, 149, 150, 151, 152, 153, 154, 155, 156, 157, 158, 159, 160, 161, 162, 163, 164, 165, 166, 167, 168, 169, 170, 171, 172, 173] rfl (by decide +kernel)
set_option maxRecDepth 20000 in
theorem gX12_gift_X12_aloneOf : GoodIn wsX12_gift (wsV RX12 411 RX12 yX12_aloneOf wsX12_aloneOf) := goodIn_app (goodIn_of _ (by decide +kernel)) ggX12_gift_X12_aloneOf
set_option maxRecDepth 20000 in
theorem ggX12_gift_X12_first : GoodIn wsX12_gift wsX12_first := goodIn_r _ [71, 72, 2, 99, 100, 101, 102, 103, 104, 105, 106, 107, 108, 109, 110, 111, 112, 113, 114, 115, 116, 117, 118, 119, 120, 121, 122, 123, 124, 125, 126, 127, 128, 129, 130, 131, 132, 133, 134, 135, 136, 137, 138, 139, 140, 141, 142, 143, 144, 145, 146, 147, 148, 149, 150, 151, 152, 153, 154, 155, 156, 157, 158, 159, 160, 161, 162, 163, 164, 165, 166, 167, 168, 169, 170, 171, 172, 173] rfl (by decide +kernel)
set_option maxRecDepth 20000 in
theorem gX12_gift_X12_first : GoodIn wsX12_gift (wsV RX12 389 RX12 yX12_first wsX12_first) := goodIn_app (goodIn_of _ (by decide +kernel)) ggX12_gift_X12_first
set_option maxRecDepth 20000 in
theorem ggX12_gift_X12_second : GoodIn wsX12_gift wsX12_second := goodIn_r _ [76, 77, 2, 99, 100, 101, 102, 103, 104, 105, 106, 107, 108, 109, 110, 111, 112, 113, 114, 115, 116, 117, 118, 119, 120, 121, 122, 123, 124, 125, 126, 127, 128, 129, 130, 131, 132, 133, 134, 135, 136, 137, 138, 139, 140, 141, 142, 143, 144, 145, 146, 147, 148, 149, 150, 151, 152, 153, 154, 155, 156, 157, 158, 159, 160, 161, 162, 163, 164, 165, 166, 167, 168, 169, 170, 171, 172, 173] rfl (by decide +kernel)
set_option maxRecDepth 20000 in
theorem gX12_gift_X12_second : GoodIn wsX12_gift (wsV RX12 392 RX12 yX12_second wsX12_second) := goodIn_app (goodIn_of _ (by decide +kernel)) ggX12_gift_X12_second
set_option maxRecDepth 20000 in
theorem ggX12_gift_X12_doubles : GoodIn wsX12_gift wsX12_doubles := goodIn_r _ [92, 93, 1, 2, 94, 95, 96, 97, 13, 98, 99, 100, 101, 102, 103, 104, 105, 106, 107, 108, 109, 110, 111, 112, 113, 114, 115, 116, 117, 118, 119, 120, 121, 122, 123, 124, 125, 126, 127, 128, 129, 130, 131, 132, 133, 134, 135, 136, 137, 138, 139, 140, 141, 142, 143, 144, 145, 146, 147, 148, 149, 150, 151, 152, 153, 154, 155, 156, 157, 158, 159, 160, 161, 162, 163, 164, 165, 166, 167, 168, 169, 170, 171, 172, 173] rfl (by decide +kernel)
set_option maxRecDepth 20000 in
theorem gX12_gift_X12_doubles : GoodIn wsX12_gift (wsV RX12 440 RX12 yX12_doubles wsX12_doubles) := goodIn_app (goodIn_of _ (by decide +kernel)) ggX12_gift_X12_doubles
theorem dX12_gift_0 : decode cX12_gift 0 = .ok (.aload_n 0, 1) := by decide +kernel
theorem dX12_gift_1 : decode cX12_gift 1 = .ok (.invokevirtual 494, 3) := by decide +kernel
theorem dX12_gift_4 : decode cX12_gift 4 = .ok (.lconst 0, 1) := by decide +kernel
theorem dX12_gift_5 : decode cX12_gift 5 = .ok (.lstore_n 1, 1) := by decide +kernel
theorem dX12_gift_6 : decode cX12_gift 6 = .ok (.iconst 0, 1) := by decide +kernel
theorem dX12_gift_7 : decode cX12_gift 7 = .ok (.istore_n 3, 1) := by decide +kernel
theorem dX12_gift_8 : decode cX12_gift 8 = .ok (.iload_n 3, 1) := by decide +kernel
theorem dX12_gift_9 : decode cX12_gift 9 = .ok (.aload_n 0, 1) := by decide +kernel
theorem dX12_gift_10 : decode cX12_gift 10 = .ok (.getfield 51, 3) := by decide +kernel
theorem dX12_gift_13 : decode cX12_gift 13 = .ok (.aload_n 0, 1) := by decide +kernel
theorem dX12_gift_14 : decode cX12_gift 14 = .ok (.getfield 48, 3) := by decide +kernel
theorem dX12_gift_17 : decode cX12_gift 17 = .ok (.iaload, 1) := by decide +kernel
theorem dX12_gift_18 : decode cX12_gift 18 = .ok (.if_icmp .ge 61, 3) := by decide +kernel
theorem dX12_gift_21 : decode cX12_gift 21 = .ok (.aload_n 0, 1) := by decide +kernel
theorem dX12_gift_22 : decode cX12_gift 22 = .ok (.getfield 225, 3) := by decide +kernel
theorem dX12_gift_25 : decode cX12_gift 25 = .ok (.iload_n 3, 1) := by decide +kernel
theorem dX12_gift_26 : decode cX12_gift 26 = .ok (.aload_n 0, 1) := by decide +kernel
theorem dX12_gift_27 : decode cX12_gift 27 = .ok (.getfield 213, 3) := by decide +kernel
theorem dX12_gift_30 : decode cX12_gift 30 = .ok (.iload_n 3, 1) := by decide +kernel
theorem dX12_gift_31 : decode cX12_gift 31 = .ok (.laload, 1) := by decide +kernel
theorem dX12_gift_32 : decode cX12_gift 32 = .ok (.aload_n 0, 1) := by decide +kernel
theorem dX12_gift_33 : decode cX12_gift 33 = .ok (.iload_n 3, 1) := by decide +kernel
theorem dX12_gift_34 : decode cX12_gift 34 = .ok (.invokevirtual 411, 3) := by decide +kernel
theorem dX12_gift_37 : decode cX12_gift 37 = .ok (.i2l, 1) := by decide +kernel
theorem dX12_gift_38 : decode cX12_gift 38 = .ok (.lcmp, 1) := by decide +kernel
theorem dX12_gift_39 : decode cX12_gift 39 = .ok (.ifCond .ge 19, 3) := by decide +kernel
theorem dX12_gift_42 : decode cX12_gift 42 = .ok (.aload_n 0, 1) := by decide +kernel
theorem dX12_gift_43 : decode cX12_gift 43 = .ok (.iload_n 3, 1) := by decide +kernel
theorem dX12_gift_44 : decode cX12_gift 44 = .ok (.invokevirtual 411, 3) := by decide +kernel
theorem dX12_gift_47 : decode cX12_gift 47 = .ok (.i2l, 1) := by decide +kernel
theorem dX12_gift_48 : decode cX12_gift 48 = .ok (.aload_n 0, 1) := by decide +kernel
theorem dX12_gift_49 : decode cX12_gift 49 = .ok (.getfield 213, 3) := by decide +kernel
theorem dX12_gift_52 : decode cX12_gift 52 = .ok (.iload_n 3, 1) := by decide +kernel
theorem dX12_gift_53 : decode cX12_gift 53 = .ok (.laload, 1) := by decide +kernel
theorem dX12_gift_54 : decode cX12_gift 54 = .ok (.lsub, 1) := by decide +kernel
theorem dX12_gift_55 : decode cX12_gift 55 = .ok (.goto 4, 3) := by decide +kernel
theorem dX12_gift_58 : decode cX12_gift 58 = .ok (.lconst 0, 1) := by decide +kernel
theorem dX12_gift_59 : decode cX12_gift 59 = .ok (.lastore, 1) := by decide +kernel
theorem dX12_gift_60 : decode cX12_gift 60 = .ok (.lload_n 1, 1) := by decide +kernel
theorem dX12_gift_61 : decode cX12_gift 61 = .ok (.ldc2_w 456, 3) := by decide +kernel
theorem dX12_gift_64 : decode cX12_gift 64 = .ok (.aload_n 0, 1) := by decide +kernel
theorem dX12_gift_65 : decode cX12_gift 65 = .ok (.getfield 225, 3) := by decide +kernel
theorem dX12_gift_68 : decode cX12_gift 68 = .ok (.iload_n 3, 1) := by decide +kernel
theorem dX12_gift_69 : decode cX12_gift 69 = .ok (.laload, 1) := by decide +kernel
theorem dX12_gift_70 : decode cX12_gift 70 = .ok (.lmul, 1) := by decide +kernel
theorem dX12_gift_71 : decode cX12_gift 71 = .ok (.ladd, 1) := by decide +kernel
theorem dX12_gift_72 : decode cX12_gift 72 = .ok (.lstore_n 1, 1) := by decide +kernel
theorem dX12_gift_73 : decode cX12_gift 73 = .ok (.iinc 3 1, 3) := by decide +kernel
theorem dX12_gift_76 : decode cX12_gift 76 = .ok (.goto (-68), 3) := by decide +kernel
theorem dX12_gift_79 : decode cX12_gift 79 = .ok (.iconst 0, 1) := by decide +kernel
theorem dX12_gift_80 : decode cX12_gift 80 = .ok (.istore_n 3, 1) := by decide +kernel
theorem dX12_gift_81 : decode cX12_gift 81 = .ok (.iload_n 3, 1) := by decide +kernel
theorem dX12_gift_82 : decode cX12_gift 82 = .ok (.sipush 144, 3) := by decide +kernel
theorem dX12_gift_85 : decode cX12_gift 85 = .ok (.if_icmp .ge 16, 3) := by decide +kernel
theorem dX12_gift_88 : decode cX12_gift 88 = .ok (.aload_n 0, 1) := by decide +kernel
theorem dX12_gift_89 : decode cX12_gift 89 = .ok (.getfield 222, 3) := by decide +kernel
theorem dX12_gift_92 : decode cX12_gift 92 = .ok (.iload_n 3, 1) := by decide +kernel
theorem dX12_gift_93 : decode cX12_gift 93 = .ok (.iconst 0, 1) := by decide +kernel
theorem dX12_gift_94 : decode cX12_gift 94 = .ok (.iastore, 1) := by decide +kernel
theorem dX12_gift_95 : decode cX12_gift 95 = .ok (.iinc 3 1, 3) := by decide +kernel
theorem dX12_gift_98 : decode cX12_gift 98 = .ok (.goto (-17), 3) := by decide +kernel
theorem dX12_gift_101 : decode cX12_gift 101 = .ok (.iconst 0, 1) := by decide +kernel
theorem dX12_gift_102 : decode cX12_gift 102 = .ok (.istore_n 3, 1) := by decide +kernel
theorem dX12_gift_103 : decode cX12_gift 103 = .ok (.iload_n 3, 1) := by decide +kernel
theorem dX12_gift_104 : decode cX12_gift 104 = .ok (.aload_n 0, 1) := by decide +kernel
theorem dX12_gift_105 : decode cX12_gift 105 = .ok (.getfield 54, 3) := by decide +kernel
theorem dX12_gift_108 : decode cX12_gift 108 = .ok (.aload_n 0, 1) := by decide +kernel
theorem dX12_gift_109 : decode cX12_gift 109 = .ok (.getfield 48, 3) := by decide +kernel
theorem dX12_gift_112 : decode cX12_gift 112 = .ok (.iaload, 1) := by decide +kernel
theorem dX12_gift_113 : decode cX12_gift 113 = .ok (.if_icmp .ge 126, 3) := by decide +kernel
theorem dX12_gift_116 : decode cX12_gift 116 = .ok (.aload_n 0, 1) := by decide +kernel
theorem dX12_gift_117 : decode cX12_gift 117 = .ok (.iload_n 3, 1) := by decide +kernel
theorem dX12_gift_118 : decode cX12_gift 118 = .ok (.invokevirtual 389, 3) := by decide +kernel
theorem dX12_gift_121 : decode cX12_gift 121 = .ok (.istore 4, 2) := by decide +kernel
theorem dX12_gift_123 : decode cX12_gift 123 = .ok (.aload_n 0, 1) := by decide +kernel
theorem dX12_gift_124 : decode cX12_gift 124 = .ok (.iload_n 3, 1) := by decide +kernel
theorem dX12_gift_125 : decode cX12_gift 125 = .ok (.invokevirtual 392, 3) := by decide +kernel
theorem dX12_gift_128 : decode cX12_gift 128 = .ok (.istore 5, 2) := by decide +kernel
theorem dX12_gift_130 : decode cX12_gift 130 = .ok (.aload_n 0, 1) := by decide +kernel
theorem dX12_gift_131 : decode cX12_gift 131 = .ok (.getfield 165, 3) := by decide +kernel
theorem dX12_gift_134 : decode cX12_gift 134 = .ok (.iload_n 3, 1) := by decide +kernel
theorem dX12_gift_135 : decode cX12_gift 135 = .ok (.iaload, 1) := by decide +kernel
theorem dX12_gift_136 : decode cX12_gift 136 = .ok (.i2l, 1) := by decide +kernel
theorem dX12_gift_137 : decode cX12_gift 137 = .ok (.aload_n 0, 1) := by decide +kernel
theorem dX12_gift_138 : decode cX12_gift 138 = .ok (.getfield 213, 3) := by decide +kernel
theorem dX12_gift_141 : decode cX12_gift 141 = .ok (.iload 4, 2) := by decide +kernel
theorem dX12_gift_143 : decode cX12_gift 143 = .ok (.laload, 1) := by decide +kernel
theorem dX12_gift_144 : decode cX12_gift 144 = .ok (.lsub, 1) := by decide +kernel
theorem dX12_gift_145 : decode cX12_gift 145 = .ok (.aload_n 0, 1) := by decide +kernel
theorem dX12_gift_146 : decode cX12_gift 146 = .ok (.getfield 213, 3) := by decide +kernel
theorem dX12_gift_149 : decode cX12_gift 149 = .ok (.iload 5, 2) := by decide +kernel
theorem dX12_gift_151 : decode cX12_gift 151 = .ok (.laload, 1) := by decide +kernel
theorem dX12_gift_152 : decode cX12_gift 152 = .ok (.lsub, 1) := by decide +kernel
theorem dX12_gift_153 : decode cX12_gift 153 = .ok (.aload_n 0, 1) := by decide +kernel
theorem dX12_gift_154 : decode cX12_gift 154 = .ok (.getfield 225, 3) := by decide +kernel
theorem dX12_gift_157 : decode cX12_gift 157 = .ok (.iload 4, 2) := by decide +kernel
theorem dX12_gift_159 : decode cX12_gift 159 = .ok (.laload, 1) := by decide +kernel
theorem dX12_gift_160 : decode cX12_gift 160 = .ok (.lsub, 1) := by decide +kernel
theorem dX12_gift_161 : decode cX12_gift 161 = .ok (.aload_n 0, 1) := by decide +kernel
theorem dX12_gift_162 : decode cX12_gift 162 = .ok (.getfield 225, 3) := by decide +kernel
theorem dX12_gift_165 : decode cX12_gift 165 = .ok (.iload 5, 2) := by decide +kernel
theorem dX12_gift_167 : decode cX12_gift 167 = .ok (.laload, 1) := by decide +kernel
theorem dX12_gift_168 : decode cX12_gift 168 = .ok (.lsub, 1) := by decide +kernel
theorem dX12_gift_169 : decode cX12_gift 169 = .ok (.lstore 6, 2) := by decide +kernel
theorem dX12_gift_171 : decode cX12_gift 171 = .ok (.aload_n 0, 1) := by decide +kernel
theorem dX12_gift_172 : decode cX12_gift 172 = .ok (.getfield 222, 3) := by decide +kernel
theorem dX12_gift_175 : decode cX12_gift 175 = .ok (.bipush 12, 2) := by decide +kernel
theorem dX12_gift_177 : decode cX12_gift 177 = .ok (.iload 4, 2) := by decide +kernel
theorem dX12_gift_179 : decode cX12_gift 179 = .ok (.imul, 1) := by decide +kernel
theorem dX12_gift_180 : decode cX12_gift 180 = .ok (.iload 5, 2) := by decide +kernel
theorem dX12_gift_182 : decode cX12_gift 182 = .ok (.iadd, 1) := by decide +kernel
theorem dX12_gift_183 : decode cX12_gift 183 = .ok (.aload_n 0, 1) := by decide +kernel
theorem dX12_gift_184 : decode cX12_gift 184 = .ok (.getfield 162, 3) := by decide +kernel
theorem dX12_gift_187 : decode cX12_gift 187 = .ok (.iload_n 3, 1) := by decide +kernel
theorem dX12_gift_188 : decode cX12_gift 188 = .ok (.baload, 1) := by decide +kernel
theorem dX12_gift_189 : decode cX12_gift 189 = .ok (.ifCond .eq 16, 3) := by decide +kernel
theorem dX12_gift_192 : decode cX12_gift 192 = .ok (.lload 6, 2) := by decide +kernel
theorem dX12_gift_194 : decode cX12_gift 194 = .ok (.lconst 0, 1) := by decide +kernel
theorem dX12_gift_195 : decode cX12_gift 195 = .ok (.lcmp, 1) := by decide +kernel
theorem dX12_gift_196 : decode cX12_gift 196 = .ok (.ifCond .le 9, 3) := by decide +kernel
theorem dX12_gift_199 : decode cX12_gift 199 = .ok (.lload 6, 2) := by decide +kernel
theorem dX12_gift_201 : decode cX12_gift 201 = .ok (.l2i, 1) := by decide +kernel
theorem dX12_gift_202 : decode cX12_gift 202 = .ok (.goto 4, 3) := by decide +kernel
theorem dX12_gift_205 : decode cX12_gift 205 = .ok (.iconst 0, 1) := by decide +kernel
theorem dX12_gift_206 : decode cX12_gift 206 = .ok (.iastore, 1) := by decide +kernel
theorem dX12_gift_207 : decode cX12_gift 207 = .ok (.aload_n 0, 1) := by decide +kernel
theorem dX12_gift_208 : decode cX12_gift 208 = .ok (.getfield 222, 3) := by decide +kernel
theorem dX12_gift_211 : decode cX12_gift 211 = .ok (.bipush 12, 2) := by decide +kernel
theorem dX12_gift_213 : decode cX12_gift 213 = .ok (.iload 5, 2) := by decide +kernel
theorem dX12_gift_215 : decode cX12_gift 215 = .ok (.imul, 1) := by decide +kernel
theorem dX12_gift_216 : decode cX12_gift 216 = .ok (.iload 4, 2) := by decide +kernel
theorem dX12_gift_218 : decode cX12_gift 218 = .ok (.iadd, 1) := by decide +kernel
theorem dX12_gift_219 : decode cX12_gift 219 = .ok (.aload_n 0, 1) := by decide +kernel
theorem dX12_gift_220 : decode cX12_gift 220 = .ok (.getfield 222, 3) := by decide +kernel
theorem dX12_gift_223 : decode cX12_gift 223 = .ok (.bipush 12, 2) := by decide +kernel
theorem dX12_gift_225 : decode cX12_gift 225 = .ok (.iload 4, 2) := by decide +kernel
theorem dX12_gift_227 : decode cX12_gift 227 = .ok (.imul, 1) := by decide +kernel
theorem dX12_gift_228 : decode cX12_gift 228 = .ok (.iload 5, 2) := by decide +kernel
theorem dX12_gift_230 : decode cX12_gift 230 = .ok (.iadd, 1) := by decide +kernel
theorem dX12_gift_231 : decode cX12_gift 231 = .ok (.iaload, 1) := by decide +kernel
theorem dX12_gift_232 : decode cX12_gift 232 = .ok (.iastore, 1) := by decide +kernel
theorem dX12_gift_233 : decode cX12_gift 233 = .ok (.iinc 3 1, 3) := by decide +kernel
theorem dX12_gift_236 : decode cX12_gift 236 = .ok (.goto (-133), 3) := by decide +kernel
theorem dX12_gift_239 : decode cX12_gift 239 = .ok (.lload_n 1, 1) := by decide +kernel
theorem dX12_gift_240 : decode cX12_gift 240 = .ok (.aload_n 0, 1) := by decide +kernel
theorem dX12_gift_241 : decode cX12_gift 241 = .ok (.aload_n 0, 1) := by decide +kernel
theorem dX12_gift_242 : decode cX12_gift 242 = .ok (.getfield 222, 3) := by decide +kernel
theorem dX12_gift_245 : decode cX12_gift 245 = .ok (.invokevirtual 440, 3) := by decide +kernel
theorem dX12_gift_248 : decode cX12_gift 248 = .ok (.i2l, 1) := by decide +kernel
theorem dX12_gift_249 : decode cX12_gift 249 = .ok (.ladd, 1) := by decide +kernel
theorem dX12_gift_250 : decode cX12_gift 250 = .ok (.l2i, 1) := by decide +kernel
theorem dX12_gift_251 : decode cX12_gift 251 = .ok (.ireturn, 1) := by decide +kernel
set_option maxRecDepth 20000 in
theorem ggX12_surely_X12_laysAll : GoodIn wsX12_surely wsX12_laysAll := goodIn_r _ [12, 13, 14, 15, 11, 16, 17, 1, 2, 3, 6, 18, 19, 20, 21, 22, 23, 24, 25, 26, 27, 28, 29, 30, 31, 32, 33, 34, 35, 36, 37, 38, 39, 40, 41, 42, 43, 44, 45, 46, 47, 48, 49, 50, 51, 52, 53, 54, 55, 56, 57, 58, 59, 60, 61, 62, 63, 64, 65, 66, 67, 68, 69, 70, 71, 72, 73, 74, 75, 76, 77, 78, 79, 80, 81, 82, 83, 84, 85, 5, 4, 86, 91, 92, 93, 94, 95, 96, 97, 98, 99, 100, 101, 102, 103, 104, 105, 106, 107, 108, 109, 110, 111, 112, 113, 114, 115, 116, 117, 118, 119, 120, 121, 122, 123, 124, 125, 126, 127, 128, 129, 130, 131, 132, 133, 134, 135, 136, 137, 138, 139, 140, 141, 142, 143, 144, 145, 146, 147, 148, 149, 150, 151, 152, 153, 154, 155, 156, 157, 158, 159, 160, 161, 162, 163, 164, 165] rfl (by decide +kernel)
set_option maxRecDepth 20000 in
theorem gX12_surely_X12_laysAll : GoodIn wsX12_surely (wsV RX12 494 RX12 yX12_laysAll wsX12_laysAll) := goodIn_app (goodIn_of _ (by decide +kernel)) ggX12_surely_X12_laysAll
set_option maxRecDepth 20000 in
theorem ggX12_surely_X12_lone : GoodIn wsX12_surely wsX12_lone := goodIn_r _ [90, 84, 2, 5, 50, 51, 52, 11, 53, 54, 91, 92, 93, 94, 95, 96, 97, 98, 99, 100, 101, 102, 103, 104, 105, 106, 107, 108, 109, 110, 111, 112, 113, 114, 115, 116, 117, 118, 119, 120, 121, 122, 123, 124, 125, 126, 127, 128, 129, 130, 131, 132, 133, 134, 135, 136, 137, 138, 139, 140, 141, 142, 143, 144, 145, 146, 147, 148, 149, 150, 151, 152, 153, 154, 155, 156, 157, 158, 159, 160, 161, 162, 163, 164, 165] rfl (by decide +kernel)
set_option maxRecDepth 20000 in
theorem gX12_surely_X12_lone : GoodIn wsX12_surely (wsV RX12 507 RX12 yX12_lone wsX12_lone) := goodIn_app (goodIn_of _ (by decide +kernel)) ggX12_surely_X12_lone
set_option maxRecDepth 20000 in
theorem ggX12_surely_X12_first : GoodIn wsX12_surely wsX12_first := goodIn_r _ [69, 70, 2, 91, 92, 93, 94, 95, 96, 97, 98, 99, 100, 101, 102, 103, 104, 105, 106, 107, 108, 109, 110, 111, 112, 113, 114, 115, 116, 117, 118, 119, 120, 121, 122, 123, 124, 125, 126, 127, 128, 129, 130, 131, 132, 133, 134, 135, 136, 137, 138, 139, 140, 141, 142, 143, 144, 145, 146, 147, 148, 149, 150, 151, 152, 153, 154, 155, 156, 157, 158, 159, 160, 161, 162, 163, 164, 165] rfl (by decide +kernel)
set_option maxRecDepth 20000 in
theorem gX12_surely_X12_first : GoodIn wsX12_surely (wsV RX12 389 RX12 yX12_first wsX12_first) := goodIn_app (goodIn_of _ (by decide +kernel)) ggX12_surely_X12_first
set_option maxRecDepth 20000 in
theorem ggX12_surely_X12_second : GoodIn wsX12_surely wsX12_second := goodIn_r _ [74, 75, 2, 91, 92, 93, 94, 95, 96, 97, 98, 99, 100, 101, 102, 103, 104, 105, 106, 107, 108, 109, 110, 111, 112, 113, 114, 115, 116, 117, 118, 119, 120, 121, 122, 123, 124, 125, 126, 127, 128, 129, 130, 131, 132, 133, 134, 135, 136, 137, 138, 139, 140, 141, 142, 143, 144, 145, 146, 147, 148, 149, 150, 151, 152, 153, 154, 155, 156, 157, 158, 159, 160, 161, 162, 163, 164, 165] rfl (by decide +kernel)
set_option maxRecDepth 20000 in
theorem gX12_surely_X12_second : GoodIn wsX12_surely (wsV RX12 392 RX12 yX12_second wsX12_second) := goodIn_app (goodIn_of _ (by decide +kernel)) ggX12_surely_X12_second
theorem dX12_surely_0 : decode cX12_surely 0 = .ok (.aload_n 0, 1) := by decide +kernel
theorem dX12_surely_1 : decode cX12_surely 1 = .ok (.invokevirtual 494, 3) := by decide +kernel
theorem dX12_surely_4 : decode cX12_surely 4 = .ok (.aload_n 0, 1) := by decide +kernel
theorem dX12_surely_5 : decode cX12_surely 5 = .ok (.invokevirtual 507, 3) := by decide +kernel
theorem dX12_surely_8 : decode cX12_surely 8 = .ok (.iconst (-1), 1) := by decide +kernel
theorem dX12_surely_9 : decode cX12_surely 9 = .ok (.if_icmp .eq 5, 3) := by decide +kernel
theorem dX12_surely_12 : decode cX12_surely 12 = .ok (.iconst 0, 1) := by decide +kernel
theorem dX12_surely_13 : decode cX12_surely 13 = .ok (.ireturn, 1) := by decide +kernel
theorem dX12_surely_14 : decode cX12_surely 14 = .ok (.iconst 1, 1) := by decide +kernel
theorem dX12_surely_15 : decode cX12_surely 15 = .ok (.istore_n 1, 1) := by decide +kernel
theorem dX12_surely_16 : decode cX12_surely 16 = .ok (.iconst 0, 1) := by decide +kernel
theorem dX12_surely_17 : decode cX12_surely 17 = .ok (.istore_n 2, 1) := by decide +kernel
theorem dX12_surely_18 : decode cX12_surely 18 = .ok (.iload_n 2, 1) := by decide +kernel
theorem dX12_surely_19 : decode cX12_surely 19 = .ok (.aload_n 0, 1) := by decide +kernel
theorem dX12_surely_20 : decode cX12_surely 20 = .ok (.getfield 54, 3) := by decide +kernel
theorem dX12_surely_23 : decode cX12_surely 23 = .ok (.aload_n 0, 1) := by decide +kernel
theorem dX12_surely_24 : decode cX12_surely 24 = .ok (.getfield 48, 3) := by decide +kernel
theorem dX12_surely_27 : decode cX12_surely 27 = .ok (.iaload, 1) := by decide +kernel
theorem dX12_surely_28 : decode cX12_surely 28 = .ok (.if_icmp .ge 118, 3) := by decide +kernel
theorem dX12_surely_31 : decode cX12_surely 31 = .ok (.aload_n 0, 1) := by decide +kernel
theorem dX12_surely_32 : decode cX12_surely 32 = .ok (.getfield 162, 3) := by decide +kernel
theorem dX12_surely_35 : decode cX12_surely 35 = .ok (.iload_n 2, 1) := by decide +kernel
theorem dX12_surely_36 : decode cX12_surely 36 = .ok (.baload, 1) := by decide +kernel
theorem dX12_surely_37 : decode cX12_surely 37 = .ok (.ifCond .eq 103, 3) := by decide +kernel
theorem dX12_surely_40 : decode cX12_surely 40 = .ok (.aload_n 0, 1) := by decide +kernel
theorem dX12_surely_41 : decode cX12_surely 41 = .ok (.getfield 204, 3) := by decide +kernel
theorem dX12_surely_44 : decode cX12_surely 44 = .ok (.iload_n 2, 1) := by decide +kernel
theorem dX12_surely_45 : decode cX12_surely 45 = .ok (.baload, 1) := by decide +kernel
theorem dX12_surely_46 : decode cX12_surely 46 = .ok (.ifCond .eq 6, 3) := by decide +kernel
theorem dX12_surely_49 : decode cX12_surely 49 = .ok (.goto 91, 3) := by decide +kernel
theorem dX12_surely_52 : decode cX12_surely 52 = .ok (.aload_n 0, 1) := by decide +kernel
theorem dX12_surely_53 : decode cX12_surely 53 = .ok (.getfield 213, 3) := by decide +kernel
theorem dX12_surely_56 : decode cX12_surely 56 = .ok (.aload_n 0, 1) := by decide +kernel
theorem dX12_surely_57 : decode cX12_surely 57 = .ok (.iload_n 2, 1) := by decide +kernel
theorem dX12_surely_58 : decode cX12_surely 58 = .ok (.invokevirtual 389, 3) := by decide +kernel
theorem dX12_surely_61 : decode cX12_surely 61 = .ok (.laload, 1) := by decide +kernel
theorem dX12_surely_62 : decode cX12_surely 62 = .ok (.aload_n 0, 1) := by decide +kernel
theorem dX12_surely_63 : decode cX12_surely 63 = .ok (.getfield 213, 3) := by decide +kernel
theorem dX12_surely_66 : decode cX12_surely 66 = .ok (.aload_n 0, 1) := by decide +kernel
theorem dX12_surely_67 : decode cX12_surely 67 = .ok (.iload_n 2, 1) := by decide +kernel
theorem dX12_surely_68 : decode cX12_surely 68 = .ok (.invokevirtual 392, 3) := by decide +kernel
theorem dX12_surely_71 : decode cX12_surely 71 = .ok (.laload, 1) := by decide +kernel
theorem dX12_surely_72 : decode cX12_surely 72 = .ok (.ladd, 1) := by decide +kernel
theorem dX12_surely_73 : decode cX12_surely 73 = .ok (.lstore_n 3, 1) := by decide +kernel
theorem dX12_surely_74 : decode cX12_surely 74 = .ok (.lload_n 3, 1) := by decide +kernel
theorem dX12_surely_75 : decode cX12_surely 75 = .ok (.aload_n 0, 1) := by decide +kernel
theorem dX12_surely_76 : decode cX12_surely 76 = .ok (.getfield 165, 3) := by decide +kernel
theorem dX12_surely_79 : decode cX12_surely 79 = .ok (.iload_n 2, 1) := by decide +kernel
theorem dX12_surely_80 : decode cX12_surely 80 = .ok (.iaload, 1) := by decide +kernel
theorem dX12_surely_81 : decode cX12_surely 81 = .ok (.aload_n 0, 1) := by decide +kernel
theorem dX12_surely_82 : decode cX12_surely 82 = .ok (.getfield 88, 3) := by decide +kernel
theorem dX12_surely_85 : decode cX12_surely 85 = .ok (.bipush 30, 2) := by decide +kernel
theorem dX12_surely_87 : decode cX12_surely 87 = .ok (.aload_n 0, 1) := by decide +kernel
theorem dX12_surely_88 : decode cX12_surely 88 = .ok (.getfield 48, 3) := by decide +kernel
theorem dX12_surely_91 : decode cX12_surely 91 = .ok (.imul, 1) := by decide +kernel
theorem dX12_surely_92 : decode cX12_surely 92 = .ok (.iload_n 2, 1) := by decide +kernel
theorem dX12_surely_93 : decode cX12_surely 93 = .ok (.iadd, 1) := by decide +kernel
theorem dX12_surely_94 : decode cX12_surely 94 = .ok (.iaload, 1) := by decide +kernel
theorem dX12_surely_95 : decode cX12_surely 95 = .ok (.isub, 1) := by decide +kernel
theorem dX12_surely_96 : decode cX12_surely 96 = .ok (.i2l, 1) := by decide +kernel
theorem dX12_surely_97 : decode cX12_surely 97 = .ok (.lcmp, 1) := by decide +kernel
theorem dX12_surely_98 : decode cX12_surely 98 = .ok (.ifCond .ge 5, 3) := by decide +kernel
theorem dX12_surely_101 : decode cX12_surely 101 = .ok (.iconst 0, 1) := by decide +kernel
theorem dX12_surely_102 : decode cX12_surely 102 = .ok (.ireturn, 1) := by decide +kernel
theorem dX12_surely_103 : decode cX12_surely 103 = .ok (.iload_n 1, 1) := by decide +kernel
theorem dX12_surely_104 : decode cX12_surely 104 = .ok (.ifCond .eq 34, 3) := by decide +kernel
theorem dX12_surely_107 : decode cX12_surely 107 = .ok (.lload_n 3, 1) := by decide +kernel
theorem dX12_surely_108 : decode cX12_surely 108 = .ok (.aload_n 0, 1) := by decide +kernel
theorem dX12_surely_109 : decode cX12_surely 109 = .ok (.getfield 165, 3) := by decide +kernel
theorem dX12_surely_112 : decode cX12_surely 112 = .ok (.iload_n 2, 1) := by decide +kernel
theorem dX12_surely_113 : decode cX12_surely 113 = .ok (.iaload, 1) := by decide +kernel
theorem dX12_surely_114 : decode cX12_surely 114 = .ok (.aload_n 0, 1) := by decide +kernel
theorem dX12_surely_115 : decode cX12_surely 115 = .ok (.getfield 88, 3) := by decide +kernel
theorem dX12_surely_118 : decode cX12_surely 118 = .ok (.bipush 30, 2) := by decide +kernel
theorem dX12_surely_120 : decode cX12_surely 120 = .ok (.aload_n 0, 1) := by decide +kernel
theorem dX12_surely_121 : decode cX12_surely 121 = .ok (.getfield 48, 3) := by decide +kernel
theorem dX12_surely_124 : decode cX12_surely 124 = .ok (.imul, 1) := by decide +kernel
theorem dX12_surely_125 : decode cX12_surely 125 = .ok (.iload_n 2, 1) := by decide +kernel
theorem dX12_surely_126 : decode cX12_surely 126 = .ok (.iadd, 1) := by decide +kernel
theorem dX12_surely_127 : decode cX12_surely 127 = .ok (.iaload, 1) := by decide +kernel
theorem dX12_surely_128 : decode cX12_surely 128 = .ok (.iadd, 1) := by decide +kernel
theorem dX12_surely_129 : decode cX12_surely 129 = .ok (.i2l, 1) := by decide +kernel
theorem dX12_surely_130 : decode cX12_surely 130 = .ok (.lcmp, 1) := by decide +kernel
theorem dX12_surely_131 : decode cX12_surely 131 = .ok (.ifCond .lt 7, 3) := by decide +kernel
theorem dX12_surely_134 : decode cX12_surely 134 = .ok (.iconst 1, 1) := by decide +kernel
theorem dX12_surely_135 : decode cX12_surely 135 = .ok (.goto 4, 3) := by decide +kernel
theorem dX12_surely_138 : decode cX12_surely 138 = .ok (.iconst 0, 1) := by decide +kernel
theorem dX12_surely_139 : decode cX12_surely 139 = .ok (.istore_n 1, 1) := by decide +kernel
theorem dX12_surely_140 : decode cX12_surely 140 = .ok (.iinc 2 1, 3) := by decide +kernel
theorem dX12_surely_143 : decode cX12_surely 143 = .ok (.goto (-125), 3) := by decide +kernel
theorem dX12_surely_146 : decode cX12_surely 146 = .ok (.iload_n 1, 1) := by decide +kernel
theorem dX12_surely_147 : decode cX12_surely 147 = .ok (.ifCond .eq 7, 3) := by decide +kernel
theorem dX12_surely_150 : decode cX12_surely 150 = .ok (.iconst 2, 1) := by decide +kernel
theorem dX12_surely_151 : decode cX12_surely 151 = .ok (.goto 4, 3) := by decide +kernel
theorem dX12_surely_154 : decode cX12_surely 154 = .ok (.iconst 1, 1) := by decide +kernel
theorem dX12_surely_155 : decode cX12_surely 155 = .ok (.ireturn, 1) := by decide +kernel
theorem dX12_writes_0 : decode cX12_writes 0 = .ok (.aload_n 0, 1) := by decide +kernel
theorem dX12_writes_1 : decode cX12_writes 1 = .ok (.getfield 231, 3) := by decide +kernel
theorem dX12_writes_4 : decode cX12_writes 4 = .ok (.aload_n 0, 1) := by decide +kernel
theorem dX12_writes_5 : decode cX12_writes 5 = .ok (.getfield 228, 3) := by decide +kernel
theorem dX12_writes_8 : decode cX12_writes 8 = .ok (.iload_n 1, 1) := by decide +kernel
theorem dX12_writes_9 : decode cX12_writes 9 = .ok (.sipush 255, 3) := by decide +kernel
theorem dX12_writes_12 : decode cX12_writes 12 = .ok (.iand, 1) := by decide +kernel
theorem dX12_writes_13 : decode cX12_writes 13 = .ok (.iastore, 1) := by decide +kernel
theorem dX12_writes_14 : decode cX12_writes 14 = .ok (.aload_n 0, 1) := by decide +kernel
theorem dX12_writes_15 : decode cX12_writes 15 = .ok (.dup, 1) := by decide +kernel
theorem dX12_writes_16 : decode cX12_writes 16 = .ok (.getfield 228, 3) := by decide +kernel
theorem dX12_writes_19 : decode cX12_writes 19 = .ok (.iconst 1, 1) := by decide +kernel
theorem dX12_writes_20 : decode cX12_writes 20 = .ok (.iadd, 1) := by decide +kernel
theorem dX12_writes_21 : decode cX12_writes 21 = .ok (.putfield 228, 3) := by decide +kernel
theorem dX12_writes_24 : decode cX12_writes 24 = .ok (.return_, 1) := by decide +kernel
set_option maxRecDepth 20000 in
theorem ggX12_image_X12_writes : GoodIn wsX12_image wsX12_writes := goodIn_r _ [13, 7, 1, 14, 15, 16, 17, 18, 19, 20, 21, 22, 23, 24, 25, 26, 27, 28, 29, 30, 31, 32, 33, 34, 35, 36, 37, 38, 39, 40, 41, 42, 43, 44, 45, 46, 47, 48, 49, 50, 51, 52, 53, 54, 55, 56, 57, 58, 59, 60, 61, 62, 63, 64, 65, 66, 67, 68, 69, 70, 71, 72, 73, 74, 75, 76, 77, 78, 79, 80, 81, 82, 83, 84, 85, 86, 87, 88] rfl (by decide +kernel)
set_option maxRecDepth 20000 in
theorem gX12_image_X12_writes : GoodIn wsX12_image (wsV RX12 527 RX12 yX12_writes wsX12_writes) := goodIn_app (goodIn_of _ (by decide +kernel)) ggX12_image_X12_writes
theorem dX12_image_0 : decode cX12_image 0 = .ok (.aload_n 0, 1) := by decide +kernel
theorem dX12_image_1 : decode cX12_image 1 = .ok (.iconst 0, 1) := by decide +kernel
theorem dX12_image_2 : decode cX12_image 2 = .ok (.putfield 228, 3) := by decide +kernel
theorem dX12_image_5 : decode cX12_image 5 = .ok (.aload_n 0, 1) := by decide +kernel
theorem dX12_image_6 : decode cX12_image 6 = .ok (.aload_n 0, 1) := by decide +kernel
theorem dX12_image_7 : decode cX12_image 7 = .ok (.getfield 54, 3) := by decide +kernel
theorem dX12_image_10 : decode cX12_image 10 = .ok (.aload_n 0, 1) := by decide +kernel
theorem dX12_image_11 : decode cX12_image 11 = .ok (.getfield 48, 3) := by decide +kernel
theorem dX12_image_14 : decode cX12_image 14 = .ok (.iaload, 1) := by decide +kernel
theorem dX12_image_15 : decode cX12_image 15 = .ok (.invokevirtual 527, 3) := by decide +kernel
theorem dX12_image_18 : decode cX12_image 18 = .ok (.aload_n 0, 1) := by decide +kernel
theorem dX12_image_19 : decode cX12_image 19 = .ok (.aload_n 0, 1) := by decide +kernel
theorem dX12_image_20 : decode cX12_image 20 = .ok (.getfield 141, 3) := by decide +kernel
theorem dX12_image_23 : decode cX12_image 23 = .ok (.bipush 8, 2) := by decide +kernel
theorem dX12_image_25 : decode cX12_image 25 = .ok (.ishr, 1) := by decide +kernel
theorem dX12_image_26 : decode cX12_image 26 = .ok (.invokevirtual 527, 3) := by decide +kernel
theorem dX12_image_29 : decode cX12_image 29 = .ok (.aload_n 0, 1) := by decide +kernel
theorem dX12_image_30 : decode cX12_image 30 = .ok (.aload_n 0, 1) := by decide +kernel
theorem dX12_image_31 : decode cX12_image 31 = .ok (.getfield 141, 3) := by decide +kernel
theorem dX12_image_34 : decode cX12_image 34 = .ok (.invokevirtual 527, 3) := by decide +kernel
theorem dX12_image_37 : decode cX12_image 37 = .ok (.iconst 0, 1) := by decide +kernel
theorem dX12_image_38 : decode cX12_image 38 = .ok (.istore_n 1, 1) := by decide +kernel
theorem dX12_image_39 : decode cX12_image 39 = .ok (.iload_n 1, 1) := by decide +kernel
theorem dX12_image_40 : decode cX12_image 40 = .ok (.aload_n 0, 1) := by decide +kernel
theorem dX12_image_41 : decode cX12_image 41 = .ok (.getfield 54, 3) := by decide +kernel
theorem dX12_image_44 : decode cX12_image 44 = .ok (.aload_n 0, 1) := by decide +kernel
theorem dX12_image_45 : decode cX12_image 45 = .ok (.getfield 48, 3) := by decide +kernel
theorem dX12_image_48 : decode cX12_image 48 = .ok (.iaload, 1) := by decide +kernel
theorem dX12_image_49 : decode cX12_image 49 = .ok (.if_icmp .ge 63, 3) := by decide +kernel
theorem dX12_image_52 : decode cX12_image 52 = .ok (.aload_n 0, 1) := by decide +kernel
theorem dX12_image_53 : decode cX12_image 53 = .ok (.aload_n 0, 1) := by decide +kernel
theorem dX12_image_54 : decode cX12_image 54 = .ok (.getfield 204, 3) := by decide +kernel
theorem dX12_image_57 : decode cX12_image 57 = .ok (.iload_n 1, 1) := by decide +kernel
theorem dX12_image_58 : decode cX12_image 58 = .ok (.baload, 1) := by decide +kernel
theorem dX12_image_59 : decode cX12_image 59 = .ok (.ifCond .eq 7, 3) := by decide +kernel
theorem dX12_image_62 : decode cX12_image 62 = .ok (.iconst 1, 1) := by decide +kernel
theorem dX12_image_63 : decode cX12_image 63 = .ok (.goto 6, 3) := by decide +kernel
theorem dX12_image_66 : decode cX12_image 66 = .ok (.sipush 255, 3) := by decide +kernel
theorem dX12_image_69 : decode cX12_image 69 = .ok (.invokevirtual 527, 3) := by decide +kernel
theorem dX12_image_72 : decode cX12_image 72 = .ok (.bipush 24, 2) := by decide +kernel
theorem dX12_image_74 : decode cX12_image 74 = .ok (.istore_n 2, 1) := by decide +kernel
theorem dX12_image_75 : decode cX12_image 75 = .ok (.iload_n 2, 1) := by decide +kernel
theorem dX12_image_76 : decode cX12_image 76 = .ok (.ifCond .lt 30, 3) := by decide +kernel
theorem dX12_image_79 : decode cX12_image 79 = .ok (.aload_n 0, 1) := by decide +kernel
theorem dX12_image_80 : decode cX12_image 80 = .ok (.getfield 204, 3) := by decide +kernel
theorem dX12_image_83 : decode cX12_image 83 = .ok (.iload_n 1, 1) := by decide +kernel
theorem dX12_image_84 : decode cX12_image 84 = .ok (.baload, 1) := by decide +kernel
theorem dX12_image_85 : decode cX12_image 85 = .ok (.ifCond .eq 21, 3) := by decide +kernel
theorem dX12_image_88 : decode cX12_image 88 = .ok (.aload_n 0, 1) := by decide +kernel
theorem dX12_image_89 : decode cX12_image 89 = .ok (.aload_n 0, 1) := by decide +kernel
theorem dX12_image_90 : decode cX12_image 90 = .ok (.getfield 207, 3) := by decide +kernel
theorem dX12_image_93 : decode cX12_image 93 = .ok (.iload_n 1, 1) := by decide +kernel
theorem dX12_image_94 : decode cX12_image 94 = .ok (.iaload, 1) := by decide +kernel
theorem dX12_image_95 : decode cX12_image 95 = .ok (.iload_n 2, 1) := by decide +kernel
theorem dX12_image_96 : decode cX12_image 96 = .ok (.ishr, 1) := by decide +kernel
theorem dX12_image_97 : decode cX12_image 97 = .ok (.invokevirtual 527, 3) := by decide +kernel
theorem dX12_image_100 : decode cX12_image 100 = .ok (.iinc 2 (-8), 3) := by decide +kernel
theorem dX12_image_103 : decode cX12_image 103 = .ok (.goto (-28), 3) := by decide +kernel
theorem dX12_image_106 : decode cX12_image 106 = .ok (.iinc 1 1, 3) := by decide +kernel
theorem dX12_image_109 : decode cX12_image 109 = .ok (.goto (-70), 3) := by decide +kernel
theorem dX12_image_112 : decode cX12_image 112 = .ok (.iconst 1, 1) := by decide +kernel
theorem dX12_image_113 : decode cX12_image 113 = .ok (.istore_n 1, 1) := by decide +kernel
theorem dX12_image_114 : decode cX12_image 114 = .ok (.iconst 0, 1) := by decide +kernel
theorem dX12_image_115 : decode cX12_image 115 = .ok (.istore_n 2, 1) := by decide +kernel
theorem dX12_image_116 : decode cX12_image 116 = .ok (.iload_n 2, 1) := by decide +kernel
theorem dX12_image_117 : decode cX12_image 117 = .ok (.aload_n 0, 1) := by decide +kernel
theorem dX12_image_118 : decode cX12_image 118 = .ok (.getfield 228, 3) := by decide +kernel
theorem dX12_image_121 : decode cX12_image 121 = .ok (.if_icmp .ge 25, 3) := by decide +kernel
theorem dX12_image_124 : decode cX12_image 124 = .ok (.bipush 31, 2) := by decide +kernel
theorem dX12_image_126 : decode cX12_image 126 = .ok (.iload_n 1, 1) := by decide +kernel
theorem dX12_image_127 : decode cX12_image 127 = .ok (.imul, 1) := by decide +kernel
theorem dX12_image_128 : decode cX12_image 128 = .ok (.aload_n 0, 1) := by decide +kernel
theorem dX12_image_129 : decode cX12_image 129 = .ok (.getfield 231, 3) := by decide +kernel
theorem dX12_image_132 : decode cX12_image 132 = .ok (.iload_n 2, 1) := by decide +kernel
theorem dX12_image_133 : decode cX12_image 133 = .ok (.iaload, 1) := by decide +kernel
theorem dX12_image_134 : decode cX12_image 134 = .ok (.iadd, 1) := by decide +kernel
theorem dX12_image_135 : decode cX12_image 135 = .ok (.ldc_w 530, 3) := by decide +kernel
theorem dX12_image_138 : decode cX12_image 138 = .ok (.irem, 1) := by decide +kernel
theorem dX12_image_139 : decode cX12_image 139 = .ok (.istore_n 1, 1) := by decide +kernel
theorem dX12_image_140 : decode cX12_image 140 = .ok (.iinc 2 1, 3) := by decide +kernel
theorem dX12_image_143 : decode cX12_image 143 = .ok (.goto (-27), 3) := by decide +kernel
theorem dX12_image_146 : decode cX12_image 146 = .ok (.aload_n 0, 1) := by decide +kernel
theorem dX12_image_147 : decode cX12_image 147 = .ok (.iload_n 1, 1) := by decide +kernel
theorem dX12_image_148 : decode cX12_image 148 = .ok (.bipush 8, 2) := by decide +kernel
theorem dX12_image_150 : decode cX12_image 150 = .ok (.ishr, 1) := by decide +kernel
theorem dX12_image_151 : decode cX12_image 151 = .ok (.invokevirtual 527, 3) := by decide +kernel
theorem dX12_image_154 : decode cX12_image 154 = .ok (.aload_n 0, 1) := by decide +kernel
theorem dX12_image_155 : decode cX12_image 155 = .ok (.iload_n 1, 1) := by decide +kernel
theorem dX12_image_156 : decode cX12_image 156 = .ok (.invokevirtual 527, 3) := by decide +kernel
theorem dX12_image_159 : decode cX12_image 159 = .ok (.aload_n 0, 1) := by decide +kernel
theorem dX12_image_160 : decode cX12_image 160 = .ok (.getfield 228, 3) := by decide +kernel
theorem dX12_image_163 : decode cX12_image 163 = .ok (.ireturn, 1) := by decide +kernel
theorem dX12_octet_0 : decode cX12_octet 0 = .ok (.iload_n 1, 1) := by decide +kernel
theorem dX12_octet_1 : decode cX12_octet 1 = .ok (.ifCond .lt 20, 3) := by decide +kernel
theorem dX12_octet_4 : decode cX12_octet 4 = .ok (.iload_n 1, 1) := by decide +kernel
theorem dX12_octet_5 : decode cX12_octet 5 = .ok (.aload_n 0, 1) := by decide +kernel
theorem dX12_octet_6 : decode cX12_octet 6 = .ok (.getfield 228, 3) := by decide +kernel
theorem dX12_octet_9 : decode cX12_octet 9 = .ok (.if_icmp .ge 12, 3) := by decide +kernel
theorem dX12_octet_12 : decode cX12_octet 12 = .ok (.aload_n 0, 1) := by decide +kernel
theorem dX12_octet_13 : decode cX12_octet 13 = .ok (.getfield 231, 3) := by decide +kernel
theorem dX12_octet_16 : decode cX12_octet 16 = .ok (.iload_n 1, 1) := by decide +kernel
theorem dX12_octet_17 : decode cX12_octet 17 = .ok (.iaload, 1) := by decide +kernel
theorem dX12_octet_18 : decode cX12_octet 18 = .ok (.goto 4, 3) := by decide +kernel
theorem dX12_octet_21 : decode cX12_octet 21 = .ok (.iconst (-1), 1) := by decide +kernel
theorem dX12_octet_22 : decode cX12_octet 22 = .ok (.ireturn, 1) := by decide +kernel
theorem dX12_word_0 : decode cX12_word 0 = .ok (.aload_n 0, 1) := by decide +kernel
theorem dX12_word_1 : decode cX12_word 1 = .ok (.getfield 7, 3) := by decide +kernel
theorem dX12_word_4 : decode cX12_word 4 = .ok (.iload_n 1, 1) := by decide +kernel
theorem dX12_word_5 : decode cX12_word 5 = .ok (.iaload, 1) := by decide +kernel
theorem dX12_word_6 : decode cX12_word 6 = .ok (.bipush 24, 2) := by decide +kernel
theorem dX12_word_8 : decode cX12_word 8 = .ok (.ishl, 1) := by decide +kernel
theorem dX12_word_9 : decode cX12_word 9 = .ok (.aload_n 0, 1) := by decide +kernel
theorem dX12_word_10 : decode cX12_word 10 = .ok (.getfield 7, 3) := by decide +kernel
theorem dX12_word_13 : decode cX12_word 13 = .ok (.iload_n 1, 1) := by decide +kernel
theorem dX12_word_14 : decode cX12_word 14 = .ok (.iconst 1, 1) := by decide +kernel
theorem dX12_word_15 : decode cX12_word 15 = .ok (.iadd, 1) := by decide +kernel
theorem dX12_word_16 : decode cX12_word 16 = .ok (.iaload, 1) := by decide +kernel
theorem dX12_word_17 : decode cX12_word 17 = .ok (.bipush 16, 2) := by decide +kernel
theorem dX12_word_19 : decode cX12_word 19 = .ok (.ishl, 1) := by decide +kernel
theorem dX12_word_20 : decode cX12_word 20 = .ok (.ior, 1) := by decide +kernel
theorem dX12_word_21 : decode cX12_word 21 = .ok (.aload_n 0, 1) := by decide +kernel
theorem dX12_word_22 : decode cX12_word 22 = .ok (.getfield 7, 3) := by decide +kernel
theorem dX12_word_25 : decode cX12_word 25 = .ok (.iload_n 1, 1) := by decide +kernel
theorem dX12_word_26 : decode cX12_word 26 = .ok (.iconst 2, 1) := by decide +kernel
theorem dX12_word_27 : decode cX12_word 27 = .ok (.iadd, 1) := by decide +kernel
theorem dX12_word_28 : decode cX12_word 28 = .ok (.iaload, 1) := by decide +kernel
theorem dX12_word_29 : decode cX12_word 29 = .ok (.bipush 8, 2) := by decide +kernel
theorem dX12_word_31 : decode cX12_word 31 = .ok (.ishl, 1) := by decide +kernel
theorem dX12_word_32 : decode cX12_word 32 = .ok (.ior, 1) := by decide +kernel
theorem dX12_word_33 : decode cX12_word 33 = .ok (.aload_n 0, 1) := by decide +kernel
theorem dX12_word_34 : decode cX12_word 34 = .ok (.getfield 7, 3) := by decide +kernel
theorem dX12_word_37 : decode cX12_word 37 = .ok (.iload_n 1, 1) := by decide +kernel
theorem dX12_word_38 : decode cX12_word 38 = .ok (.iconst 3, 1) := by decide +kernel
theorem dX12_word_39 : decode cX12_word 39 = .ok (.iadd, 1) := by decide +kernel
theorem dX12_word_40 : decode cX12_word 40 = .ok (.iaload, 1) := by decide +kernel
theorem dX12_word_41 : decode cX12_word 41 = .ok (.ior, 1) := by decide +kernel
theorem dX12_word_42 : decode cX12_word 42 = .ok (.ireturn, 1) := by decide +kernel
set_option maxRecDepth 20000 in
theorem ggX12_isImage_X12_word : GoodIn wsX12_isImage wsX12_word := goodIn_r _ [13, 1, 27, 28, 29, 30, 31, 32, 33, 34, 35, 36, 37, 38, 39, 40, 41, 42, 43, 44, 45, 46, 47, 48, 49, 50, 51, 52, 53, 54, 55, 56, 57, 58, 59, 60, 61, 62, 63, 64, 65, 66, 67, 68, 69, 70, 71, 72, 73, 74, 75, 76, 77, 78, 79, 80, 81, 82, 83, 84, 85, 86, 87, 88, 89, 90, 91, 92, 93, 94, 95, 96, 97, 98, 99, 100, 101] rfl (by decide +kernel)
set_option maxRecDepth 20000 in
theorem gX12_isImage_X12_word : GoodIn wsX12_isImage (wsV RX12 531 RX12 yX12_word wsX12_word) := goodIn_app (goodIn_of _ (by decide +kernel)) ggX12_isImage_X12_word
set_option maxRecDepth 20000 in
theorem ggX12_isImage_X12_first : GoodIn wsX12_isImage wsX12_first := goodIn_r _ [17, 18, 3, 27, 28, 29, 30, 31, 32, 33, 34, 35, 36, 37, 38, 39, 40, 41, 42, 43, 44, 45, 46, 47, 48, 49, 50, 51, 52, 53, 54, 55, 56, 57, 58, 59, 60, 61, 62, 63, 64, 65, 66, 67, 68, 69, 70, 71, 72, 73, 74, 75, 76, 77, 78, 79, 80, 81, 82, 83, 84, 85, 86, 87, 88, 89, 90, 91, 92, 93, 94, 95, 96, 97, 98, 99, 100, 101] rfl (by decide +kernel)
set_option maxRecDepth 20000 in
theorem gX12_isImage_X12_first : GoodIn wsX12_isImage (wsV RX12 389 RX12 yX12_first wsX12_first) := goodIn_app (goodIn_of _ (by decide +kernel)) ggX12_isImage_X12_first
set_option maxRecDepth 20000 in
theorem ggX12_isImage_X12_second : GoodIn wsX12_isImage wsX12_second := goodIn_r _ [22, 23, 3, 27, 28, 29, 30, 31, 32, 33, 34, 35, 36, 37, 38, 39, 40, 41, 42, 43, 44, 45, 46, 47, 48, 49, 50, 51, 52, 53, 54, 55, 56, 57, 58, 59, 60, 61, 62, 63, 64, 65, 66, 67, 68, 69, 70, 71, 72, 73, 74, 75, 76, 77, 78, 79, 80, 81, 82, 83, 84, 85, 86, 87, 88, 89, 90, 91, 92, 93, 94, 95, 96, 97, 98, 99, 100, 101] rfl (by decide +kernel)
set_option maxRecDepth 20000 in
theorem gX12_isImage_X12_second : GoodIn wsX12_isImage (wsV RX12 392 RX12 yX12_second wsX12_second) := goodIn_app (goodIn_of _ (by decide +kernel)) ggX12_isImage_X12_second
set_option maxRecDepth 20000 in
theorem ggX12_isImage_X12_is : GoodIn wsX12_isImage wsX12_is := goodIn_r _ [26] (by decide +kernel) (by decide +kernel)
set_option maxRecDepth 20000 in
theorem gX12_isImage_X12_is : GoodIn wsX12_isImage (va_wsS RX12 377 yX12_is wsX12_is) := goodIn_app (goodIn_of _ (by decide +kernel)) ggX12_isImage_X12_is
theorem dX12_isImage_0 : decode cX12_isImage 0 = .ok (.iload_n 1, 1) := by decide +kernel
theorem dX12_isImage_1 : decode cX12_isImage 1 = .ok (.iconst 5, 1) := by decide +kernel
theorem dX12_isImage_2 : decode cX12_isImage 2 = .ok (.if_icmp .lt 44, 3) := by decide +kernel
theorem dX12_isImage_5 : decode cX12_isImage 5 = .ok (.aload_n 0, 1) := by decide +kernel
theorem dX12_isImage_6 : decode cX12_isImage 6 = .ok (.getfield 7, 3) := by decide +kernel
theorem dX12_isImage_9 : decode cX12_isImage 9 = .ok (.iconst 0, 1) := by decide +kernel
theorem dX12_isImage_10 : decode cX12_isImage 10 = .ok (.iaload, 1) := by decide +kernel
theorem dX12_isImage_11 : decode cX12_isImage 11 = .ok (.aload_n 0, 1) := by decide +kernel
theorem dX12_isImage_12 : decode cX12_isImage 12 = .ok (.getfield 54, 3) := by decide +kernel
theorem dX12_isImage_15 : decode cX12_isImage 15 = .ok (.aload_n 0, 1) := by decide +kernel
theorem dX12_isImage_16 : decode cX12_isImage 16 = .ok (.getfield 48, 3) := by decide +kernel
theorem dX12_isImage_19 : decode cX12_isImage 19 = .ok (.iaload, 1) := by decide +kernel
theorem dX12_isImage_20 : decode cX12_isImage 20 = .ok (.if_icmp .ne 26, 3) := by decide +kernel
theorem dX12_isImage_23 : decode cX12_isImage 23 = .ok (.sipush 256, 3) := by decide +kernel
theorem dX12_isImage_26 : decode cX12_isImage 26 = .ok (.aload_n 0, 1) := by decide +kernel
theorem dX12_isImage_27 : decode cX12_isImage 27 = .ok (.getfield 7, 3) := by decide +kernel
theorem dX12_isImage_30 : decode cX12_isImage 30 = .ok (.iconst 1, 1) := by decide +kernel
theorem dX12_isImage_31 : decode cX12_isImage 31 = .ok (.iaload, 1) := by decide +kernel
theorem dX12_isImage_32 : decode cX12_isImage 32 = .ok (.imul, 1) := by decide +kernel
theorem dX12_isImage_33 : decode cX12_isImage 33 = .ok (.aload_n 0, 1) := by decide +kernel
theorem dX12_isImage_34 : decode cX12_isImage 34 = .ok (.getfield 7, 3) := by decide +kernel
theorem dX12_isImage_37 : decode cX12_isImage 37 = .ok (.iconst 2, 1) := by decide +kernel
theorem dX12_isImage_38 : decode cX12_isImage 38 = .ok (.iaload, 1) := by decide +kernel
theorem dX12_isImage_39 : decode cX12_isImage 39 = .ok (.iadd, 1) := by decide +kernel
theorem dX12_isImage_40 : decode cX12_isImage 40 = .ok (.sipush 999, 3) := by decide +kernel
theorem dX12_isImage_43 : decode cX12_isImage 43 = .ok (.if_icmp .le 5, 3) := by decide +kernel
theorem dX12_isImage_46 : decode cX12_isImage 46 = .ok (.iconst 0, 1) := by decide +kernel
theorem dX12_isImage_47 : decode cX12_isImage 47 = .ok (.ireturn, 1) := by decide +kernel
theorem dX12_isImage_48 : decode cX12_isImage 48 = .ok (.iconst 1, 1) := by decide +kernel
theorem dX12_isImage_49 : decode cX12_isImage 49 = .ok (.istore_n 2, 1) := by decide +kernel
theorem dX12_isImage_50 : decode cX12_isImage 50 = .ok (.iconst 0, 1) := by decide +kernel
theorem dX12_isImage_51 : decode cX12_isImage 51 = .ok (.istore_n 3, 1) := by decide +kernel
theorem dX12_isImage_52 : decode cX12_isImage 52 = .ok (.iload_n 3, 1) := by decide +kernel
theorem dX12_isImage_53 : decode cX12_isImage 53 = .ok (.iload_n 1, 1) := by decide +kernel
theorem dX12_isImage_54 : decode cX12_isImage 54 = .ok (.iconst 2, 1) := by decide +kernel
theorem dX12_isImage_55 : decode cX12_isImage 55 = .ok (.isub, 1) := by decide +kernel
theorem dX12_isImage_56 : decode cX12_isImage 56 = .ok (.if_icmp .ge 25, 3) := by decide +kernel
theorem dX12_isImage_59 : decode cX12_isImage 59 = .ok (.bipush 31, 2) := by decide +kernel
theorem dX12_isImage_61 : decode cX12_isImage 61 = .ok (.iload_n 2, 1) := by decide +kernel
theorem dX12_isImage_62 : decode cX12_isImage 62 = .ok (.imul, 1) := by decide +kernel
theorem dX12_isImage_63 : decode cX12_isImage 63 = .ok (.aload_n 0, 1) := by decide +kernel
theorem dX12_isImage_64 : decode cX12_isImage 64 = .ok (.getfield 7, 3) := by decide +kernel
theorem dX12_isImage_67 : decode cX12_isImage 67 = .ok (.iload_n 3, 1) := by decide +kernel
theorem dX12_isImage_68 : decode cX12_isImage 68 = .ok (.iaload, 1) := by decide +kernel
theorem dX12_isImage_69 : decode cX12_isImage 69 = .ok (.iadd, 1) := by decide +kernel
theorem dX12_isImage_70 : decode cX12_isImage 70 = .ok (.ldc_w 530, 3) := by decide +kernel
theorem dX12_isImage_73 : decode cX12_isImage 73 = .ok (.irem, 1) := by decide +kernel
theorem dX12_isImage_74 : decode cX12_isImage 74 = .ok (.istore_n 2, 1) := by decide +kernel
theorem dX12_isImage_75 : decode cX12_isImage 75 = .ok (.iinc 3 1, 3) := by decide +kernel
theorem dX12_isImage_78 : decode cX12_isImage 78 = .ok (.goto (-26), 3) := by decide +kernel
theorem dX12_isImage_81 : decode cX12_isImage 81 = .ok (.iload_n 2, 1) := by decide +kernel
theorem dX12_isImage_82 : decode cX12_isImage 82 = .ok (.sipush 256, 3) := by decide +kernel
theorem dX12_isImage_85 : decode cX12_isImage 85 = .ok (.aload_n 0, 1) := by decide +kernel
theorem dX12_isImage_86 : decode cX12_isImage 86 = .ok (.getfield 7, 3) := by decide +kernel
theorem dX12_isImage_89 : decode cX12_isImage 89 = .ok (.iload_n 1, 1) := by decide +kernel
theorem dX12_isImage_90 : decode cX12_isImage 90 = .ok (.iconst 2, 1) := by decide +kernel
theorem dX12_isImage_91 : decode cX12_isImage 91 = .ok (.isub, 1) := by decide +kernel
theorem dX12_isImage_92 : decode cX12_isImage 92 = .ok (.iaload, 1) := by decide +kernel
theorem dX12_isImage_93 : decode cX12_isImage 93 = .ok (.imul, 1) := by decide +kernel
theorem dX12_isImage_94 : decode cX12_isImage 94 = .ok (.aload_n 0, 1) := by decide +kernel
theorem dX12_isImage_95 : decode cX12_isImage 95 = .ok (.getfield 7, 3) := by decide +kernel
theorem dX12_isImage_98 : decode cX12_isImage 98 = .ok (.iload_n 1, 1) := by decide +kernel
theorem dX12_isImage_99 : decode cX12_isImage 99 = .ok (.iconst 1, 1) := by decide +kernel
theorem dX12_isImage_100 : decode cX12_isImage 100 = .ok (.isub, 1) := by decide +kernel
theorem dX12_isImage_101 : decode cX12_isImage 101 = .ok (.iaload, 1) := by decide +kernel
theorem dX12_isImage_102 : decode cX12_isImage 102 = .ok (.iadd, 1) := by decide +kernel
theorem dX12_isImage_103 : decode cX12_isImage 103 = .ok (.if_icmp .eq 5, 3) := by decide +kernel
theorem dX12_isImage_106 : decode cX12_isImage 106 = .ok (.iconst 0, 1) := by decide +kernel
theorem dX12_isImage_107 : decode cX12_isImage 107 = .ok (.ireturn, 1) := by decide +kernel
theorem dX12_isImage_108 : decode cX12_isImage 108 = .ok (.iconst 3, 1) := by decide +kernel
theorem dX12_isImage_109 : decode cX12_isImage 109 = .ok (.istore_n 3, 1) := by decide +kernel
theorem dX12_isImage_110 : decode cX12_isImage 110 = .ok (.iconst 0, 1) := by decide +kernel
theorem dX12_isImage_111 : decode cX12_isImage 111 = .ok (.istore 4, 2) := by decide +kernel
theorem dX12_isImage_113 : decode cX12_isImage 113 = .ok (.iconst 0, 1) := by decide +kernel
theorem dX12_isImage_114 : decode cX12_isImage 114 = .ok (.istore 5, 2) := by decide +kernel
theorem dX12_isImage_116 : decode cX12_isImage 116 = .ok (.iload 5, 2) := by decide +kernel
theorem dX12_isImage_118 : decode cX12_isImage 118 = .ok (.aload_n 0, 1) := by decide +kernel
theorem dX12_isImage_119 : decode cX12_isImage 119 = .ok (.getfield 54, 3) := by decide +kernel
theorem dX12_isImage_122 : decode cX12_isImage 122 = .ok (.aload_n 0, 1) := by decide +kernel
theorem dX12_isImage_123 : decode cX12_isImage 123 = .ok (.getfield 48, 3) := by decide +kernel
theorem dX12_isImage_126 : decode cX12_isImage 126 = .ok (.iaload, 1) := by decide +kernel
theorem dX12_isImage_127 : decode cX12_isImage 127 = .ok (.if_icmp .ge 161, 3) := by decide +kernel
theorem dX12_isImage_130 : decode cX12_isImage 130 = .ok (.iload_n 3, 1) := by decide +kernel
theorem dX12_isImage_131 : decode cX12_isImage 131 = .ok (.iload_n 1, 1) := by decide +kernel
theorem dX12_isImage_132 : decode cX12_isImage 132 = .ok (.iconst 2, 1) := by decide +kernel
theorem dX12_isImage_133 : decode cX12_isImage 133 = .ok (.isub, 1) := by decide +kernel
theorem dX12_isImage_134 : decode cX12_isImage 134 = .ok (.if_icmp .lt 5, 3) := by decide +kernel
theorem dX12_isImage_137 : decode cX12_isImage 137 = .ok (.iconst 0, 1) := by decide +kernel
theorem dX12_isImage_138 : decode cX12_isImage 138 = .ok (.ireturn, 1) := by decide +kernel
theorem dX12_isImage_139 : decode cX12_isImage 139 = .ok (.aload_n 0, 1) := by decide +kernel
theorem dX12_isImage_140 : decode cX12_isImage 140 = .ok (.getfield 234, 3) := by decide +kernel
theorem dX12_isImage_143 : decode cX12_isImage 143 = .ok (.iload 5, 2) := by decide +kernel
theorem dX12_isImage_145 : decode cX12_isImage 145 = .ok (.aload_n 0, 1) := by decide +kernel
theorem dX12_isImage_146 : decode cX12_isImage 146 = .ok (.getfield 7, 3) := by decide +kernel
theorem dX12_isImage_149 : decode cX12_isImage 149 = .ok (.iload_n 3, 1) := by decide +kernel
theorem dX12_isImage_150 : decode cX12_isImage 150 = .ok (.iaload, 1) := by decide +kernel
theorem dX12_isImage_151 : decode cX12_isImage 151 = .ok (.iconst 1, 1) := by decide +kernel
theorem dX12_isImage_152 : decode cX12_isImage 152 = .ok (.if_icmp .ne 7, 3) := by decide +kernel
theorem dX12_isImage_155 : decode cX12_isImage 155 = .ok (.iconst 1, 1) := by decide +kernel
theorem dX12_isImage_156 : decode cX12_isImage 156 = .ok (.goto 4, 3) := by decide +kernel
theorem dX12_isImage_159 : decode cX12_isImage 159 = .ok (.iconst 0, 1) := by decide +kernel
theorem dX12_isImage_160 : decode cX12_isImage 160 = .ok (.bastore, 1) := by decide +kernel
theorem dX12_isImage_161 : decode cX12_isImage 161 = .ok (.aload_n 0, 1) := by decide +kernel
theorem dX12_isImage_162 : decode cX12_isImage 162 = .ok (.getfield 7, 3) := by decide +kernel
theorem dX12_isImage_165 : decode cX12_isImage 165 = .ok (.iload_n 3, 1) := by decide +kernel
theorem dX12_isImage_166 : decode cX12_isImage 166 = .ok (.iaload, 1) := by decide +kernel
theorem dX12_isImage_167 : decode cX12_isImage 167 = .ok (.iconst 1, 1) := by decide +kernel
theorem dX12_isImage_168 : decode cX12_isImage 168 = .ok (.if_icmp .eq 17, 3) := by decide +kernel
theorem dX12_isImage_171 : decode cX12_isImage 171 = .ok (.aload_n 0, 1) := by decide +kernel
theorem dX12_isImage_172 : decode cX12_isImage 172 = .ok (.getfield 7, 3) := by decide +kernel
theorem dX12_isImage_175 : decode cX12_isImage 175 = .ok (.iload_n 3, 1) := by decide +kernel
theorem dX12_isImage_176 : decode cX12_isImage 176 = .ok (.iaload, 1) := by decide +kernel
theorem dX12_isImage_177 : decode cX12_isImage 177 = .ok (.sipush 255, 3) := by decide +kernel
theorem dX12_isImage_180 : decode cX12_isImage 180 = .ok (.if_icmp .eq 5, 3) := by decide +kernel
theorem dX12_isImage_183 : decode cX12_isImage 183 = .ok (.iconst 0, 1) := by decide +kernel
theorem dX12_isImage_184 : decode cX12_isImage 184 = .ok (.ireturn, 1) := by decide +kernel
theorem dX12_isImage_185 : decode cX12_isImage 185 = .ok (.iinc 3 1, 3) := by decide +kernel
theorem dX12_isImage_188 : decode cX12_isImage 188 = .ok (.aload_n 0, 1) := by decide +kernel
theorem dX12_isImage_189 : decode cX12_isImage 189 = .ok (.getfield 234, 3) := by decide +kernel
theorem dX12_isImage_192 : decode cX12_isImage 192 = .ok (.iload 5, 2) := by decide +kernel
theorem dX12_isImage_194 : decode cX12_isImage 194 = .ok (.baload, 1) := by decide +kernel
theorem dX12_isImage_195 : decode cX12_isImage 195 = .ok (.ifCond .ne 6, 3) := by decide +kernel
theorem dX12_isImage_198 : decode cX12_isImage 198 = .ok (.goto 84, 3) := by decide +kernel
theorem dX12_isImage_201 : decode cX12_isImage 201 = .ok (.iload_n 3, 1) := by decide +kernel
theorem dX12_isImage_202 : decode cX12_isImage 202 = .ok (.iconst 4, 1) := by decide +kernel
theorem dX12_isImage_203 : decode cX12_isImage 203 = .ok (.iadd, 1) := by decide +kernel
theorem dX12_isImage_204 : decode cX12_isImage 204 = .ok (.iload_n 1, 1) := by decide +kernel
theorem dX12_isImage_205 : decode cX12_isImage 205 = .ok (.iconst 2, 1) := by decide +kernel
theorem dX12_isImage_206 : decode cX12_isImage 206 = .ok (.isub, 1) := by decide +kernel
theorem dX12_isImage_207 : decode cX12_isImage 207 = .ok (.if_icmp .le 5, 3) := by decide +kernel
theorem dX12_isImage_210 : decode cX12_isImage 210 = .ok (.iconst 0, 1) := by decide +kernel
theorem dX12_isImage_211 : decode cX12_isImage 211 = .ok (.ireturn, 1) := by decide +kernel
theorem dX12_isImage_212 : decode cX12_isImage 212 = .ok (.aload_n 0, 1) := by decide +kernel
theorem dX12_isImage_213 : decode cX12_isImage 213 = .ok (.getfield 237, 3) := by decide +kernel
theorem dX12_isImage_216 : decode cX12_isImage 216 = .ok (.iload 5, 2) := by decide +kernel
theorem dX12_isImage_218 : decode cX12_isImage 218 = .ok (.aload_n 0, 1) := by decide +kernel
theorem dX12_isImage_219 : decode cX12_isImage 219 = .ok (.iload_n 3, 1) := by decide +kernel
theorem dX12_isImage_220 : decode cX12_isImage 220 = .ok (.invokevirtual 531, 3) := by decide +kernel
theorem dX12_isImage_223 : decode cX12_isImage 223 = .ok (.iastore, 1) := by decide +kernel
theorem dX12_isImage_224 : decode cX12_isImage 224 = .ok (.iinc 3 4, 3) := by decide +kernel
theorem dX12_isImage_227 : decode cX12_isImage 227 = .ok (.iconst 1, 1) := by decide +kernel
theorem dX12_isImage_228 : decode cX12_isImage 228 = .ok (.aload_n 0, 1) := by decide +kernel
theorem dX12_isImage_229 : decode cX12_isImage 229 = .ok (.iload 5, 2) := by decide +kernel
theorem dX12_isImage_231 : decode cX12_isImage 231 = .ok (.invokevirtual 389, 3) := by decide +kernel
theorem dX12_isImage_234 : decode cX12_isImage 234 = .ok (.ishl, 1) := by decide +kernel
theorem dX12_isImage_235 : decode cX12_isImage 235 = .ok (.iconst 1, 1) := by decide +kernel
theorem dX12_isImage_236 : decode cX12_isImage 236 = .ok (.aload_n 0, 1) := by decide +kernel
theorem dX12_isImage_237 : decode cX12_isImage 237 = .ok (.iload 5, 2) := by decide +kernel
theorem dX12_isImage_239 : decode cX12_isImage 239 = .ok (.invokevirtual 392, 3) := by decide +kernel
theorem dX12_isImage_242 : decode cX12_isImage 242 = .ok (.ishl, 1) := by decide +kernel
theorem dX12_isImage_243 : decode cX12_isImage 243 = .ok (.ior, 1) := by decide +kernel
theorem dX12_isImage_244 : decode cX12_isImage 244 = .ok (.istore 6, 2) := by decide +kernel
theorem dX12_isImage_246 : decode cX12_isImage 246 = .ok (.iload 4, 2) := by decide +kernel
theorem dX12_isImage_248 : decode cX12_isImage 248 = .ok (.iload 6, 2) := by decide +kernel
theorem dX12_isImage_250 : decode cX12_isImage 250 = .ok (.iand, 1) := by decide +kernel
theorem dX12_isImage_251 : decode cX12_isImage 251 = .ok (.ifCond .ne 22, 3) := by decide +kernel
theorem dX12_isImage_254 : decode cX12_isImage 254 = .ok (.aload_n 0, 1) := by decide +kernel
theorem dX12_isImage_255 : decode cX12_isImage 255 = .ok (.getfield 237, 3) := by decide +kernel
theorem dX12_isImage_258 : decode cX12_isImage 258 = .ok (.iload 5, 2) := by decide +kernel
theorem dX12_isImage_260 : decode cX12_isImage 260 = .ok (.iaload, 1) := by decide +kernel
theorem dX12_isImage_261 : decode cX12_isImage 261 = .ok (.ldc_w 489, 3) := by decide +kernel
theorem dX12_isImage_264 : decode cX12_isImage 264 = .ok (.ldc_w 490, 3) := by decide +kernel
theorem dX12_isImage_267 : decode cX12_isImage 267 = .ok (.invokestatic 377, 3) := by decide +kernel
theorem dX12_isImage_270 : decode cX12_isImage 270 = .ok (.ifCond .ne 5, 3) := by decide +kernel
theorem dX12_isImage_273 : decode cX12_isImage 273 = .ok (.iconst 0, 1) := by decide +kernel
theorem dX12_isImage_274 : decode cX12_isImage 274 = .ok (.ireturn, 1) := by decide +kernel
theorem dX12_isImage_275 : decode cX12_isImage 275 = .ok (.iload 4, 2) := by decide +kernel
theorem dX12_isImage_277 : decode cX12_isImage 277 = .ok (.iload 6, 2) := by decide +kernel
theorem dX12_isImage_279 : decode cX12_isImage 279 = .ok (.ior, 1) := by decide +kernel
theorem dX12_isImage_280 : decode cX12_isImage 280 = .ok (.istore 4, 2) := by decide +kernel
theorem dX12_isImage_282 : decode cX12_isImage 282 = .ok (.iinc 5 1, 3) := by decide +kernel
theorem dX12_isImage_285 : decode cX12_isImage 285 = .ok (.goto (-169), 3) := by decide +kernel
theorem dX12_isImage_288 : decode cX12_isImage 288 = .ok (.iload_n 3, 1) := by decide +kernel
theorem dX12_isImage_289 : decode cX12_isImage 289 = .ok (.iload_n 1, 1) := by decide +kernel
theorem dX12_isImage_290 : decode cX12_isImage 290 = .ok (.iconst 2, 1) := by decide +kernel
theorem dX12_isImage_291 : decode cX12_isImage 291 = .ok (.isub, 1) := by decide +kernel
theorem dX12_isImage_292 : decode cX12_isImage 292 = .ok (.if_icmp .ne 7, 3) := by decide +kernel
theorem dX12_isImage_295 : decode cX12_isImage 295 = .ok (.iconst 1, 1) := by decide +kernel
theorem dX12_isImage_296 : decode cX12_isImage 296 = .ok (.goto 4, 3) := by decide +kernel
theorem dX12_isImage_299 : decode cX12_isImage 299 = .ok (.iconst 0, 1) := by decide +kernel
theorem dX12_isImage_300 : decode cX12_isImage 300 = .ok (.ireturn, 1) := by decide +kernel
set_option maxRecDepth 20000 in
theorem ggX12_on_X12_isImage : GoodIn wsX12_on wsX12_isImage := goodIn_r _ [14, 2, 4, 5, 15, 7, 9, 16, 17, 18, 19, 20, 13, 21, 22, 23, 24, 25, 26, 27, 28, 29, 30, 31, 32, 33, 34, 35, 36, 37, 38, 39, 40, 41, 42, 43, 44, 45, 46, 47, 48, 49, 50, 51, 52, 53, 54, 55, 56, 57, 58, 59, 60, 61, 62, 63, 64, 65, 66, 67, 68, 69, 70, 71, 72, 73, 74, 75, 76, 77, 78, 79, 80, 81, 82, 83, 84, 85, 86, 87, 88, 89, 90, 91, 92, 93, 94, 95, 96, 97, 98, 99, 100, 101, 102, 103, 104, 105, 106, 107, 108, 109] rfl (by decide +kernel)
set_option maxRecDepth 20000 in
theorem gX12_on_X12_isImage : GoodIn wsX12_on (wsV RX12 533 RX12 yX12_isImage wsX12_isImage) := goodIn_app (goodIn_of _ (by decide +kernel)) ggX12_on_X12_isImage
theorem dX12_on_0 : decode cX12_on 0 = .ok (.aload_n 0, 1) := by decide +kernel
theorem dX12_on_1 : decode cX12_on 1 = .ok (.getfield 13, 3) := by decide +kernel
theorem dX12_on_4 : decode cX12_on 4 = .ok (.istore_n 1, 1) := by decide +kernel
theorem dX12_on_5 : decode cX12_on 5 = .ok (.aload_n 0, 1) := by decide +kernel
theorem dX12_on_6 : decode cX12_on 6 = .ok (.iconst 0, 1) := by decide +kernel
theorem dX12_on_7 : decode cX12_on 7 = .ok (.putfield 13, 3) := by decide +kernel
theorem dX12_on_10 : decode cX12_on 10 = .ok (.aload_n 0, 1) := by decide +kernel
theorem dX12_on_11 : decode cX12_on 11 = .ok (.iload_n 1, 1) := by decide +kernel
theorem dX12_on_12 : decode cX12_on 12 = .ok (.invokevirtual 533, 3) := by decide +kernel
theorem dX12_on_15 : decode cX12_on 15 = .ok (.ifCond .ne 5, 3) := by decide +kernel
theorem dX12_on_18 : decode cX12_on 18 = .ok (.iconst 0, 1) := by decide +kernel
theorem dX12_on_19 : decode cX12_on 19 = .ok (.ireturn, 1) := by decide +kernel
theorem dX12_on_20 : decode cX12_on 20 = .ok (.aload_n 0, 1) := by decide +kernel
theorem dX12_on_21 : decode cX12_on 21 = .ok (.sipush 256, 3) := by decide +kernel
theorem dX12_on_24 : decode cX12_on 24 = .ok (.aload_n 0, 1) := by decide +kernel
theorem dX12_on_25 : decode cX12_on 25 = .ok (.getfield 7, 3) := by decide +kernel
theorem dX12_on_28 : decode cX12_on 28 = .ok (.iconst 1, 1) := by decide +kernel
theorem dX12_on_29 : decode cX12_on 29 = .ok (.iaload, 1) := by decide +kernel
theorem dX12_on_30 : decode cX12_on 30 = .ok (.imul, 1) := by decide +kernel
theorem dX12_on_31 : decode cX12_on 31 = .ok (.aload_n 0, 1) := by decide +kernel
theorem dX12_on_32 : decode cX12_on 32 = .ok (.getfield 7, 3) := by decide +kernel
theorem dX12_on_35 : decode cX12_on 35 = .ok (.iconst 2, 1) := by decide +kernel
theorem dX12_on_36 : decode cX12_on 36 = .ok (.iaload, 1) := by decide +kernel
theorem dX12_on_37 : decode cX12_on 37 = .ok (.iadd, 1) := by decide +kernel
theorem dX12_on_38 : decode cX12_on 38 = .ok (.putfield 141, 3) := by decide +kernel
theorem dX12_on_41 : decode cX12_on 41 = .ok (.iconst 0, 1) := by decide +kernel
theorem dX12_on_42 : decode cX12_on 42 = .ok (.istore_n 2, 1) := by decide +kernel
theorem dX12_on_43 : decode cX12_on 43 = .ok (.iload_n 2, 1) := by decide +kernel
theorem dX12_on_44 : decode cX12_on 44 = .ok (.aload_n 0, 1) := by decide +kernel
theorem dX12_on_45 : decode cX12_on 45 = .ok (.getfield 54, 3) := by decide +kernel
theorem dX12_on_48 : decode cX12_on 48 = .ok (.aload_n 0, 1) := by decide +kernel
theorem dX12_on_49 : decode cX12_on 49 = .ok (.getfield 48, 3) := by decide +kernel
theorem dX12_on_52 : decode cX12_on 52 = .ok (.iaload, 1) := by decide +kernel
theorem dX12_on_53 : decode cX12_on 53 = .ok (.if_icmp .ge 33, 3) := by decide +kernel
theorem dX12_on_56 : decode cX12_on 56 = .ok (.aload_n 0, 1) := by decide +kernel
theorem dX12_on_57 : decode cX12_on 57 = .ok (.getfield 204, 3) := by decide +kernel
theorem dX12_on_60 : decode cX12_on 60 = .ok (.iload_n 2, 1) := by decide +kernel
theorem dX12_on_61 : decode cX12_on 61 = .ok (.aload_n 0, 1) := by decide +kernel
theorem dX12_on_62 : decode cX12_on 62 = .ok (.getfield 234, 3) := by decide +kernel
theorem dX12_on_65 : decode cX12_on 65 = .ok (.iload_n 2, 1) := by decide +kernel
theorem dX12_on_66 : decode cX12_on 66 = .ok (.baload, 1) := by decide +kernel
theorem dX12_on_67 : decode cX12_on 67 = .ok (.bastore, 1) := by decide +kernel
theorem dX12_on_68 : decode cX12_on 68 = .ok (.aload_n 0, 1) := by decide +kernel
theorem dX12_on_69 : decode cX12_on 69 = .ok (.getfield 207, 3) := by decide +kernel
theorem dX12_on_72 : decode cX12_on 72 = .ok (.iload_n 2, 1) := by decide +kernel
theorem dX12_on_73 : decode cX12_on 73 = .ok (.aload_n 0, 1) := by decide +kernel
theorem dX12_on_74 : decode cX12_on 74 = .ok (.getfield 237, 3) := by decide +kernel
theorem dX12_on_77 : decode cX12_on 77 = .ok (.iload_n 2, 1) := by decide +kernel
theorem dX12_on_78 : decode cX12_on 78 = .ok (.iaload, 1) := by decide +kernel
theorem dX12_on_79 : decode cX12_on 79 = .ok (.iastore, 1) := by decide +kernel
theorem dX12_on_80 : decode cX12_on 80 = .ok (.iinc 2 1, 3) := by decide +kernel
theorem dX12_on_83 : decode cX12_on 83 = .ok (.goto (-40), 3) := by decide +kernel
theorem dX12_on_86 : decode cX12_on 86 = .ok (.iconst 1, 1) := by decide +kernel
theorem dX12_on_87 : decode cX12_on 87 = .ok (.ireturn, 1) := by decide +kernel
theorem dJ9_floorDiv_7cf53_0 : decode cJ9_floorDiv_7cf53 0 = .ok (.iload_n 0, 1) := by decide +kernel
theorem dJ9_floorDiv_7cf53_1 : decode cJ9_floorDiv_7cf53 1 = .ok (.iload_n 1, 1) := by decide +kernel
theorem dJ9_floorDiv_7cf53_2 : decode cJ9_floorDiv_7cf53 2 = .ok (.idiv, 1) := by decide +kernel
theorem dJ9_floorDiv_7cf53_3 : decode cJ9_floorDiv_7cf53 3 = .ok (.istore_n 2, 1) := by decide +kernel
theorem dJ9_floorDiv_7cf53_4 : decode cJ9_floorDiv_7cf53 4 = .ok (.iload_n 0, 1) := by decide +kernel
theorem dJ9_floorDiv_7cf53_5 : decode cJ9_floorDiv_7cf53 5 = .ok (.iload_n 1, 1) := by decide +kernel
theorem dJ9_floorDiv_7cf53_6 : decode cJ9_floorDiv_7cf53 6 = .ok (.ixor, 1) := by decide +kernel
theorem dJ9_floorDiv_7cf53_7 : decode cJ9_floorDiv_7cf53 7 = .ok (.ifCond .ge 14, 3) := by decide +kernel
theorem dJ9_floorDiv_7cf53_10 : decode cJ9_floorDiv_7cf53 10 = .ok (.iload_n 2, 1) := by decide +kernel
theorem dJ9_floorDiv_7cf53_11 : decode cJ9_floorDiv_7cf53 11 = .ok (.iload_n 1, 1) := by decide +kernel
theorem dJ9_floorDiv_7cf53_12 : decode cJ9_floorDiv_7cf53 12 = .ok (.imul, 1) := by decide +kernel
theorem dJ9_floorDiv_7cf53_13 : decode cJ9_floorDiv_7cf53 13 = .ok (.iload_n 0, 1) := by decide +kernel
theorem dJ9_floorDiv_7cf53_14 : decode cJ9_floorDiv_7cf53 14 = .ok (.if_icmp .eq 7, 3) := by decide +kernel
theorem dJ9_floorDiv_7cf53_17 : decode cJ9_floorDiv_7cf53 17 = .ok (.iload_n 2, 1) := by decide +kernel
theorem dJ9_floorDiv_7cf53_18 : decode cJ9_floorDiv_7cf53 18 = .ok (.iconst 1, 1) := by decide +kernel
theorem dJ9_floorDiv_7cf53_19 : decode cJ9_floorDiv_7cf53 19 = .ok (.isub, 1) := by decide +kernel
theorem dJ9_floorDiv_7cf53_20 : decode cJ9_floorDiv_7cf53 20 = .ok (.ireturn, 1) := by decide +kernel
theorem dJ9_floorDiv_7cf53_21 : decode cJ9_floorDiv_7cf53 21 = .ok (.iload_n 2, 1) := by decide +kernel
theorem dJ9_floorDiv_7cf53_22 : decode cJ9_floorDiv_7cf53 22 = .ok (.ireturn, 1) := by decide +kernel
theorem dJ9_floorMod_7cf53_0 : decode cJ9_floorMod_7cf53 0 = .ok (.iload_n 0, 1) := by decide +kernel
theorem dJ9_floorMod_7cf53_1 : decode cJ9_floorMod_7cf53 1 = .ok (.iload_n 1, 1) := by decide +kernel
theorem dJ9_floorMod_7cf53_2 : decode cJ9_floorMod_7cf53 2 = .ok (.irem, 1) := by decide +kernel
theorem dJ9_floorMod_7cf53_3 : decode cJ9_floorMod_7cf53 3 = .ok (.istore_n 2, 1) := by decide +kernel
theorem dJ9_floorMod_7cf53_4 : decode cJ9_floorMod_7cf53 4 = .ok (.iload_n 0, 1) := by decide +kernel
theorem dJ9_floorMod_7cf53_5 : decode cJ9_floorMod_7cf53 5 = .ok (.iload_n 1, 1) := by decide +kernel
theorem dJ9_floorMod_7cf53_6 : decode cJ9_floorMod_7cf53 6 = .ok (.ixor, 1) := by decide +kernel
theorem dJ9_floorMod_7cf53_7 : decode cJ9_floorMod_7cf53 7 = .ok (.ifCond .ge 11, 3) := by decide +kernel
theorem dJ9_floorMod_7cf53_10 : decode cJ9_floorMod_7cf53 10 = .ok (.iload_n 2, 1) := by decide +kernel
theorem dJ9_floorMod_7cf53_11 : decode cJ9_floorMod_7cf53 11 = .ok (.ifCond .eq 7, 3) := by decide +kernel
theorem dJ9_floorMod_7cf53_14 : decode cJ9_floorMod_7cf53 14 = .ok (.iload_n 2, 1) := by decide +kernel
theorem dJ9_floorMod_7cf53_15 : decode cJ9_floorMod_7cf53 15 = .ok (.iload_n 1, 1) := by decide +kernel
theorem dJ9_floorMod_7cf53_16 : decode cJ9_floorMod_7cf53 16 = .ok (.iadd, 1) := by decide +kernel
theorem dJ9_floorMod_7cf53_17 : decode cJ9_floorMod_7cf53 17 = .ok (.ireturn, 1) := by decide +kernel
theorem dJ9_floorMod_7cf53_18 : decode cJ9_floorMod_7cf53 18 = .ok (.iload_n 2, 1) := by decide +kernel
theorem dJ9_floorMod_7cf53_19 : decode cJ9_floorMod_7cf53 19 = .ok (.ireturn, 1) := by decide +kernel
theorem dJ9_max_7cf53_0 : decode cJ9_max_7cf53 0 = .ok (.iload_n 0, 1) := by decide +kernel
theorem dJ9_max_7cf53_1 : decode cJ9_max_7cf53 1 = .ok (.iload_n 1, 1) := by decide +kernel
theorem dJ9_max_7cf53_2 : decode cJ9_max_7cf53 2 = .ok (.if_icmp .lt 7, 3) := by decide +kernel
theorem dJ9_max_7cf53_5 : decode cJ9_max_7cf53 5 = .ok (.iload_n 0, 1) := by decide +kernel
theorem dJ9_max_7cf53_6 : decode cJ9_max_7cf53 6 = .ok (.goto 4, 3) := by decide +kernel
theorem dJ9_max_7cf53_9 : decode cJ9_max_7cf53 9 = .ok (.iload_n 1, 1) := by decide +kernel
theorem dJ9_max_7cf53_10 : decode cJ9_max_7cf53 10 = .ok (.ireturn, 1) := by decide +kernel
theorem dJ9_min_7cf53_0 : decode cJ9_min_7cf53 0 = .ok (.iload_n 0, 1) := by decide +kernel
theorem dJ9_min_7cf53_1 : decode cJ9_min_7cf53 1 = .ok (.iload_n 1, 1) := by decide +kernel
theorem dJ9_min_7cf53_2 : decode cJ9_min_7cf53 2 = .ok (.if_icmp .gt 7, 3) := by decide +kernel
theorem dJ9_min_7cf53_5 : decode cJ9_min_7cf53 5 = .ok (.iload_n 0, 1) := by decide +kernel
theorem dJ9_min_7cf53_6 : decode cJ9_min_7cf53 6 = .ok (.goto 4, 3) := by decide +kernel
theorem dJ9_min_7cf53_9 : decode cJ9_min_7cf53 9 = .ok (.iload_n 1, 1) := by decide +kernel
theorem dJ9_min_7cf53_10 : decode cJ9_min_7cf53 10 = .ok (.ireturn, 1) := by decide +kernel
set_option maxRecDepth 20000 in
theorem ggJ0_length_8abf5_J0_coder_7d493 : GoodIn wsJ0_length_8abf5 wsJ0_coder_7d493 := goodIn_r _ [6, 7, 8] (by decide +kernel) (by decide +kernel)
set_option maxRecDepth 20000 in
theorem gJ0_length_8abf5_J0_coder_7d493 : GoodIn wsJ0_length_8abf5 (wsV RJ0 335 RJ0 yJ0_coder_7d493 wsJ0_coder_7d493) := goodIn_app (goodIn_of _ (by decide +kernel)) ggJ0_length_8abf5_J0_coder_7d493
theorem dJ0_length_8abf5_0 : decode cJ0_length_8abf5 0 = .ok (.aload_n 0, 1) := by decide +kernel
theorem dJ0_length_8abf5_1 : decode cJ0_length_8abf5 1 = .ok (.getfield 9, 3) := by decide +kernel
theorem dJ0_length_8abf5_4 : decode cJ0_length_8abf5 4 = .ok (.arraylength, 1) := by decide +kernel
theorem dJ0_length_8abf5_5 : decode cJ0_length_8abf5 5 = .ok (.aload_n 0, 1) := by decide +kernel
theorem dJ0_length_8abf5_6 : decode cJ0_length_8abf5 6 = .ok (.invokevirtual 335, 3) := by decide +kernel
theorem dJ0_length_8abf5_9 : decode cJ0_length_8abf5 9 = .ok (.ishr, 1) := by decide +kernel
theorem dJ0_length_8abf5_10 : decode cJ0_length_8abf5 10 = .ok (.ireturn, 1) := by decide +kernel
set_option maxRecDepth 20000 in
theorem ggJ0_charAt_5068e_J0_isLatin1_aae02 : GoodIn wsJ0_charAt_5068e wsJ0_isLatin1_aae02 := goodIn_r _ [6, 7, 8] (by decide +kernel) (by decide +kernel)
set_option maxRecDepth 20000 in
theorem gJ0_charAt_5068e_J0_isLatin1_aae02 : GoodIn wsJ0_charAt_5068e (wsV RJ0 492 RJ0 yJ0_isLatin1_aae02 wsJ0_isLatin1_aae02) := goodIn_app (goodIn_of _ (by decide +kernel)) ggJ0_charAt_5068e_J0_isLatin1_aae02
set_option maxRecDepth 20000 in
theorem ggJ0_charAt_5068e_J1_charAt_3b067 : GoodIn wsJ0_charAt_5068e wsJ1_charAt_3b067 := goodIn_r _ [12, 13, 14, 5, 15, 16, 17, 18, 19, 20] (by decide +kernel) (by decide +kernel)
set_option maxRecDepth 20000 in
theorem gJ0_charAt_5068e_J1_charAt_3b067 : GoodIn wsJ0_charAt_5068e (va_wsS RJ0 495 yJ1_charAt_3b067 wsJ1_charAt_3b067) := goodIn_app (goodIn_of _ (by decide +kernel)) ggJ0_charAt_5068e_J1_charAt_3b067
set_option maxRecDepth 20000 in
theorem ggJ0_charAt_5068e_J2_charAt_3b067 : GoodIn wsJ0_charAt_5068e wsJ2_charAt_3b067 := goodIn_r _ [24, 25, 26, 23, 27, 28, 29, 30, 31, 14, 5, 15, 16, 17, 18, 19, 20, 32, 33, 34, 35, 36, 37] (by decide +kernel) (by decide +kernel)
set_option maxRecDepth 20000 in
theorem gJ0_charAt_5068e_J2_charAt_3b067 : GoodIn wsJ0_charAt_5068e (va_wsS RJ0 498 yJ2_charAt_3b067 wsJ2_charAt_3b067) := goodIn_app (goodIn_of _ (by decide +kernel)) ggJ0_charAt_5068e_J2_charAt_3b067
theorem dJ0_charAt_5068e_0 : decode cJ0_charAt_5068e 0 = .ok (.aload_n 0, 1) := by decide +kernel
theorem dJ0_charAt_5068e_1 : decode cJ0_charAt_5068e 1 = .ok (.invokevirtual 492, 3) := by decide +kernel
theorem dJ0_charAt_5068e_4 : decode cJ0_charAt_5068e 4 = .ok (.ifCond .eq 12, 3) := by decide +kernel
theorem dJ0_charAt_5068e_7 : decode cJ0_charAt_5068e 7 = .ok (.aload_n 0, 1) := by decide +kernel
theorem dJ0_charAt_5068e_8 : decode cJ0_charAt_5068e 8 = .ok (.getfield 9, 3) := by decide +kernel
theorem dJ0_charAt_5068e_11 : decode cJ0_charAt_5068e 11 = .ok (.iload_n 1, 1) := by decide +kernel
theorem dJ0_charAt_5068e_12 : decode cJ0_charAt_5068e 12 = .ok (.invokestatic 495, 3) := by decide +kernel
theorem dJ0_charAt_5068e_15 : decode cJ0_charAt_5068e 15 = .ok (.ireturn, 1) := by decide +kernel
theorem dJ0_charAt_5068e_16 : decode cJ0_charAt_5068e 16 = .ok (.aload_n 0, 1) := by decide +kernel
theorem dJ0_charAt_5068e_17 : decode cJ0_charAt_5068e 17 = .ok (.getfield 9, 3) := by decide +kernel
theorem dJ0_charAt_5068e_20 : decode cJ0_charAt_5068e 20 = .ok (.iload_n 1, 1) := by decide +kernel
theorem dJ0_charAt_5068e_21 : decode cJ0_charAt_5068e 21 = .ok (.invokestatic 498, 3) := by decide +kernel
theorem dJ0_charAt_5068e_24 : decode cJ0_charAt_5068e 24 = .ok (.ireturn, 1) := by decide +kernel
theorem dJ0_coder_7d493_0 : decode cJ0_coder_7d493 0 = .ok (.getstatic 38, 3) := by decide +kernel
theorem dJ0_coder_7d493_3 : decode cJ0_coder_7d493 3 = .ok (.ifCond .eq 10, 3) := by decide +kernel
theorem dJ0_coder_7d493_6 : decode cJ0_coder_7d493 6 = .ok (.aload_n 0, 1) := by decide +kernel
theorem dJ0_coder_7d493_7 : decode cJ0_coder_7d493 7 = .ok (.getfield 15, 3) := by decide +kernel
theorem dJ0_coder_7d493_10 : decode cJ0_coder_7d493 10 = .ok (.goto 4, 3) := by decide +kernel
theorem dJ0_coder_7d493_13 : decode cJ0_coder_7d493 13 = .ok (.iconst 1, 1) := by decide +kernel
theorem dJ0_coder_7d493_14 : decode cJ0_coder_7d493 14 = .ok (.ireturn, 1) := by decide +kernel
theorem dJ0_isLatin1_aae02_0 : decode cJ0_isLatin1_aae02 0 = .ok (.getstatic 38, 3) := by decide +kernel
theorem dJ0_isLatin1_aae02_3 : decode cJ0_isLatin1_aae02 3 = .ok (.ifCond .eq 14, 3) := by decide +kernel
theorem dJ0_isLatin1_aae02_6 : decode cJ0_isLatin1_aae02 6 = .ok (.aload_n 0, 1) := by decide +kernel
theorem dJ0_isLatin1_aae02_7 : decode cJ0_isLatin1_aae02 7 = .ok (.getfield 15, 3) := by decide +kernel
theorem dJ0_isLatin1_aae02_10 : decode cJ0_isLatin1_aae02 10 = .ok (.ifCond .ne 7, 3) := by decide +kernel
theorem dJ0_isLatin1_aae02_13 : decode cJ0_isLatin1_aae02 13 = .ok (.iconst 1, 1) := by decide +kernel
theorem dJ0_isLatin1_aae02_14 : decode cJ0_isLatin1_aae02 14 = .ok (.goto 4, 3) := by decide +kernel
theorem dJ0_isLatin1_aae02_17 : decode cJ0_isLatin1_aae02 17 = .ok (.iconst 0, 1) := by decide +kernel
theorem dJ0_isLatin1_aae02_18 : decode cJ0_isLatin1_aae02 18 = .ok (.ireturn, 1) := by decide +kernel
set_option maxRecDepth 20000 in
theorem ggJ0_checkIndex_df160_J3_checkIndex_8e157 : GoodIn wsJ0_checkIndex_df160 wsJ3_checkIndex_8e157 := goodIn_r _ [5] (by decide +kernel) (by decide +kernel)
set_option maxRecDepth 20000 in
theorem gJ0_checkIndex_df160_J3_checkIndex_8e157 : GoodIn wsJ0_checkIndex_df160 (va_wsS RJ0 1059 yJ3_checkIndex_8e157 wsJ3_checkIndex_8e157) := goodIn_app (goodIn_of _ (by decide +kernel)) ggJ0_checkIndex_df160_J3_checkIndex_8e157
theorem dJ0_checkIndex_df160_0 : decode cJ0_checkIndex_df160 0 = .ok (.iload_n 0, 1) := by decide +kernel
theorem dJ0_checkIndex_df160_1 : decode cJ0_checkIndex_df160 1 = .ok (.iload_n 1, 1) := by decide +kernel
theorem dJ0_checkIndex_df160_2 : decode cJ0_checkIndex_df160 2 = .ok (.getstatic 1053, 3) := by decide +kernel
theorem dJ0_checkIndex_df160_5 : decode cJ0_checkIndex_df160 5 = .ok (.invokestatic 1059, 3) := by decide +kernel
theorem dJ0_checkIndex_df160_8 : decode cJ0_checkIndex_df160 8 = .ok (.pop, 1) := by decide +kernel
theorem dJ0_checkIndex_df160_9 : decode cJ0_checkIndex_df160 9 = .ok (.return_, 1) := by decide +kernel
set_option maxRecDepth 20000 in
theorem ggJ1_charAt_3b067_J0_checkIndex_df160 : GoodIn wsJ1_charAt_3b067 wsJ0_checkIndex_df160 := goodIn_r _ [4, 5, 6, 7, 8, 9] (by decide +kernel) (by decide +kernel)
set_option maxRecDepth 20000 in
theorem gJ1_charAt_3b067_J0_checkIndex_df160 : GoodIn wsJ1_charAt_3b067 (va_wsS RJ1 9 yJ0_checkIndex_df160 wsJ0_checkIndex_df160) := goodIn_app (goodIn_of _ (by decide +kernel)) ggJ1_charAt_3b067_J0_checkIndex_df160
theorem dJ1_charAt_3b067_0 : decode cJ1_charAt_3b067 0 = .ok (.iload_n 1, 1) := by decide +kernel
theorem dJ1_charAt_3b067_1 : decode cJ1_charAt_3b067 1 = .ok (.aload_n 0, 1) := by decide +kernel
theorem dJ1_charAt_3b067_2 : decode cJ1_charAt_3b067 2 = .ok (.arraylength, 1) := by decide +kernel
theorem dJ1_charAt_3b067_3 : decode cJ1_charAt_3b067 3 = .ok (.invokestatic 9, 3) := by decide +kernel
theorem dJ1_charAt_3b067_6 : decode cJ1_charAt_3b067 6 = .ok (.aload_n 0, 1) := by decide +kernel
theorem dJ1_charAt_3b067_7 : decode cJ1_charAt_3b067 7 = .ok (.iload_n 1, 1) := by decide +kernel
theorem dJ1_charAt_3b067_8 : decode cJ1_charAt_3b067 8 = .ok (.baload, 1) := by decide +kernel
theorem dJ1_charAt_3b067_9 : decode cJ1_charAt_3b067 9 = .ok (.sipush 255, 3) := by decide +kernel
theorem dJ1_charAt_3b067_12 : decode cJ1_charAt_3b067 12 = .ok (.iand, 1) := by decide +kernel
theorem dJ1_charAt_3b067_13 : decode cJ1_charAt_3b067 13 = .ok (.i2c, 1) := by decide +kernel
theorem dJ1_charAt_3b067_14 : decode cJ1_charAt_3b067 14 = .ok (.ireturn, 1) := by decide +kernel
set_option maxRecDepth 20000 in
theorem ggJ2_getChar_3b067_J2_length_9d52b : GoodIn wsJ2_getChar_3b067 wsJ2_length_9d52b := goodIn_r _ [7] (by decide +kernel) (by decide +kernel)
set_option maxRecDepth 20000 in
theorem gJ2_getChar_3b067_J2_length_9d52b : GoodIn wsJ2_getChar_3b067 (va_wsS RJ2 48 yJ2_length_9d52b wsJ2_length_9d52b) := goodIn_app (goodIn_of _ (by decide +kernel)) ggJ2_getChar_3b067_J2_length_9d52b
theorem dJ2_getChar_3b067_0 : decode cJ2_getChar_3b067 0 = .ok (.getstatic 44, 3) := by decide +kernel
theorem dJ2_getChar_3b067_3 : decode cJ2_getChar_3b067 3 = .ok (.ifCond .ne 25, 3) := by decide +kernel
theorem dJ2_getChar_3b067_6 : decode cJ2_getChar_3b067 6 = .ok (.iload_n 1, 1) := by decide +kernel
theorem dJ2_getChar_3b067_7 : decode cJ2_getChar_3b067 7 = .ok (.ifCond .lt 11, 3) := by decide +kernel
theorem dJ2_getChar_3b067_10 : decode cJ2_getChar_3b067 10 = .ok (.iload_n 1, 1) := by decide +kernel
theorem dJ2_getChar_3b067_11 : decode cJ2_getChar_3b067 11 = .ok (.aload_n 0, 1) := by decide +kernel
theorem dJ2_getChar_3b067_12 : decode cJ2_getChar_3b067 12 = .ok (.invokestatic 48, 3) := by decide +kernel
theorem dJ2_getChar_3b067_15 : decode cJ2_getChar_3b067 15 = .ok (.if_icmp .lt 13, 3) := by decide +kernel
theorem dJ2_getChar_3b067_18 : decode cJ2_getChar_3b067 18 = .ok (.new 52, 3) := by decide +kernel
theorem dJ2_getChar_3b067_21 : decode cJ2_getChar_3b067 21 = .ok (.dup, 1) := by decide +kernel
theorem dJ2_getChar_3b067_22 : decode cJ2_getChar_3b067 22 = .ok (.ldc 54, 2) := by decide +kernel
theorem dJ2_getChar_3b067_24 : decode cJ2_getChar_3b067 24 = .ok (.invokespecial 56, 3) := by decide +kernel
theorem dJ2_getChar_3b067_27 : decode cJ2_getChar_3b067 27 = .ok (.athrow, 1) := by decide +kernel
theorem dJ2_getChar_3b067_28 : decode cJ2_getChar_3b067 28 = .ok (.iload_n 1, 1) := by decide +kernel
theorem dJ2_getChar_3b067_29 : decode cJ2_getChar_3b067 29 = .ok (.iconst 1, 1) := by decide +kernel
theorem dJ2_getChar_3b067_30 : decode cJ2_getChar_3b067 30 = .ok (.ishl, 1) := by decide +kernel
theorem dJ2_getChar_3b067_31 : decode cJ2_getChar_3b067 31 = .ok (.istore_n 1, 1) := by decide +kernel
theorem dJ2_getChar_3b067_32 : decode cJ2_getChar_3b067 32 = .ok (.aload_n 0, 1) := by decide +kernel
theorem dJ2_getChar_3b067_33 : decode cJ2_getChar_3b067 33 = .ok (.iload_n 1, 1) := by decide +kernel
theorem dJ2_getChar_3b067_34 : decode cJ2_getChar_3b067 34 = .ok (.iinc 1 1, 3) := by decide +kernel
theorem dJ2_getChar_3b067_37 : decode cJ2_getChar_3b067 37 = .ok (.baload, 1) := by decide +kernel
theorem dJ2_getChar_3b067_38 : decode cJ2_getChar_3b067 38 = .ok (.sipush 255, 3) := by decide +kernel
theorem dJ2_getChar_3b067_41 : decode cJ2_getChar_3b067 41 = .ok (.iand, 1) := by decide +kernel
theorem dJ2_getChar_3b067_42 : decode cJ2_getChar_3b067 42 = .ok (.getstatic 59, 3) := by decide +kernel
theorem dJ2_getChar_3b067_45 : decode cJ2_getChar_3b067 45 = .ok (.ishl, 1) := by decide +kernel
theorem dJ2_getChar_3b067_46 : decode cJ2_getChar_3b067 46 = .ok (.aload_n 0, 1) := by decide +kernel
theorem dJ2_getChar_3b067_47 : decode cJ2_getChar_3b067 47 = .ok (.iload_n 1, 1) := by decide +kernel
theorem dJ2_getChar_3b067_48 : decode cJ2_getChar_3b067 48 = .ok (.baload, 1) := by decide +kernel
theorem dJ2_getChar_3b067_49 : decode cJ2_getChar_3b067 49 = .ok (.sipush 255, 3) := by decide +kernel
theorem dJ2_getChar_3b067_52 : decode cJ2_getChar_3b067 52 = .ok (.iand, 1) := by decide +kernel
theorem dJ2_getChar_3b067_53 : decode cJ2_getChar_3b067 53 = .ok (.getstatic 63, 3) := by decide +kernel
theorem dJ2_getChar_3b067_56 : decode cJ2_getChar_3b067 56 = .ok (.ishl, 1) := by decide +kernel
theorem dJ2_getChar_3b067_57 : decode cJ2_getChar_3b067 57 = .ok (.ior, 1) := by decide +kernel
theorem dJ2_getChar_3b067_58 : decode cJ2_getChar_3b067 58 = .ok (.i2c, 1) := by decide +kernel
theorem dJ2_getChar_3b067_59 : decode cJ2_getChar_3b067 59 = .ok (.ireturn, 1) := by decide +kernel
theorem dJ2_length_9d52b_0 : decode cJ2_length_9d52b 0 = .ok (.aload_n 0, 1) := by decide +kernel
theorem dJ2_length_9d52b_1 : decode cJ2_length_9d52b 1 = .ok (.arraylength, 1) := by decide +kernel
theorem dJ2_length_9d52b_2 : decode cJ2_length_9d52b 2 = .ok (.iconst 1, 1) := by decide +kernel
theorem dJ2_length_9d52b_3 : decode cJ2_length_9d52b 3 = .ok (.ishr, 1) := by decide +kernel
theorem dJ2_length_9d52b_4 : decode cJ2_length_9d52b 4 = .ok (.ireturn, 1) := by decide +kernel
set_option maxRecDepth 20000 in
theorem ggJ2_charAt_3b067_J2_checkIndex_2214a : GoodIn wsJ2_charAt_3b067 wsJ2_checkIndex_2214a := goodIn_r _ [4, 5, 6, 3, 7, 8, 9, 10, 11, 12, 13, 14, 15, 16] (by decide +kernel) (by decide +kernel)
set_option maxRecDepth 20000 in
theorem gJ2_charAt_3b067_J2_checkIndex_2214a : GoodIn wsJ2_charAt_3b067 (va_wsS RJ2 67 yJ2_checkIndex_2214a wsJ2_checkIndex_2214a) := goodIn_app (goodIn_of _ (by decide +kernel)) ggJ2_charAt_3b067_J2_checkIndex_2214a
set_option maxRecDepth 20000 in
theorem ggJ2_charAt_3b067_J2_getChar_3b067 : GoodIn wsJ2_charAt_3b067 wsJ2_getChar_3b067 := goodIn_r _ [19, 20, 21, 22, 5, 6, 3, 7] (by decide +kernel) (by decide +kernel)
set_option maxRecDepth 20000 in
theorem gJ2_charAt_3b067_J2_getChar_3b067 : GoodIn wsJ2_charAt_3b067 (va_wsS RJ2 71 yJ2_getChar_3b067 wsJ2_getChar_3b067) := goodIn_app (goodIn_of _ (by decide +kernel)) ggJ2_charAt_3b067_J2_getChar_3b067
theorem dJ2_charAt_3b067_0 : decode cJ2_charAt_3b067 0 = .ok (.iload_n 1, 1) := by decide +kernel
theorem dJ2_charAt_3b067_1 : decode cJ2_charAt_3b067 1 = .ok (.aload_n 0, 1) := by decide +kernel
theorem dJ2_charAt_3b067_2 : decode cJ2_charAt_3b067 2 = .ok (.invokestatic 67, 3) := by decide +kernel
theorem dJ2_charAt_3b067_5 : decode cJ2_charAt_3b067 5 = .ok (.aload_n 0, 1) := by decide +kernel
theorem dJ2_charAt_3b067_6 : decode cJ2_charAt_3b067 6 = .ok (.iload_n 1, 1) := by decide +kernel
theorem dJ2_charAt_3b067_7 : decode cJ2_charAt_3b067 7 = .ok (.invokestatic 71, 3) := by decide +kernel
theorem dJ2_charAt_3b067_10 : decode cJ2_charAt_3b067 10 = .ok (.ireturn, 1) := by decide +kernel
set_option maxRecDepth 20000 in
theorem ggJ2_checkIndex_2214a_J2_length_9d52b : GoodIn wsJ2_checkIndex_2214a wsJ2_length_9d52b := goodIn_r _ [4] (by decide +kernel) (by decide +kernel)
set_option maxRecDepth 20000 in
theorem gJ2_checkIndex_2214a_J2_length_9d52b : GoodIn wsJ2_checkIndex_2214a (va_wsS RJ2 48 yJ2_length_9d52b wsJ2_length_9d52b) := goodIn_app (goodIn_of _ (by decide +kernel)) ggJ2_checkIndex_2214a_J2_length_9d52b
set_option maxRecDepth 20000 in
theorem ggJ2_checkIndex_2214a_J0_checkIndex_df160 : GoodIn wsJ2_checkIndex_2214a wsJ0_checkIndex_df160 := goodIn_r _ [8, 9, 10, 11, 12, 13] (by decide +kernel) (by decide +kernel)
set_option maxRecDepth 20000 in
theorem gJ2_checkIndex_2214a_J0_checkIndex_df160 : GoodIn wsJ2_checkIndex_2214a (va_wsS RJ2 414 yJ0_checkIndex_df160 wsJ0_checkIndex_df160) := goodIn_app (goodIn_of _ (by decide +kernel)) ggJ2_checkIndex_2214a_J0_checkIndex_df160
theorem dJ2_checkIndex_2214a_0 : decode cJ2_checkIndex_2214a 0 = .ok (.iload_n 0, 1) := by decide +kernel
theorem dJ2_checkIndex_2214a_1 : decode cJ2_checkIndex_2214a 1 = .ok (.aload_n 1, 1) := by decide +kernel
theorem dJ2_checkIndex_2214a_2 : decode cJ2_checkIndex_2214a 2 = .ok (.invokestatic 48, 3) := by decide +kernel
theorem dJ2_checkIndex_2214a_5 : decode cJ2_checkIndex_2214a 5 = .ok (.invokestatic 414, 3) := by decide +kernel
theorem dJ2_checkIndex_2214a_8 : decode cJ2_checkIndex_2214a 8 = .ok (.return_, 1) := by decide +kernel
theorem dJ7_fill_53178_0 : decode cJ7_fill_53178 0 = .ok (.iconst 0, 1) := by decide +kernel
theorem dJ7_fill_53178_1 : decode cJ7_fill_53178 1 = .ok (.istore_n 2, 1) := by decide +kernel
theorem dJ7_fill_53178_2 : decode cJ7_fill_53178 2 = .ok (.aload_n 0, 1) := by decide +kernel
theorem dJ7_fill_53178_3 : decode cJ7_fill_53178 3 = .ok (.arraylength, 1) := by decide +kernel
theorem dJ7_fill_53178_4 : decode cJ7_fill_53178 4 = .ok (.istore_n 3, 1) := by decide +kernel
theorem dJ7_fill_53178_5 : decode cJ7_fill_53178 5 = .ok (.iload_n 2, 1) := by decide +kernel
theorem dJ7_fill_53178_6 : decode cJ7_fill_53178 6 = .ok (.iload_n 3, 1) := by decide +kernel
theorem dJ7_fill_53178_7 : decode cJ7_fill_53178 7 = .ok (.if_icmp .ge 13, 3) := by decide +kernel
theorem dJ7_fill_53178_10 : decode cJ7_fill_53178 10 = .ok (.aload_n 0, 1) := by decide +kernel
theorem dJ7_fill_53178_11 : decode cJ7_fill_53178 11 = .ok (.iload_n 2, 1) := by decide +kernel
theorem dJ7_fill_53178_12 : decode cJ7_fill_53178 12 = .ok (.iload_n 1, 1) := by decide +kernel
theorem dJ7_fill_53178_13 : decode cJ7_fill_53178 13 = .ok (.iastore, 1) := by decide +kernel
theorem dJ7_fill_53178_14 : decode cJ7_fill_53178 14 = .ok (.iinc 2 1, 3) := by decide +kernel
theorem dJ7_fill_53178_17 : decode cJ7_fill_53178 17 = .ok (.goto (-12), 3) := by decide +kernel
theorem dJ7_fill_53178_20 : decode cJ7_fill_53178 20 = .ok (.return_, 1) := by decide +kernel
theorem dJ3_checkIndex_8e157_0 : decode cJ3_checkIndex_8e157 0 = .ok (.iload_n 0, 1) := by decide +kernel
theorem dJ3_checkIndex_8e157_1 : decode cJ3_checkIndex_8e157 1 = .ok (.ifCond .lt 8, 3) := by decide +kernel
theorem dJ3_checkIndex_8e157_4 : decode cJ3_checkIndex_8e157 4 = .ok (.iload_n 0, 1) := by decide +kernel
theorem dJ3_checkIndex_8e157_5 : decode cJ3_checkIndex_8e157 5 = .ok (.iload_n 1, 1) := by decide +kernel
theorem dJ3_checkIndex_8e157_6 : decode cJ3_checkIndex_8e157 6 = .ok (.if_icmp .lt 10, 3) := by decide +kernel
theorem dJ3_checkIndex_8e157_9 : decode cJ3_checkIndex_8e157 9 = .ok (.aload_n 2, 1) := by decide +kernel
theorem dJ3_checkIndex_8e157_10 : decode cJ3_checkIndex_8e157 10 = .ok (.iload_n 0, 1) := by decide +kernel
theorem dJ3_checkIndex_8e157_11 : decode cJ3_checkIndex_8e157 11 = .ok (.iload_n 1, 1) := by decide +kernel
theorem dJ3_checkIndex_8e157_12 : decode cJ3_checkIndex_8e157 12 = .ok (.invokestatic 95, 3) := by decide +kernel
theorem dJ3_checkIndex_8e157_15 : decode cJ3_checkIndex_8e157 15 = .ok (.athrow, 1) := by decide +kernel
theorem dJ3_checkIndex_8e157_16 : decode cJ3_checkIndex_8e157 16 = .ok (.iload_n 0, 1) := by decide +kernel
theorem dJ3_checkIndex_8e157_17 : decode cJ3_checkIndex_8e157 17 = .ok (.ireturn, 1) := by decide +kernel
abbrev vwCl : List vw_C := [(RX0, TX0, 4), (RX1, TX1, 2), (RX2, TX2, 2), (RX3, TX3, 11), (RX4, TX4, 4), (RX5, TX5, 8), (RX6, TX6, 20), (RX7, TX7, 11), (RX8, TX8, 8), (RX9, TX9, 9), (RX10, TX10, 3), (RX11, TX11, 17), (RX12, TX12, 75)]

