theorem dX12_road_115 : decode cX12_road 115 = .ok (.iconst 2, 1) := by decide +kernel
theorem dX12_road_116 : decode cX12_road 116 = .ok (.aload_n 0, 1) := by decide +kernel
theorem dX12_road_117 : decode cX12_road 117 = .ok (.getfield 23, 3) := by decide +kernel
theorem dX12_road_120 : decode cX12_road 120 = .ok (.invokevirtual 251, 3) := by decide +kernel
theorem dX12_road_123 : decode cX12_road 123 = .ok (.aload_n 0, 1) := by decide +kernel
theorem dX12_road_124 : decode cX12_road 124 = .ok (.getfield 36, 3) := by decide +kernel
theorem dX12_road_127 : decode cX12_road 127 = .ok (.ifCond .ne 7, 3) := by decide +kernel
theorem dX12_road_130 : decode cX12_road 130 = .ok (.aload_n 0, 1) := by decide +kernel
theorem dX12_road_131 : decode cX12_road 131 = .ok (.invokevirtual 258, 3) := by decide +kernel
theorem dX12_road_134 : decode cX12_road 134 = .ok (.aload_n 0, 1) := by decide +kernel
theorem dX12_road_135 : decode cX12_road 135 = .ok (.ldc2_w 267, 3) := by decide +kernel
theorem dX12_road_138 : decode cX12_road 138 = .ok (.invokevirtual 341, 3) := by decide +kernel
theorem dX12_road_141 : decode cX12_road 141 = .ok (.aload_n 0, 1) := by decide +kernel
theorem dX12_road_142 : decode cX12_road 142 = .ok (.getfield 76, 3) := by decide +kernel
theorem dX12_road_145 : decode cX12_road 145 = .ok (.iload_n 1, 1) := by decide +kernel
theorem dX12_road_146 : decode cX12_road 146 = .ok (.aload_n 0, 1) := by decide +kernel
theorem dX12_road_147 : decode cX12_road 147 = .ok (.getfield 104, 3) := by decide +kernel
theorem dX12_road_150 : decode cX12_road 150 = .ok (.iastore, 1) := by decide +kernel
theorem dX12_road_151 : decode cX12_road 151 = .ok (.aload_n 0, 1) := by decide +kernel
theorem dX12_road_152 : decode cX12_road 152 = .ok (.iconst 0, 1) := by decide +kernel
theorem dX12_road_153 : decode cX12_road 153 = .ok (.invokevirtual 353, 3) := by decide +kernel
theorem dX12_road_156 : decode cX12_road 156 = .ok (.aload_n 0, 1) := by decide +kernel
theorem dX12_road_157 : decode cX12_road 157 = .ok (.getfield 79, 3) := by decide +kernel
theorem dX12_road_160 : decode cX12_road 160 = .ok (.iload_n 1, 1) := by decide +kernel
theorem dX12_road_161 : decode cX12_road 161 = .ok (.aload_n 0, 1) := by decide +kernel
theorem dX12_road_162 : decode cX12_road 162 = .ok (.getfield 104, 3) := by decide +kernel
theorem dX12_road_165 : decode cX12_road 165 = .ok (.iastore, 1) := by decide +kernel
theorem dX12_road_166 : decode cX12_road 166 = .ok (.aload_n 0, 1) := by decide +kernel
theorem dX12_road_167 : decode cX12_road 167 = .ok (.getfield 82, 3) := by decide +kernel
theorem dX12_road_170 : decode cX12_road 170 = .ok (.iload_n 1, 1) := by decide +kernel
theorem dX12_road_171 : decode cX12_road 171 = .ok (.aload_n 0, 1) := by decide +kernel
theorem dX12_road_172 : decode cX12_road 172 = .ok (.getfield 104, 3) := by decide +kernel
theorem dX12_road_175 : decode cX12_road 175 = .ok (.iastore, 1) := by decide +kernel
theorem dX12_road_176 : decode cX12_road 176 = .ok (.aload_n 0, 1) := by decide +kernel
theorem dX12_road_177 : decode cX12_road 177 = .ok (.getfield 36, 3) := by decide +kernel
theorem dX12_road_180 : decode cX12_road 180 = .ok (.ifCond .ne 22, 3) := by decide +kernel
theorem dX12_road_183 : decode cX12_road 183 = .ok (.aload_n 0, 1) := by decide +kernel
theorem dX12_road_184 : decode cX12_road 184 = .ok (.ldc2_w 269, 3) := by decide +kernel
theorem dX12_road_187 : decode cX12_road 187 = .ok (.invokevirtual 316, 3) := by decide +kernel
theorem dX12_road_190 : decode cX12_road 190 = .ok (.ifCond .eq 12, 3) := by decide +kernel
theorem dX12_road_193 : decode cX12_road 193 = .ok (.aload_n 0, 1) := by decide +kernel
theorem dX12_road_194 : decode cX12_road 194 = .ok (.invokevirtual 258, 3) := by decide +kernel
theorem dX12_road_197 : decode cX12_road 197 = .ok (.aload_n 0, 1) := by decide +kernel
theorem dX12_road_198 : decode cX12_road 198 = .ok (.iconst 1, 1) := by decide +kernel
theorem dX12_road_199 : decode cX12_road 199 = .ok (.invokevirtual 353, 3) := by decide +kernel
theorem dX12_road_202 : decode cX12_road 202 = .ok (.aload_n 0, 1) := by decide +kernel
theorem dX12_road_203 : decode cX12_road 203 = .ok (.getfield 85, 3) := by decide +kernel
theorem dX12_road_206 : decode cX12_road 206 = .ok (.iload_n 1, 1) := by decide +kernel
theorem dX12_road_207 : decode cX12_road 207 = .ok (.aload_n 0, 1) := by decide +kernel
theorem dX12_road_208 : decode cX12_road 208 = .ok (.getfield 104, 3) := by decide +kernel
theorem dX12_road_211 : decode cX12_road 211 = .ok (.iastore, 1) := by decide +kernel
theorem dX12_road_212 : decode cX12_road 212 = .ok (.aload_n 0, 1) := by decide +kernel
theorem dX12_road_213 : decode cX12_road 213 = .ok (.getfield 88, 3) := by decide +kernel
theorem dX12_road_216 : decode cX12_road 216 = .ok (.iload_n 1, 1) := by decide +kernel
theorem dX12_road_217 : decode cX12_road 217 = .ok (.iconst 0, 1) := by decide +kernel
theorem dX12_road_218 : decode cX12_road 218 = .ok (.iastore, 1) := by decide +kernel
theorem dX12_road_219 : decode cX12_road 219 = .ok (.aload_n 0, 1) := by decide +kernel
theorem dX12_road_220 : decode cX12_road 220 = .ok (.getfield 36, 3) := by decide +kernel
theorem dX12_road_223 : decode cX12_road 223 = .ok (.ifCond .ne 16, 3) := by decide +kernel
theorem dX12_road_226 : decode cX12_road 226 = .ok (.aload_n 0, 1) := by decide +kernel
theorem dX12_road_227 : decode cX12_road 227 = .ok (.getfield 54, 3) := by decide +kernel
theorem dX12_road_230 : decode cX12_road 230 = .ok (.aload_n 0, 1) := by decide +kernel
theorem dX12_road_231 : decode cX12_road 231 = .ok (.getfield 107, 3) := by decide +kernel
theorem dX12_road_234 : decode cX12_road 234 = .ok (.dup2, 1) := by decide +kernel
theorem dX12_road_235 : decode cX12_road 235 = .ok (.iaload, 1) := by decide +kernel
theorem dX12_road_236 : decode cX12_road 236 = .ok (.iconst 1, 1) := by decide +kernel
theorem dX12_road_237 : decode cX12_road 237 = .ok (.iadd, 1) := by decide +kernel
theorem dX12_road_238 : decode cX12_road 238 = .ok (.iastore, 1) := by decide +kernel
theorem dX12_road_239 : decode cX12_road 239 = .ok (.return_, 1) := by decide +kernel
set_option maxRecDepth 20000 in
theorem ggX12_taste_X12_counts : GoodIn wsX12_taste wsX12_counts := goodIn_r _ [12, 5, 3, 13, 14, 15, 11, 16, 17, 18, 19, 20, 21, 22, 23, 24, 25, 26, 27, 28, 29, 30, 31, 32, 33, 72, 73, 74, 75, 76, 77, 78, 79, 80, 81, 82, 83, 84, 85, 86, 87, 88, 89, 90, 91, 92, 93, 94, 95, 96, 97, 98, 99, 100, 101, 102, 103, 104, 105, 106, 107, 108, 109, 110, 111, 112, 113, 114, 115, 116, 117, 118, 119, 120, 121, 122, 123, 124, 125, 126, 127, 128, 129, 130, 131, 132, 133, 134, 135, 136, 137, 138, 139, 140, 141, 142, 143, 144, 145, 146] rfl (by decide +kernel)
set_option maxRecDepth 20000 in
theorem gX12_taste_X12_counts : GoodIn wsX12_taste (wsV RX12 338 RX12 yX12_counts wsX12_counts) := goodIn_app (goodIn_of _ (by decide +kernel)) ggX12_taste_X12_counts
set_option maxRecDepth 20000 in
theorem ggX12_taste_X12_whoRead : GoodIn wsX12_taste wsX12_whoRead := goodIn_r _ [37, 3, 25, 27, 5, 38, 39, 40, 11, 41, 42, 43, 44, 45, 46, 47, 6, 48, 49, 50, 51, 52, 53, 54, 55, 56, 57, 13, 14, 15, 16, 17, 58, 59, 60, 61, 62, 2, 63, 72, 73, 74, 75, 76, 77, 78, 79, 80, 81, 82, 83, 84, 85, 86, 87, 88, 89, 90, 91, 92, 93, 94, 95, 96, 97, 98, 99, 100, 101, 102, 103, 104, 105, 106, 107, 108, 109, 110, 111, 112, 113, 114, 115, 116, 117, 118, 119, 120, 121, 122, 123, 124, 125, 126, 127, 128, 129, 130, 131, 132, 133, 134, 135, 136, 137, 138, 139, 140, 141, 142, 143, 144, 145, 146] rfl (by decide +kernel)
set_option maxRecDepth 20000 in
theorem gX12_taste_X12_whoRead : GoodIn wsX12_taste (wsV RX12 325 RX12 yX12_whoRead wsX12_whoRead) := goodIn_app (goodIn_of _ (by decide +kernel)) ggX12_taste_X12_whoRead
set_option maxRecDepth 20000 in
theorem ggX12_taste_X12_next : GoodIn wsX12_taste wsX12_next := goodIn_r _ [21, 22, 23, 24, 5, 25, 26, 27, 28, 29, 11, 30, 31, 32, 33, 13, 14, 15, 16, 3, 17, 72, 73, 74, 75, 76, 77, 78, 79, 80, 81, 82, 83, 84, 85, 86, 87, 88, 89, 90, 91, 92, 93, 94, 95, 96, 97, 98, 99, 100, 101, 102, 103, 104, 105, 106, 107, 108, 109, 110, 111, 112, 113, 114, 115, 116, 117, 118, 119, 120, 121, 122, 123, 124, 125, 126, 127, 128, 129, 130, 131, 132, 133, 134, 135, 136, 137, 138, 139, 140, 141, 142, 143, 144, 145, 146] rfl (by decide +kernel)
set_option maxRecDepth 20000 in
theorem gX12_taste_X12_next : GoodIn wsX12_taste (wsV RX12 258 RX12 yX12_next wsX12_next) := goodIn_app (goodIn_of _ (by decide +kernel)) ggX12_taste_X12_next
set_option maxRecDepth 20000 in
theorem ggX12_taste_X12_blame : GoodIn wsX12_taste wsX12_blame := goodIn_r _ [16, 3, 17, 72, 73, 74, 75, 76, 77, 78, 79, 80, 81, 82, 83, 84, 85, 86, 87, 88, 89, 90, 91, 92, 93, 94, 95, 96, 97, 98, 99, 100, 101, 102, 103, 104, 105, 106, 107, 108, 109, 110, 111, 112, 113, 114, 115, 116, 117, 118, 119, 120, 121, 122, 123, 124, 125, 126, 127, 128, 129, 130, 131, 132, 133, 134, 135, 136, 137, 138, 139, 140, 141, 142, 143, 144, 145, 146] rfl (by decide +kernel)
set_option maxRecDepth 20000 in
theorem gX12_taste_X12_blame : GoodIn wsX12_taste (wsV RX12 251 RX12 yX12_blame wsX12_blame) := goodIn_app (goodIn_of _ (by decide +kernel)) ggX12_taste_X12_blame
set_option maxRecDepth 20000 in
theorem ggX12_taste_X12_isWord : GoodIn wsX12_taste wsX12_isWord := goodIn_r _ [67, 25, 27, 72, 73, 74, 75, 76, 77, 78, 79, 80, 81, 82, 83, 84, 85, 86, 87, 88, 89, 90, 91, 92, 93, 94, 95, 96, 97, 98, 99, 100, 101, 102, 103, 104, 105, 106, 107, 108, 109, 110, 111, 112, 113, 114, 115, 116, 117, 118, 119, 120, 121, 122, 123, 124, 125, 126, 127, 128, 129, 130, 131, 132, 133, 134, 135, 136, 137, 138, 139, 140, 141, 142, 143, 144, 145, 146] rfl (by decide +kernel)
set_option maxRecDepth 20000 in
theorem gX12_taste_X12_isWord : GoodIn wsX12_taste (wsV RX12 316 RX12 yX12_isWord wsX12_isWord) := goodIn_app (goodIn_of _ (by decide +kernel)) ggX12_taste_X12_isWord
set_option maxRecDepth 20000 in
theorem ggX12_taste_X12_number : GoodIn wsX12_taste wsX12_number := goodIn_r _ [71, 3, 25, 5, 26, 13, 14, 15, 11, 16, 17, 18, 19, 20, 21, 22, 23, 24, 27, 28, 29, 30, 31, 32, 33, 72, 73, 74, 75, 76, 77, 78, 79, 80, 81, 82, 83, 84, 85, 86, 87, 88, 89, 90, 91, 92, 93, 94, 95, 96, 97, 98, 99, 100, 101, 102, 103, 104, 105, 106, 107, 108, 109, 110, 111, 112, 113, 114, 115, 116, 117, 118, 119, 120, 121, 122, 123, 124, 125, 126, 127, 128, 129, 130, 131, 132, 133, 134, 135, 136, 137, 138, 139, 140, 141, 142, 143, 144, 145, 146] rfl (by decide +kernel)
set_option maxRecDepth 20000 in
theorem gX12_taste_X12_number : GoodIn wsX12_taste (wsV RX12 345 RX12 yX12_number wsX12_number) := goodIn_app (goodIn_of _ (by decide +kernel)) ggX12_taste_X12_number
theorem dX12_taste_0 : decode cX12_taste 0 = .ok (.aload_n 0, 1) := by decide +kernel
theorem dX12_taste_1 : decode cX12_taste 1 = .ok (.aload_n 0, 1) := by decide +kernel
theorem dX12_taste_2 : decode cX12_taste 2 = .ok (.getfield 57, 3) := by decide +kernel
theorem dX12_taste_5 : decode cX12_taste 5 = .ok (.aload_n 0, 1) := by decide +kernel
theorem dX12_taste_6 : decode cX12_taste 6 = .ok (.getfield 107, 3) := by decide +kernel
theorem dX12_taste_9 : decode cX12_taste 9 = .ok (.iaload, 1) := by decide +kernel
theorem dX12_taste_10 : decode cX12_taste 10 = .ok (.bipush 24, 2) := by decide +kernel
theorem dX12_taste_12 : decode cX12_taste 12 = .ok (.if_icmp .ne 7, 3) := by decide +kernel
theorem dX12_taste_15 : decode cX12_taste 15 = .ok (.iconst 1, 1) := by decide +kernel
theorem dX12_taste_16 : decode cX12_taste 16 = .ok (.goto 4, 3) := by decide +kernel
theorem dX12_taste_19 : decode cX12_taste 19 = .ok (.iconst 0, 1) := by decide +kernel
theorem dX12_taste_20 : decode cX12_taste 20 = .ok (.invokevirtual 338, 3) := by decide +kernel
theorem dX12_taste_23 : decode cX12_taste 23 = .ok (.aload_n 0, 1) := by decide +kernel
theorem dX12_taste_24 : decode cX12_taste 24 = .ok (.getfield 36, 3) := by decide +kernel
theorem dX12_taste_27 : decode cX12_taste 27 = .ok (.ifCond .le 4, 3) := by decide +kernel
theorem dX12_taste_30 : decode cX12_taste 30 = .ok (.return_, 1) := by decide +kernel
theorem dX12_taste_31 : decode cX12_taste 31 = .ok (.aload_n 0, 1) := by decide +kernel
theorem dX12_taste_32 : decode cX12_taste 32 = .ok (.iconst (-1), 1) := by decide +kernel
theorem dX12_taste_33 : decode cX12_taste 33 = .ok (.invokevirtual 325, 3) := by decide +kernel
theorem dX12_taste_36 : decode cX12_taste 36 = .ok (.istore_n 1, 1) := by decide +kernel
theorem dX12_taste_37 : decode cX12_taste 37 = .ok (.aload_n 0, 1) := by decide +kernel
theorem dX12_taste_38 : decode cX12_taste 38 = .ok (.getfield 36, 3) := by decide +kernel
theorem dX12_taste_41 : decode cX12_taste 41 = .ok (.ifCond .ne 7, 3) := by decide +kernel
theorem dX12_taste_44 : decode cX12_taste 44 = .ok (.aload_n 0, 1) := by decide +kernel
theorem dX12_taste_45 : decode cX12_taste 45 = .ok (.invokevirtual 258, 3) := by decide +kernel
theorem dX12_taste_48 : decode cX12_taste 48 = .ok (.aload_n 0, 1) := by decide +kernel
theorem dX12_taste_49 : decode cX12_taste 49 = .ok (.iload_n 1, 1) := by decide +kernel
theorem dX12_taste_50 : decode cX12_taste 50 = .ok (.invokevirtual 325, 3) := by decide +kernel
theorem dX12_taste_53 : decode cX12_taste 53 = .ok (.istore_n 2, 1) := by decide +kernel
theorem dX12_taste_54 : decode cX12_taste 54 = .ok (.sipush 144, 3) := by decide +kernel
theorem dX12_taste_57 : decode cX12_taste 57 = .ok (.aload_n 0, 1) := by decide +kernel
theorem dX12_taste_58 : decode cX12_taste 58 = .ok (.getfield 107, 3) := by decide +kernel
theorem dX12_taste_61 : decode cX12_taste 61 = .ok (.imul, 1) := by decide +kernel
theorem dX12_taste_62 : decode cX12_taste 62 = .ok (.bipush 12, 2) := by decide +kernel
theorem dX12_taste_64 : decode cX12_taste 64 = .ok (.iload_n 1, 1) := by decide +kernel
theorem dX12_taste_65 : decode cX12_taste 65 = .ok (.imul, 1) := by decide +kernel
theorem dX12_taste_66 : decode cX12_taste 66 = .ok (.iadd, 1) := by decide +kernel
theorem dX12_taste_67 : decode cX12_taste 67 = .ok (.iload_n 2, 1) := by decide +kernel
theorem dX12_taste_68 : decode cX12_taste 68 = .ok (.iadd, 1) := by decide +kernel
theorem dX12_taste_69 : decode cX12_taste 69 = .ok (.istore_n 3, 1) := by decide +kernel
theorem dX12_taste_70 : decode cX12_taste 70 = .ok (.aload_n 0, 1) := by decide +kernel
theorem dX12_taste_71 : decode cX12_taste 71 = .ok (.getfield 36, 3) := by decide +kernel
theorem dX12_taste_74 : decode cX12_taste 74 = .ok (.ifCond .ne 21, 3) := by decide +kernel
theorem dX12_taste_77 : decode cX12_taste 77 = .ok (.aload_n 0, 1) := by decide +kernel
theorem dX12_taste_78 : decode cX12_taste 78 = .ok (.getfield 94, 3) := by decide +kernel
theorem dX12_taste_81 : decode cX12_taste 81 = .ok (.iload_n 3, 1) := by decide +kernel
theorem dX12_taste_82 : decode cX12_taste 82 = .ok (.baload, 1) := by decide +kernel
theorem dX12_taste_83 : decode cX12_taste 83 = .ok (.ifCond .eq 12, 3) := by decide +kernel
theorem dX12_taste_86 : decode cX12_taste 86 = .ok (.aload_n 0, 1) := by decide +kernel
theorem dX12_taste_87 : decode cX12_taste 87 = .ok (.iconst 2, 1) := by decide +kernel
theorem dX12_taste_88 : decode cX12_taste 88 = .ok (.aload_n 0, 1) := by decide +kernel
theorem dX12_taste_89 : decode cX12_taste 89 = .ok (.getfield 23, 3) := by decide +kernel
theorem dX12_taste_92 : decode cX12_taste 92 = .ok (.invokevirtual 251, 3) := by decide +kernel
theorem dX12_taste_95 : decode cX12_taste 95 = .ok (.aload_n 0, 1) := by decide +kernel
theorem dX12_taste_96 : decode cX12_taste 96 = .ok (.getfield 36, 3) := by decide +kernel
theorem dX12_taste_99 : decode cX12_taste 99 = .ok (.ifCond .ne 7, 3) := by decide +kernel
theorem dX12_taste_102 : decode cX12_taste 102 = .ok (.aload_n 0, 1) := by decide +kernel
theorem dX12_taste_103 : decode cX12_taste 103 = .ok (.invokevirtual 258, 3) := by decide +kernel
theorem dX12_taste_106 : decode cX12_taste 106 = .ok (.aload_n 0, 1) := by decide +kernel
theorem dX12_taste_107 : decode cX12_taste 107 = .ok (.getfield 36, 3) := by decide +kernel
theorem dX12_taste_110 : decode cX12_taste 110 = .ok (.ifCond .ne 17, 3) := by decide +kernel
theorem dX12_taste_113 : decode cX12_taste 113 = .ok (.aload_n 0, 1) := by decide +kernel
theorem dX12_taste_114 : decode cX12_taste 114 = .ok (.ldc2_w 273, 3) := by decide +kernel
theorem dX12_taste_117 : decode cX12_taste 117 = .ok (.invokevirtual 316, 3) := by decide +kernel
theorem dX12_taste_120 : decode cX12_taste 120 = .ok (.ifCond .eq 7, 3) := by decide +kernel
theorem dX12_taste_123 : decode cX12_taste 123 = .ok (.iconst 1, 1) := by decide +kernel
theorem dX12_taste_124 : decode cX12_taste 124 = .ok (.goto 4, 3) := by decide +kernel
theorem dX12_taste_127 : decode cX12_taste 127 = .ok (.iconst 0, 1) := by decide +kernel
theorem dX12_taste_128 : decode cX12_taste 128 = .ok (.istore 4, 2) := by decide +kernel
theorem dX12_taste_130 : decode cX12_taste 130 = .ok (.iload 4, 2) := by decide +kernel
theorem dX12_taste_132 : decode cX12_taste 132 = .ok (.ifCond .eq 7, 3) := by decide +kernel
theorem dX12_taste_135 : decode cX12_taste 135 = .ok (.aload_n 0, 1) := by decide +kernel
theorem dX12_taste_136 : decode cX12_taste 136 = .ok (.invokevirtual 258, 3) := by decide +kernel
theorem dX12_taste_139 : decode cX12_taste 139 = .ok (.aload_n 0, 1) := by decide +kernel
theorem dX12_taste_140 : decode cX12_taste 140 = .ok (.invokevirtual 345, 3) := by decide +kernel
theorem dX12_taste_143 : decode cX12_taste 143 = .ok (.istore 5, 2) := by decide +kernel
theorem dX12_taste_145 : decode cX12_taste 145 = .ok (.aload_n 0, 1) := by decide +kernel
theorem dX12_taste_146 : decode cX12_taste 146 = .ok (.getfield 36, 3) := by decide +kernel
theorem dX12_taste_149 : decode cX12_taste 149 = .ok (.ifCond .le 4, 3) := by decide +kernel
theorem dX12_taste_152 : decode cX12_taste 152 = .ok (.return_, 1) := by decide +kernel
theorem dX12_taste_153 : decode cX12_taste 153 = .ok (.aload_n 0, 1) := by decide +kernel
theorem dX12_taste_154 : decode cX12_taste 154 = .ok (.getfield 94, 3) := by decide +kernel
theorem dX12_taste_157 : decode cX12_taste 157 = .ok (.iload_n 3, 1) := by decide +kernel
theorem dX12_taste_158 : decode cX12_taste 158 = .ok (.iconst 1, 1) := by decide +kernel
theorem dX12_taste_159 : decode cX12_taste 159 = .ok (.bastore, 1) := by decide +kernel
theorem dX12_taste_160 : decode cX12_taste 160 = .ok (.aload_n 0, 1) := by decide +kernel
theorem dX12_taste_161 : decode cX12_taste 161 = .ok (.getfield 91, 3) := by decide +kernel
theorem dX12_taste_164 : decode cX12_taste 164 = .ok (.iload_n 3, 1) := by decide +kernel
theorem dX12_taste_165 : decode cX12_taste 165 = .ok (.iload 4, 2) := by decide +kernel
theorem dX12_taste_167 : decode cX12_taste 167 = .ok (.ifCond .eq 9, 3) := by decide +kernel
theorem dX12_taste_170 : decode cX12_taste 170 = .ok (.iload 5, 2) := by decide +kernel
theorem dX12_taste_172 : decode cX12_taste 172 = .ok (.ineg, 1) := by decide +kernel
theorem dX12_taste_173 : decode cX12_taste 173 = .ok (.goto 5, 3) := by decide +kernel
theorem dX12_taste_176 : decode cX12_taste 176 = .ok (.iload 5, 2) := by decide +kernel
theorem dX12_taste_178 : decode cX12_taste 178 = .ok (.iastore, 1) := by decide +kernel
theorem dX12_taste_179 : decode cX12_taste 179 = .ok (.aload_n 0, 1) := by decide +kernel
theorem dX12_taste_180 : decode cX12_taste 180 = .ok (.getfield 57, 3) := by decide +kernel
theorem dX12_taste_183 : decode cX12_taste 183 = .ok (.aload_n 0, 1) := by decide +kernel
theorem dX12_taste_184 : decode cX12_taste 184 = .ok (.getfield 107, 3) := by decide +kernel
theorem dX12_taste_187 : decode cX12_taste 187 = .ok (.dup2, 1) := by decide +kernel
theorem dX12_taste_188 : decode cX12_taste 188 = .ok (.iaload, 1) := by decide +kernel
theorem dX12_taste_189 : decode cX12_taste 189 = .ok (.iconst 1, 1) := by decide +kernel
theorem dX12_taste_190 : decode cX12_taste 190 = .ok (.iadd, 1) := by decide +kernel
theorem dX12_taste_191 : decode cX12_taste 191 = .ok (.iastore, 1) := by decide +kernel
theorem dX12_taste_192 : decode cX12_taste 192 = .ok (.return_, 1) := by decide +kernel
set_option maxRecDepth 20000 in
theorem ggX12_doubt_X12_counts : GoodIn wsX12_doubt wsX12_counts := goodIn_r _ [10, 4, 3, 11, 12, 13, 9, 14, 15, 16, 17, 18, 19, 20, 21, 22, 23, 24, 25, 26, 27, 28, 29, 30, 31, 74, 75, 76, 77, 78, 79, 80, 81, 82, 83, 84, 85, 86, 87, 88, 89, 90, 91, 92, 93, 94, 95, 96, 97, 98, 99, 100, 101, 102, 103, 104, 105, 106, 107, 108, 109, 110, 111, 112, 113, 114, 115, 116, 117, 118, 119, 120, 121, 122, 123, 124, 125, 126, 127, 128, 129, 130, 131, 132, 133, 134, 135, 136, 137, 138, 139, 140, 141, 142, 143, 144, 145, 146, 147, 148] rfl (by decide +kernel)
set_option maxRecDepth 20000 in
theorem gX12_doubt_X12_counts : GoodIn wsX12_doubt (wsV RX12 338 RX12 yX12_counts wsX12_counts) := goodIn_app (goodIn_of _ (by decide +kernel)) ggX12_doubt_X12_counts
set_option maxRecDepth 20000 in
theorem ggX12_doubt_X12_whoRead : GoodIn wsX12_doubt wsX12_whoRead := goodIn_r _ [35, 3, 23, 25, 4, 36, 37, 38, 9, 39, 40, 41, 42, 43, 44, 45, 46, 47, 48, 49, 50, 51, 52, 53, 54, 55, 56, 11, 12, 13, 14, 15, 57, 58, 59, 60, 61, 2, 62, 74, 75, 76, 77, 78, 79, 80, 81, 82, 83, 84, 85, 86, 87, 88, 89, 90, 91, 92, 93, 94, 95, 96, 97, 98, 99, 100, 101, 102, 103, 104, 105, 106, 107, 108, 109, 110, 111, 112, 113, 114, 115, 116, 117, 118, 119, 120, 121, 122, 123, 124, 125, 126, 127, 128, 129, 130, 131, 132, 133, 134, 135, 136, 137, 138, 139, 140, 141, 142, 143, 144, 145, 146, 147, 148] rfl (by decide +kernel)
set_option maxRecDepth 20000 in
theorem gX12_doubt_X12_whoRead : GoodIn wsX12_doubt (wsV RX12 325 RX12 yX12_whoRead wsX12_whoRead) := goodIn_app (goodIn_of _ (by decide +kernel)) ggX12_doubt_X12_whoRead
set_option maxRecDepth 20000 in
theorem ggX12_doubt_X12_next : GoodIn wsX12_doubt wsX12_next := goodIn_r _ [19, 20, 21, 22, 4, 23, 24, 25, 26, 27, 9, 28, 29, 30, 31, 11, 12, 13, 14, 3, 15, 74, 75, 76, 77, 78, 79, 80, 81, 82, 83, 84, 85, 86, 87, 88, 89, 90, 91, 92, 93, 94, 95, 96, 97, 98, 99, 100, 101, 102, 103, 104, 105, 106, 107, 108, 109, 110, 111, 112, 113, 114, 115, 116, 117, 118, 119, 120, 121, 122, 123, 124, 125, 126, 127, 128, 129, 130, 131, 132, 133, 134, 135, 136, 137, 138, 139, 140, 141, 142, 143, 144, 145, 146, 147, 148] rfl (by decide +kernel)
set_option maxRecDepth 20000 in
theorem gX12_doubt_X12_next : GoodIn wsX12_doubt (wsV RX12 258 RX12 yX12_next wsX12_next) := goodIn_app (goodIn_of _ (by decide +kernel)) ggX12_doubt_X12_next
set_option maxRecDepth 20000 in
theorem ggX12_doubt_X12_roadOf : GoodIn wsX12_doubt wsX12_roadOf := goodIn_r _ [66, 2, 67, 68, 69, 74, 75, 76, 77, 78, 79, 80, 81, 82, 83, 84, 85, 86, 87, 88, 89, 90, 91, 92, 93, 94, 95, 96, 97, 98, 99, 100, 101, 102, 103, 104, 105, 106, 107, 108, 109, 110, 111, 112, 113, 114, 115, 116, 117, 118, 119, 120, 121, 122, 123, 124, 125, 126, 127, 128, 129, 130, 131, 132, 133, 134, 135, 136, 137, 138, 139, 140, 141, 142, 143, 144, 145, 146, 147, 148] rfl (by decide +kernel)
set_option maxRecDepth 20000 in
theorem gX12_doubt_X12_roadOf : GoodIn wsX12_doubt (wsV RX12 349 RX12 yX12_roadOf wsX12_roadOf) := goodIn_app (goodIn_of _ (by decide +kernel)) ggX12_doubt_X12_roadOf
set_option maxRecDepth 20000 in
theorem ggX12_doubt_X12_blame : GoodIn wsX12_doubt wsX12_blame := goodIn_r _ [14, 3, 15, 74, 75, 76, 77, 78, 79, 80, 81, 82, 83, 84, 85, 86, 87, 88, 89, 90, 91, 92, 93, 94, 95, 96, 97, 98, 99, 100, 101, 102, 103, 104, 105, 106, 107, 108, 109, 110, 111, 112, 113, 114, 115, 116, 117, 118, 119, 120, 121, 122, 123, 124, 125, 126, 127, 128, 129, 130, 131, 132, 133, 134, 135, 136, 137, 138, 139, 140, 141, 142, 143, 144, 145, 146, 147, 148] rfl (by decide +kernel)
set_option maxRecDepth 20000 in
theorem gX12_doubt_X12_blame : GoodIn wsX12_doubt (wsV RX12 251 RX12 yX12_blame wsX12_blame) := goodIn_app (goodIn_of _ (by decide +kernel)) ggX12_doubt_X12_blame
set_option maxRecDepth 20000 in
theorem ggX12_doubt_X12_number : GoodIn wsX12_doubt wsX12_number := goodIn_r _ [73, 3, 23, 4, 24, 11, 12, 13, 9, 14, 15, 16, 17, 18, 19, 20, 21, 22, 25, 26, 27, 28, 29, 30, 31, 74, 75, 76, 77, 78, 79, 80, 81, 82, 83, 84, 85, 86, 87, 88, 89, 90, 91, 92, 93, 94, 95, 96, 97, 98, 99, 100, 101, 102, 103, 104, 105, 106, 107, 108, 109, 110, 111, 112, 113, 114, 115, 116, 117, 118, 119, 120, 121, 122, 123, 124, 125, 126, 127, 128, 129, 130, 131, 132, 133, 134, 135, 136, 137, 138, 139, 140, 141, 142, 143, 144, 145, 146, 147, 148] rfl (by decide +kernel)
set_option maxRecDepth 20000 in
theorem gX12_doubt_X12_number : GoodIn wsX12_doubt (wsV RX12 345 RX12 yX12_number wsX12_number) := goodIn_app (goodIn_of _ (by decide +kernel)) ggX12_doubt_X12_number
theorem dX12_doubt_0 : decode cX12_doubt 0 = .ok (.aload_n 0, 1) := by decide +kernel
theorem dX12_doubt_1 : decode cX12_doubt 1 = .ok (.aload_n 0, 1) := by decide +kernel
theorem dX12_doubt_2 : decode cX12_doubt 2 = .ok (.getfield 60, 3) := by decide +kernel
theorem dX12_doubt_5 : decode cX12_doubt 5 = .ok (.aload_n 0, 1) := by decide +kernel
theorem dX12_doubt_6 : decode cX12_doubt 6 = .ok (.getfield 107, 3) := by decide +kernel
theorem dX12_doubt_9 : decode cX12_doubt 9 = .ok (.iaload, 1) := by decide +kernel
theorem dX12_doubt_10 : decode cX12_doubt 10 = .ok (.bipush 24, 2) := by decide +kernel
theorem dX12_doubt_12 : decode cX12_doubt 12 = .ok (.if_icmp .ne 7, 3) := by decide +kernel
theorem dX12_doubt_15 : decode cX12_doubt 15 = .ok (.iconst 1, 1) := by decide +kernel
theorem dX12_doubt_16 : decode cX12_doubt 16 = .ok (.goto 4, 3) := by decide +kernel
theorem dX12_doubt_19 : decode cX12_doubt 19 = .ok (.iconst 0, 1) := by decide +kernel
theorem dX12_doubt_20 : decode cX12_doubt 20 = .ok (.invokevirtual 338, 3) := by decide +kernel
theorem dX12_doubt_23 : decode cX12_doubt 23 = .ok (.aload_n 0, 1) := by decide +kernel
theorem dX12_doubt_24 : decode cX12_doubt 24 = .ok (.getfield 36, 3) := by decide +kernel
theorem dX12_doubt_27 : decode cX12_doubt 27 = .ok (.ifCond .le 4, 3) := by decide +kernel
theorem dX12_doubt_30 : decode cX12_doubt 30 = .ok (.return_, 1) := by decide +kernel
theorem dX12_doubt_31 : decode cX12_doubt 31 = .ok (.aload_n 0, 1) := by decide +kernel
theorem dX12_doubt_32 : decode cX12_doubt 32 = .ok (.iconst (-1), 1) := by decide +kernel
theorem dX12_doubt_33 : decode cX12_doubt 33 = .ok (.invokevirtual 325, 3) := by decide +kernel
theorem dX12_doubt_36 : decode cX12_doubt 36 = .ok (.istore_n 1, 1) := by decide +kernel
theorem dX12_doubt_37 : decode cX12_doubt 37 = .ok (.aload_n 0, 1) := by decide +kernel
theorem dX12_doubt_38 : decode cX12_doubt 38 = .ok (.getfield 36, 3) := by decide +kernel
theorem dX12_doubt_41 : decode cX12_doubt 41 = .ok (.ifCond .ne 7, 3) := by decide +kernel
theorem dX12_doubt_44 : decode cX12_doubt 44 = .ok (.aload_n 0, 1) := by decide +kernel
theorem dX12_doubt_45 : decode cX12_doubt 45 = .ok (.invokevirtual 258, 3) := by decide +kernel
theorem dX12_doubt_48 : decode cX12_doubt 48 = .ok (.aload_n 0, 1) := by decide +kernel
theorem dX12_doubt_49 : decode cX12_doubt 49 = .ok (.iload_n 1, 1) := by decide +kernel
theorem dX12_doubt_50 : decode cX12_doubt 50 = .ok (.invokevirtual 325, 3) := by decide +kernel
theorem dX12_doubt_53 : decode cX12_doubt 53 = .ok (.istore_n 2, 1) := by decide +kernel
theorem dX12_doubt_54 : decode cX12_doubt 54 = .ok (.aload_n 0, 1) := by decide +kernel
theorem dX12_doubt_55 : decode cX12_doubt 55 = .ok (.getfield 36, 3) := by decide +kernel
theorem dX12_doubt_58 : decode cX12_doubt 58 = .ok (.ifCond .le 7, 3) := by decide +kernel
theorem dX12_doubt_61 : decode cX12_doubt 61 = .ok (.iconst 0, 1) := by decide +kernel
theorem dX12_doubt_62 : decode cX12_doubt 62 = .ok (.goto 9, 3) := by decide +kernel
theorem dX12_doubt_65 : decode cX12_doubt 65 = .ok (.aload_n 0, 1) := by decide +kernel
theorem dX12_doubt_66 : decode cX12_doubt 66 = .ok (.iload_n 1, 1) := by decide +kernel
theorem dX12_doubt_67 : decode cX12_doubt 67 = .ok (.iload_n 2, 1) := by decide +kernel
theorem dX12_doubt_68 : decode cX12_doubt 68 = .ok (.invokevirtual 349, 3) := by decide +kernel
theorem dX12_doubt_71 : decode cX12_doubt 71 = .ok (.istore_n 3, 1) := by decide +kernel
theorem dX12_doubt_72 : decode cX12_doubt 72 = .ok (.aload_n 0, 1) := by decide +kernel
theorem dX12_doubt_73 : decode cX12_doubt 73 = .ok (.getfield 36, 3) := by decide +kernel
theorem dX12_doubt_76 : decode cX12_doubt 76 = .ok (.ifCond .ne 17, 3) := by decide +kernel
theorem dX12_doubt_79 : decode cX12_doubt 79 = .ok (.iload_n 3, 1) := by decide +kernel
theorem dX12_doubt_80 : decode cX12_doubt 80 = .ok (.iconst (-1), 1) := by decide +kernel
theorem dX12_doubt_81 : decode cX12_doubt 81 = .ok (.if_icmp .ne 12, 3) := by decide +kernel
theorem dX12_doubt_84 : decode cX12_doubt 84 = .ok (.aload_n 0, 1) := by decide +kernel
theorem dX12_doubt_85 : decode cX12_doubt 85 = .ok (.iconst 3, 1) := by decide +kernel
theorem dX12_doubt_86 : decode cX12_doubt 86 = .ok (.aload_n 0, 1) := by decide +kernel
theorem dX12_doubt_87 : decode cX12_doubt 87 = .ok (.getfield 23, 3) := by decide +kernel
theorem dX12_doubt_90 : decode cX12_doubt 90 = .ok (.invokevirtual 251, 3) := by decide +kernel
theorem dX12_doubt_93 : decode cX12_doubt 93 = .ok (.aload_n 0, 1) := by decide +kernel
theorem dX12_doubt_94 : decode cX12_doubt 94 = .ok (.getfield 36, 3) := by decide +kernel
theorem dX12_doubt_97 : decode cX12_doubt 97 = .ok (.ifCond .ne 7, 3) := by decide +kernel
theorem dX12_doubt_100 : decode cX12_doubt 100 = .ok (.aload_n 0, 1) := by decide +kernel
theorem dX12_doubt_101 : decode cX12_doubt 101 = .ok (.invokevirtual 258, 3) := by decide +kernel
theorem dX12_doubt_104 : decode cX12_doubt 104 = .ok (.aload_n 0, 1) := by decide +kernel
theorem dX12_doubt_105 : decode cX12_doubt 105 = .ok (.invokevirtual 345, 3) := by decide +kernel
theorem dX12_doubt_108 : decode cX12_doubt 108 = .ok (.istore 4, 2) := by decide +kernel
theorem dX12_doubt_110 : decode cX12_doubt 110 = .ok (.aload_n 0, 1) := by decide +kernel
theorem dX12_doubt_111 : decode cX12_doubt 111 = .ok (.getfield 36, 3) := by decide +kernel
theorem dX12_doubt_114 : decode cX12_doubt 114 = .ok (.ifCond .le 4, 3) := by decide +kernel
theorem dX12_doubt_117 : decode cX12_doubt 117 = .ok (.return_, 1) := by decide +kernel
theorem dX12_doubt_118 : decode cX12_doubt 118 = .ok (.aload_n 0, 1) := by decide +kernel
theorem dX12_doubt_119 : decode cX12_doubt 119 = .ok (.getfield 88, 3) := by decide +kernel
theorem dX12_doubt_122 : decode cX12_doubt 122 = .ok (.iload_n 3, 1) := by decide +kernel
theorem dX12_doubt_123 : decode cX12_doubt 123 = .ok (.iload 4, 2) := by decide +kernel
theorem dX12_doubt_125 : decode cX12_doubt 125 = .ok (.iastore, 1) := by decide +kernel
theorem dX12_doubt_126 : decode cX12_doubt 126 = .ok (.aload_n 0, 1) := by decide +kernel
theorem dX12_doubt_127 : decode cX12_doubt 127 = .ok (.getfield 60, 3) := by decide +kernel
theorem dX12_doubt_130 : decode cX12_doubt 130 = .ok (.aload_n 0, 1) := by decide +kernel
theorem dX12_doubt_131 : decode cX12_doubt 131 = .ok (.getfield 107, 3) := by decide +kernel
theorem dX12_doubt_134 : decode cX12_doubt 134 = .ok (.dup2, 1) := by decide +kernel
theorem dX12_doubt_135 : decode cX12_doubt 135 = .ok (.iaload, 1) := by decide +kernel
theorem dX12_doubt_136 : decode cX12_doubt 136 = .ok (.iconst 1, 1) := by decide +kernel
theorem dX12_doubt_137 : decode cX12_doubt 137 = .ok (.iadd, 1) := by decide +kernel
theorem dX12_doubt_138 : decode cX12_doubt 138 = .ok (.iastore, 1) := by decide +kernel
theorem dX12_doubt_139 : decode cX12_doubt 139 = .ok (.return_, 1) := by decide +kernel
set_option maxRecDepth 20000 in
theorem ggX12_statement_X12_isWord : GoodIn wsX12_statement wsX12_isWord := goodIn_r _ [11, 12, 13, 165, 166, 167, 168, 169, 170, 171, 172, 173, 174, 175, 176, 177, 178, 179, 180, 181, 182, 183, 184, 185, 186, 187, 188, 189, 190, 191, 192, 193, 194, 195, 196, 197, 198, 199, 200, 201, 202, 203, 204, 205, 206, 207, 208, 209, 210, 211, 212, 213, 214, 215, 216, 217, 218, 219, 220, 221, 222, 223, 224, 225, 226, 227, 228, 229, 230, 231, 232, 233, 234, 235, 236, 237, 238, 239] rfl (by decide +kernel)
set_option maxRecDepth 20000 in
theorem gX12_statement_X12_isWord : GoodIn wsX12_statement (wsV RX12 316 RX12 yX12_isWord wsX12_isWord) := goodIn_app (goodIn_of _ (by decide +kernel)) ggX12_statement_X12_isWord
set_option maxRecDepth 20000 in
theorem ggX12_statement_X12_who : GoodIn wsX12_statement wsX12_who := goodIn_r _ [17, 18, 19, 6, 12, 13, 5, 20, 21, 22, 23, 24, 25, 10, 26, 27, 28, 29, 30, 31, 32, 33, 34, 35, 36, 37, 38, 39, 40, 41, 42, 43, 44, 45, 46, 47, 48, 49, 1, 2, 50, 51, 3, 52, 4, 53, 54, 55, 56, 57, 58, 59, 60, 61, 62, 63, 64, 65, 66, 67, 68, 69, 7, 8, 9, 11, 70, 71, 72, 73, 165, 166, 167, 168, 169, 170, 171, 172, 173, 174, 175, 176, 177, 178, 179, 180, 181, 182, 183, 184, 185, 186, 187, 188, 189, 190, 191, 192, 193, 194, 195, 196, 197, 198, 199, 200, 201, 202, 203, 204, 205, 206, 207, 208, 209, 210, 211, 212, 213, 214, 215, 216, 217, 218, 219, 220, 221, 222, 223, 224, 225, 226, 227, 228, 229, 230, 231, 232, 233, 234, 235, 236, 237, 238, 239] rfl (by decide +kernel)
set_option maxRecDepth 20000 in
theorem gX12_statement_X12_who : GoodIn wsX12_statement (wsV RX12 356 RX12 yX12_who wsX12_who) := goodIn_app (goodIn_of _ (by decide +kernel)) ggX12_statement_X12_who
set_option maxRecDepth 20000 in
theorem ggX12_statement_X12_road : GoodIn wsX12_statement wsX12_road := goodIn_r _ [77, 78, 19, 6, 79, 80, 5, 50, 81, 82, 83, 84, 51, 85, 86, 23, 24, 25, 10, 26, 27, 28, 29, 30, 31, 32, 33, 34, 35, 36, 37, 38, 12, 39, 13, 40, 41, 42, 43, 44, 45, 87, 88, 89, 90, 46, 47, 48, 49, 1, 21, 2, 3, 52, 4, 53, 54, 55, 56, 57, 58, 59, 60, 61, 62, 63, 64, 65, 18, 20, 91, 92, 93, 94, 66, 67, 68, 69, 7, 8, 9, 11, 95, 96, 97, 98, 99, 100, 101, 102, 103, 104, 105, 106, 107, 108, 109, 110, 111, 112, 113, 114, 115, 116, 117, 118, 119, 120, 121, 122, 123, 124, 125, 126, 127, 128, 129, 130, 131, 132, 133, 134, 135, 136, 137, 138, 139, 140, 141, 142, 143, 144, 145, 146, 147, 148, 165, 166, 167, 168, 169, 170, 171, 172, 173, 174, 175, 176, 177, 178, 179, 180, 181, 182, 183, 184, 185, 186, 187, 188, 189, 190, 191, 192, 193, 194, 195, 196, 197, 198, 199, 200, 201, 202, 203, 204, 205, 206, 207, 208, 209, 210, 211, 212, 213, 214, 215, 216, 217, 218, 219, 220, 221, 222, 223, 224, 225, 226, 227, 228, 229, 230, 231, 232, 233, 234, 235, 236, 237, 238, 239] rfl (by decide +kernel)
set_option maxRecDepth 20000 in
theorem gX12_statement_X12_road : GoodIn wsX12_statement (wsV RX12 359 RX12 yX12_road wsX12_road) := goodIn_app (goodIn_of _ (by decide +kernel)) ggX12_statement_X12_road
set_option maxRecDepth 20000 in
theorem ggX12_statement_X12_taste : GoodIn wsX12_statement wsX12_taste := goodIn_r _ [152, 153, 19, 6, 154, 5, 52, 155, 23, 24, 25, 10, 26, 27, 28, 29, 30, 31, 32, 33, 34, 35, 36, 37, 38, 12, 39, 13, 40, 41, 42, 43, 44, 45, 87, 88, 89, 90, 46, 47, 48, 49, 1, 21, 2, 50, 51, 3, 4, 53, 54, 55, 56, 57, 58, 59, 60, 61, 62, 63, 64, 65, 18, 20, 7, 8, 9, 11, 70, 71, 72, 73, 165, 166, 167, 168, 169, 170, 171, 172, 173, 174, 175, 176, 177, 178, 179, 180, 181, 182, 183, 184, 185, 186, 187, 188, 189, 190, 191, 192, 193, 194, 195, 196, 197, 198, 199, 200, 201, 202, 203, 204, 205, 206, 207, 208, 209, 210, 211, 212, 213, 214, 215, 216, 217, 218, 219, 220, 221, 222, 223, 224, 225, 226, 227, 228, 229, 230, 231, 232, 233, 234, 235, 236, 237, 238, 239] rfl (by decide +kernel)
set_option maxRecDepth 20000 in
theorem gX12_statement_X12_taste : GoodIn wsX12_statement (wsV RX12 362 RX12 yX12_taste wsX12_taste) := goodIn_app (goodIn_of _ (by decide +kernel)) ggX12_statement_X12_taste
set_option maxRecDepth 20000 in
theorem ggX12_statement_X12_doubt : GoodIn wsX12_statement wsX12_doubt := goodIn_r _ [159, 160, 19, 6, 5, 86, 23, 24, 25, 10, 26, 27, 28, 29, 30, 31, 32, 33, 34, 35, 36, 37, 38, 12, 39, 13, 40, 41, 42, 43, 44, 45, 87, 88, 89, 90, 46, 47, 48, 49, 1, 21, 2, 50, 51, 3, 52, 4, 53, 54, 55, 56, 57, 58, 59, 60, 61, 62, 63, 64, 65, 18, 20, 91, 92, 93, 94, 78, 79, 80, 70, 71, 72, 73, 165, 166, 167, 168, 169, 170, 171, 172, 173, 174, 175, 176, 177, 178, 179, 180, 181, 182, 183, 184, 185, 186, 187, 188, 189, 190, 191, 192, 193, 194, 195, 196, 197, 198, 199, 200, 201, 202, 203, 204, 205, 206, 207, 208, 209, 210, 211, 212, 213, 214, 215, 216, 217, 218, 219, 220, 221, 222, 223, 224, 225, 226, 227, 228, 229, 230, 231, 232, 233, 234, 235, 236, 237, 238, 239] rfl (by decide +kernel)
set_option maxRecDepth 20000 in
theorem gX12_statement_X12_doubt : GoodIn wsX12_statement (wsV RX12 364 RX12 yX12_doubt wsX12_doubt) := goodIn_app (goodIn_of _ (by decide +kernel)) ggX12_statement_X12_doubt
set_option maxRecDepth 20000 in
theorem ggX12_statement_X12_blame : GoodIn wsX12_statement wsX12_blame := goodIn_r _ [30, 6, 31, 165, 166, 167, 168, 169, 170, 171, 172, 173, 174, 175, 176, 177, 178, 179, 180, 181, 182, 183, 184, 185, 186, 187, 188, 189, 190, 191, 192, 193, 194, 195, 196, 197, 198, 199, 200, 201, 202, 203, 204, 205, 206, 207, 208, 209, 210, 211, 212, 213, 214, 215, 216, 217, 218, 219, 220, 221, 222, 223, 224, 225, 226, 227, 228, 229, 230, 231, 232, 233, 234, 235, 236, 237, 238, 239] rfl (by decide +kernel)
set_option maxRecDepth 20000 in
theorem gX12_statement_X12_blame : GoodIn wsX12_statement (wsV RX12 251 RX12 yX12_blame wsX12_blame) := goodIn_app (goodIn_of _ (by decide +kernel)) ggX12_statement_X12_blame
set_option maxRecDepth 20000 in
theorem ggX12_statement_X12_must : GoodIn wsX12_statement wsX12_must := goodIn_r _ [164, 5, 6, 124, 125, 126, 10, 127, 12, 39, 27, 28, 29, 30, 31, 32, 33, 34, 35, 36, 37, 38, 13, 40, 41, 42, 43, 44, 45, 165, 166, 167, 168, 169, 170, 171, 172, 173, 174, 175, 176, 177, 178, 179, 180, 181, 182, 183, 184, 185, 186, 187, 188, 189, 190, 191, 192, 193, 194, 195, 196, 197, 198, 199, 200, 201, 202, 203, 204, 205, 206, 207, 208, 209, 210, 211, 212, 213, 214, 215, 216, 217, 218, 219, 220, 221, 222, 223, 224, 225, 226, 227, 228, 229, 230, 231, 232, 233, 234, 235, 236, 237, 238, 239] rfl (by decide +kernel)
set_option maxRecDepth 20000 in
theorem gX12_statement_X12_must : GoodIn wsX12_statement (wsV RX12 366 RX12 yX12_must wsX12_must) := goodIn_app (goodIn_of _ (by decide +kernel)) ggX12_statement_X12_must
theorem dX12_statement_0 : decode cX12_statement 0 = .ok (.aload_n 0, 1) := by decide +kernel
theorem dX12_statement_1 : decode cX12_statement 1 = .ok (.ldc2_w 261, 3) := by decide +kernel
theorem dX12_statement_4 : decode cX12_statement 4 = .ok (.invokevirtual 316, 3) := by decide +kernel
theorem dX12_statement_7 : decode cX12_statement 7 = .ok (.ifCond .eq 10, 3) := by decide +kernel
theorem dX12_statement_10 : decode cX12_statement 10 = .ok (.aload_n 0, 1) := by decide +kernel
theorem dX12_statement_11 : decode cX12_statement 11 = .ok (.invokevirtual 356, 3) := by decide +kernel
theorem dX12_statement_14 : decode cX12_statement 14 = .ok (.goto 63, 3) := by decide +kernel
theorem dX12_statement_17 : decode cX12_statement 17 = .ok (.aload_n 0, 1) := by decide +kernel
theorem dX12_statement_18 : decode cX12_statement 18 = .ok (.ldc2_w 265, 3) := by decide +kernel
theorem dX12_statement_21 : decode cX12_statement 21 = .ok (.invokevirtual 316, 3) := by decide +kernel
theorem dX12_statement_24 : decode cX12_statement 24 = .ok (.ifCond .eq 10, 3) := by decide +kernel
theorem dX12_statement_27 : decode cX12_statement 27 = .ok (.aload_n 0, 1) := by decide +kernel
theorem dX12_statement_28 : decode cX12_statement 28 = .ok (.invokevirtual 359, 3) := by decide +kernel
theorem dX12_statement_31 : decode cX12_statement 31 = .ok (.goto 46, 3) := by decide +kernel
theorem dX12_statement_34 : decode cX12_statement 34 = .ok (.aload_n 0, 1) := by decide +kernel
theorem dX12_statement_35 : decode cX12_statement 35 = .ok (.ldc2_w 271, 3) := by decide +kernel
theorem dX12_statement_38 : decode cX12_statement 38 = .ok (.invokevirtual 316, 3) := by decide +kernel
theorem dX12_statement_41 : decode cX12_statement 41 = .ok (.ifCond .eq 10, 3) := by decide +kernel
theorem dX12_statement_44 : decode cX12_statement 44 = .ok (.aload_n 0, 1) := by decide +kernel
theorem dX12_statement_45 : decode cX12_statement 45 = .ok (.invokevirtual 362, 3) := by decide +kernel
theorem dX12_statement_48 : decode cX12_statement 48 = .ok (.goto 29, 3) := by decide +kernel
theorem dX12_statement_51 : decode cX12_statement 51 = .ok (.aload_n 0, 1) := by decide +kernel
theorem dX12_statement_52 : decode cX12_statement 52 = .ok (.ldc2_w 275, 3) := by decide +kernel
theorem dX12_statement_55 : decode cX12_statement 55 = .ok (.invokevirtual 316, 3) := by decide +kernel
theorem dX12_statement_58 : decode cX12_statement 58 = .ok (.ifCond .eq 10, 3) := by decide +kernel
theorem dX12_statement_61 : decode cX12_statement 61 = .ok (.aload_n 0, 1) := by decide +kernel
theorem dX12_statement_62 : decode cX12_statement 62 = .ok (.invokevirtual 364, 3) := by decide +kernel
theorem dX12_statement_65 : decode cX12_statement 65 = .ok (.goto 12, 3) := by decide +kernel
theorem dX12_statement_68 : decode cX12_statement 68 = .ok (.aload_n 0, 1) := by decide +kernel
theorem dX12_statement_69 : decode cX12_statement 69 = .ok (.iconst 1, 1) := by decide +kernel
theorem dX12_statement_70 : decode cX12_statement 70 = .ok (.aload_n 0, 1) := by decide +kernel
theorem dX12_statement_71 : decode cX12_statement 71 = .ok (.getfield 23, 3) := by decide +kernel
theorem dX12_statement_74 : decode cX12_statement 74 = .ok (.invokevirtual 251, 3) := by decide +kernel
theorem dX12_statement_77 : decode cX12_statement 77 = .ok (.aload_n 0, 1) := by decide +kernel
theorem dX12_statement_78 : decode cX12_statement 78 = .ok (.getfield 36, 3) := by decide +kernel
theorem dX12_statement_81 : decode cX12_statement 81 = .ok (.ifCond .ne 9, 3) := by decide +kernel
theorem dX12_statement_84 : decode cX12_statement 84 = .ok (.aload_n 0, 1) := by decide +kernel
theorem dX12_statement_85 : decode cX12_statement 85 = .ok (.bipush 59, 2) := by decide +kernel
theorem dX12_statement_87 : decode cX12_statement 87 = .ok (.invokevirtual 366, 3) := by decide +kernel
theorem dX12_statement_90 : decode cX12_statement 90 = .ok (.return_, 1) := by decide +kernel
set_option maxRecDepth 20000 in
theorem ggX12_text_X12_next : GoodIn wsX12_text wsX12_next := goodIn_r _ [25, 3, 2, 26, 27, 15, 28, 29, 30, 31, 24, 32, 33, 34, 35, 36, 37, 38, 39, 4, 5, 176, 177, 178, 179, 180, 181, 182, 183, 184, 185, 186, 187, 188, 189, 190, 191, 192, 193, 194, 195, 196, 197, 198, 199, 200, 201, 202, 203, 204, 205, 206, 207, 208, 209, 210, 211, 212, 213, 214, 215, 216, 217, 218, 219, 220, 221, 222, 223, 224, 225, 226, 227, 228, 229, 230, 231, 232, 233, 234, 235, 236, 237, 238, 239, 240, 241, 242, 243, 244, 245, 246, 247, 248, 249, 250] rfl (by decide +kernel)
set_option maxRecDepth 20000 in
theorem gX12_text_X12_next : GoodIn wsX12_text (wsV RX12 258 RX12 yX12_next wsX12_next) := goodIn_app (goodIn_of _ (by decide +kernel)) ggX12_text_X12_next
set_option maxRecDepth 20000 in
theorem ggX12_text_X12_statement : GoodIn wsX12_text wsX12_statement := goodIn_r _ [43, 44, 45, 46, 47, 27, 4, 48, 49, 50, 24, 51, 15, 29, 52, 53, 54, 55, 8, 7, 56, 57, 58, 59, 60, 61, 62, 36, 37, 38, 39, 5, 21, 22, 23, 25, 3, 2, 26, 28, 30, 31, 32, 33, 34, 35, 63, 64, 65, 66, 67, 68, 69, 70, 71, 72, 73, 74, 75, 76, 77, 78, 79, 80, 81, 82, 83, 84, 85, 86, 87, 88, 89, 90, 91, 92, 93, 94, 9, 95, 96, 97, 12, 98, 99, 100, 101, 102, 103, 104, 105, 106, 107, 108, 109, 110, 111, 112, 113, 114, 115, 116, 117, 118, 119, 120, 121, 122, 123, 124, 125, 126, 127, 128, 129, 130, 131, 132, 133, 134, 135, 136, 137, 138, 139, 140, 141, 142, 143, 144, 145, 146, 147, 148, 149, 150, 151, 152, 153, 154, 155, 156, 157, 158, 159, 160, 161, 162, 163, 164, 165, 166, 167, 10, 14, 13, 168, 169, 170, 171, 11, 172, 173, 174, 175, 176, 177, 178, 179, 180, 181, 182, 183, 184, 185, 186, 187, 188, 189, 190, 191, 192, 193, 194, 195, 196, 197, 198, 199, 200, 201, 202, 203, 204, 205, 206, 207, 208, 209, 210, 211, 212, 213, 214, 215, 216, 217, 218, 219, 220, 221, 222, 223, 224, 225, 226, 227, 228, 229, 230, 231, 232, 233, 234, 235, 236, 237, 238, 239, 240, 241, 242, 243, 244, 245, 246, 247, 248, 249, 250] rfl (by decide +kernel)
set_option maxRecDepth 20000 in
theorem gX12_text_X12_statement : GoodIn wsX12_text (wsV RX12 368 RX12 yX12_statement wsX12_statement) := goodIn_app (goodIn_of _ (by decide +kernel)) ggX12_text_X12_statement
theorem dX12_text_0 : decode cX12_text 0 = .ok (.aload_n 0, 1) := by decide +kernel
theorem dX12_text_1 : decode cX12_text 1 = .ok (.aload_n 0, 1) := by decide +kernel
theorem dX12_text_2 : decode cX12_text 2 = .ok (.getfield 13, 3) := by decide +kernel
theorem dX12_text_5 : decode cX12_text 5 = .ok (.putfield 17, 3) := by decide +kernel
theorem dX12_text_8 : decode cX12_text 8 = .ok (.aload_n 0, 1) := by decide +kernel
theorem dX12_text_9 : decode cX12_text 9 = .ok (.iconst 0, 1) := by decide +kernel
theorem dX12_text_10 : decode cX12_text 10 = .ok (.putfield 13, 3) := by decide +kernel
theorem dX12_text_13 : decode cX12_text 13 = .ok (.aload_n 0, 1) := by decide +kernel
theorem dX12_text_14 : decode cX12_text 14 = .ok (.iconst 0, 1) := by decide +kernel
theorem dX12_text_15 : decode cX12_text 15 = .ok (.putfield 26, 3) := by decide +kernel
theorem dX12_text_18 : decode cX12_text 18 = .ok (.aload_n 0, 1) := by decide +kernel
theorem dX12_text_19 : decode cX12_text 19 = .ok (.iconst 0, 1) := by decide +kernel
theorem dX12_text_20 : decode cX12_text 20 = .ok (.putfield 36, 3) := by decide +kernel
theorem dX12_text_23 : decode cX12_text 23 = .ok (.aload_n 0, 1) := by decide +kernel
theorem dX12_text_24 : decode cX12_text 24 = .ok (.iconst (-1), 1) := by decide +kernel
theorem dX12_text_25 : decode cX12_text 25 = .ok (.putfield 39, 3) := by decide +kernel
theorem dX12_text_28 : decode cX12_text 28 = .ok (.aload_n 0, 1) := by decide +kernel
theorem dX12_text_29 : decode cX12_text 29 = .ok (.iconst 1, 1) := by decide +kernel
theorem dX12_text_30 : decode cX12_text 30 = .ok (.aload_n 0, 1) := by decide +kernel
theorem dX12_text_31 : decode cX12_text 31 = .ok (.getfield 48, 3) := by decide +kernel
theorem dX12_text_34 : decode cX12_text 34 = .ok (.isub, 1) := by decide +kernel
theorem dX12_text_35 : decode cX12_text 35 = .ok (.putfield 107, 3) := by decide +kernel
theorem dX12_text_38 : decode cX12_text 38 = .ok (.aload_n 0, 1) := by decide +kernel
theorem dX12_text_39 : decode cX12_text 39 = .ok (.getfield 51, 3) := by decide +kernel
theorem dX12_text_42 : decode cX12_text 42 = .ok (.aload_n 0, 1) := by decide +kernel
theorem dX12_text_43 : decode cX12_text 43 = .ok (.getfield 107, 3) := by decide +kernel
theorem dX12_text_46 : decode cX12_text 46 = .ok (.iconst 0, 1) := by decide +kernel
theorem dX12_text_47 : decode cX12_text 47 = .ok (.iastore, 1) := by decide +kernel
theorem dX12_text_48 : decode cX12_text 48 = .ok (.aload_n 0, 1) := by decide +kernel
theorem dX12_text_49 : decode cX12_text 49 = .ok (.getfield 54, 3) := by decide +kernel
theorem dX12_text_52 : decode cX12_text 52 = .ok (.aload_n 0, 1) := by decide +kernel
theorem dX12_text_53 : decode cX12_text 53 = .ok (.getfield 107, 3) := by decide +kernel
theorem dX12_text_56 : decode cX12_text 56 = .ok (.iconst 0, 1) := by decide +kernel
theorem dX12_text_57 : decode cX12_text 57 = .ok (.iastore, 1) := by decide +kernel
theorem dX12_text_58 : decode cX12_text 58 = .ok (.aload_n 0, 1) := by decide +kernel
theorem dX12_text_59 : decode cX12_text 59 = .ok (.getfield 57, 3) := by decide +kernel
theorem dX12_text_62 : decode cX12_text 62 = .ok (.aload_n 0, 1) := by decide +kernel
theorem dX12_text_63 : decode cX12_text 63 = .ok (.getfield 107, 3) := by decide +kernel
theorem dX12_text_66 : decode cX12_text 66 = .ok (.iconst 0, 1) := by decide +kernel
theorem dX12_text_67 : decode cX12_text 67 = .ok (.iastore, 1) := by decide +kernel
theorem dX12_text_68 : decode cX12_text 68 = .ok (.aload_n 0, 1) := by decide +kernel
theorem dX12_text_69 : decode cX12_text 69 = .ok (.getfield 60, 3) := by decide +kernel
theorem dX12_text_72 : decode cX12_text 72 = .ok (.aload_n 0, 1) := by decide +kernel
theorem dX12_text_73 : decode cX12_text 73 = .ok (.getfield 107, 3) := by decide +kernel
theorem dX12_text_76 : decode cX12_text 76 = .ok (.iconst 0, 1) := by decide +kernel
theorem dX12_text_77 : decode cX12_text 77 = .ok (.iastore, 1) := by decide +kernel
theorem dX12_text_78 : decode cX12_text 78 = .ok (.aload_n 0, 1) := by decide +kernel
theorem dX12_text_79 : decode cX12_text 79 = .ok (.iconst 0, 1) := by decide +kernel
theorem dX12_text_80 : decode cX12_text 80 = .ok (.putfield 104, 3) := by decide +kernel
theorem dX12_text_83 : decode cX12_text 83 = .ok (.sipush 144, 3) := by decide +kernel
theorem dX12_text_86 : decode cX12_text 86 = .ok (.aload_n 0, 1) := by decide +kernel
theorem dX12_text_87 : decode cX12_text 87 = .ok (.getfield 107, 3) := by decide +kernel
theorem dX12_text_90 : decode cX12_text 90 = .ok (.imul, 1) := by decide +kernel
theorem dX12_text_91 : decode cX12_text 91 = .ok (.istore_n 1, 1) := by decide +kernel
theorem dX12_text_92 : decode cX12_text 92 = .ok (.iload_n 1, 1) := by decide +kernel
theorem dX12_text_93 : decode cX12_text 93 = .ok (.sipush 144, 3) := by decide +kernel
theorem dX12_text_96 : decode cX12_text 96 = .ok (.aload_n 0, 1) := by decide +kernel
theorem dX12_text_97 : decode cX12_text 97 = .ok (.getfield 107, 3) := by decide +kernel
theorem dX12_text_100 : decode cX12_text 100 = .ok (.imul, 1) := by decide +kernel
theorem dX12_text_101 : decode cX12_text 101 = .ok (.sipush 144, 3) := by decide +kernel
theorem dX12_text_104 : decode cX12_text 104 = .ok (.iadd, 1) := by decide +kernel
theorem dX12_text_105 : decode cX12_text 105 = .ok (.if_icmp .ge 23, 3) := by decide +kernel
theorem dX12_text_108 : decode cX12_text 108 = .ok (.aload_n 0, 1) := by decide +kernel
theorem dX12_text_109 : decode cX12_text 109 = .ok (.getfield 91, 3) := by decide +kernel
theorem dX12_text_112 : decode cX12_text 112 = .ok (.iload_n 1, 1) := by decide +kernel
theorem dX12_text_113 : decode cX12_text 113 = .ok (.iconst 0, 1) := by decide +kernel
theorem dX12_text_114 : decode cX12_text 114 = .ok (.iastore, 1) := by decide +kernel
theorem dX12_text_115 : decode cX12_text 115 = .ok (.aload_n 0, 1) := by decide +kernel
theorem dX12_text_116 : decode cX12_text 116 = .ok (.getfield 94, 3) := by decide +kernel
theorem dX12_text_119 : decode cX12_text 119 = .ok (.iload_n 1, 1) := by decide +kernel
theorem dX12_text_120 : decode cX12_text 120 = .ok (.iconst 0, 1) := by decide +kernel
theorem dX12_text_121 : decode cX12_text 121 = .ok (.bastore, 1) := by decide +kernel
theorem dX12_text_122 : decode cX12_text 122 = .ok (.iinc 1 1, 3) := by decide +kernel
theorem dX12_text_125 : decode cX12_text 125 = .ok (.goto (-33), 3) := by decide +kernel
theorem dX12_text_128 : decode cX12_text 128 = .ok (.iconst 0, 1) := by decide +kernel
theorem dX12_text_129 : decode cX12_text 129 = .ok (.istore_n 1, 1) := by decide +kernel
theorem dX12_text_130 : decode cX12_text 130 = .ok (.aload_n 0, 1) := by decide +kernel
theorem dX12_text_131 : decode cX12_text 131 = .ok (.invokevirtual 258, 3) := by decide +kernel
theorem dX12_text_134 : decode cX12_text 134 = .ok (.aload_n 0, 1) := by decide +kernel
theorem dX12_text_135 : decode cX12_text 135 = .ok (.getfield 36, 3) := by decide +kernel
theorem dX12_text_138 : decode cX12_text 138 = .ok (.ifCond .ne 20, 3) := by decide +kernel
theorem dX12_text_141 : decode cX12_text 141 = .ok (.aload_n 0, 1) := by decide +kernel
theorem dX12_text_142 : decode cX12_text 142 = .ok (.getfield 20, 3) := by decide +kernel
theorem dX12_text_145 : decode cX12_text 145 = .ok (.ifCond .eq 13, 3) := by decide +kernel
theorem dX12_text_148 : decode cX12_text 148 = .ok (.aload_n 0, 1) := by decide +kernel
theorem dX12_text_149 : decode cX12_text 149 = .ok (.invokevirtual 368, 3) := by decide +kernel
theorem dX12_text_152 : decode cX12_text 152 = .ok (.iinc 1 1, 3) := by decide +kernel
theorem dX12_text_155 : decode cX12_text 155 = .ok (.goto (-21), 3) := by decide +kernel
theorem dX12_text_158 : decode cX12_text 158 = .ok (.aload_n 0, 1) := by decide +kernel
theorem dX12_text_159 : decode cX12_text 159 = .ok (.aload_n 0, 1) := by decide +kernel
theorem dX12_text_160 : decode cX12_text 160 = .ok (.getfield 36, 3) := by decide +kernel
theorem dX12_text_163 : decode cX12_text 163 = .ok (.putfield 42, 3) := by decide +kernel
theorem dX12_text_166 : decode cX12_text 166 = .ok (.aload_n 0, 1) := by decide +kernel
theorem dX12_text_167 : decode cX12_text 167 = .ok (.aload_n 0, 1) := by decide +kernel
theorem dX12_text_168 : decode cX12_text 168 = .ok (.getfield 39, 3) := by decide +kernel
theorem dX12_text_171 : decode cX12_text 171 = .ok (.putfield 45, 3) := by decide +kernel
theorem dX12_text_174 : decode cX12_text 174 = .ok (.aload_n 0, 1) := by decide +kernel
theorem dX12_text_175 : decode cX12_text 175 = .ok (.getfield 36, 3) := by decide +kernel
theorem dX12_text_178 : decode cX12_text 178 = .ok (.ifCond .le 5, 3) := by decide +kernel
theorem dX12_text_181 : decode cX12_text 181 = .ok (.iconst (-1), 1) := by decide +kernel
theorem dX12_text_182 : decode cX12_text 182 = .ok (.ireturn, 1) := by decide +kernel
theorem dX12_text_183 : decode cX12_text 183 = .ok (.aload_n 0, 1) := by decide +kernel
theorem dX12_text_184 : decode cX12_text 184 = .ok (.aload_n 0, 1) := by decide +kernel
theorem dX12_text_185 : decode cX12_text 185 = .ok (.getfield 107, 3) := by decide +kernel
theorem dX12_text_188 : decode cX12_text 188 = .ok (.putfield 48, 3) := by decide +kernel
theorem dX12_text_191 : decode cX12_text 191 = .ok (.aload_n 0, 1) := by decide +kernel
theorem dX12_text_192 : decode cX12_text 192 = .ok (.iconst 0, 1) := by decide +kernel
theorem dX12_text_193 : decode cX12_text 193 = .ok (.putfield 144, 3) := by decide +kernel
theorem dX12_text_196 : decode cX12_text 196 = .ok (.aload_n 0, 1) := by decide +kernel
theorem dX12_text_197 : decode cX12_text 197 = .ok (.iconst (-1), 1) := by decide +kernel
theorem dX12_text_198 : decode cX12_text 198 = .ok (.putfield 147, 3) := by decide +kernel
theorem dX12_text_201 : decode cX12_text 201 = .ok (.iconst 0, 1) := by decide +kernel
theorem dX12_text_202 : decode cX12_text 202 = .ok (.istore_n 2, 1) := by decide +kernel
theorem dX12_text_203 : decode cX12_text 203 = .ok (.iload_n 2, 1) := by decide +kernel
theorem dX12_text_204 : decode cX12_text 204 = .ok (.bipush 30, 2) := by decide +kernel
theorem dX12_text_206 : decode cX12_text 206 = .ok (.if_icmp .ge 16, 3) := by decide +kernel
theorem dX12_text_209 : decode cX12_text 209 = .ok (.aload_n 0, 1) := by decide +kernel
theorem dX12_text_210 : decode cX12_text 210 = .ok (.getfield 204, 3) := by decide +kernel
theorem dX12_text_213 : decode cX12_text 213 = .ok (.iload_n 2, 1) := by decide +kernel
theorem dX12_text_214 : decode cX12_text 214 = .ok (.iconst 0, 1) := by decide +kernel
theorem dX12_text_215 : decode cX12_text 215 = .ok (.bastore, 1) := by decide +kernel
theorem dX12_text_216 : decode cX12_text 216 = .ok (.iinc 2 1, 3) := by decide +kernel
theorem dX12_text_219 : decode cX12_text 219 = .ok (.goto (-16), 3) := by decide +kernel
theorem dX12_text_222 : decode cX12_text 222 = .ok (.iload_n 1, 1) := by decide +kernel
theorem dX12_text_223 : decode cX12_text 223 = .ok (.ireturn, 1) := by decide +kernel
theorem dX12_fault_0 : decode cX12_fault 0 = .ok (.iload_n 1, 1) := by decide +kernel
theorem dX12_fault_1 : decode cX12_fault 1 = .ok (.ifCond .ne 10, 3) := by decide +kernel
theorem dX12_fault_4 : decode cX12_fault 4 = .ok (.aload_n 0, 1) := by decide +kernel
theorem dX12_fault_5 : decode cX12_fault 5 = .ok (.getfield 42, 3) := by decide +kernel
theorem dX12_fault_8 : decode cX12_fault 8 = .ok (.goto 16, 3) := by decide +kernel
theorem dX12_fault_11 : decode cX12_fault 11 = .ok (.iload_n 1, 1) := by decide +kernel
theorem dX12_fault_12 : decode cX12_fault 12 = .ok (.iconst 1, 1) := by decide +kernel
theorem dX12_fault_13 : decode cX12_fault 13 = .ok (.if_icmp .ne 10, 3) := by decide +kernel
theorem dX12_fault_16 : decode cX12_fault 16 = .ok (.aload_n 0, 1) := by decide +kernel
theorem dX12_fault_17 : decode cX12_fault 17 = .ok (.getfield 45, 3) := by decide +kernel
theorem dX12_fault_20 : decode cX12_fault 20 = .ok (.goto 4, 3) := by decide +kernel
theorem dX12_fault_23 : decode cX12_fault 23 = .ok (.iconst (-1), 1) := by decide +kernel
theorem dX12_fault_24 : decode cX12_fault 24 = .ok (.ireturn, 1) := by decide +kernel
set_option maxRecDepth 20000 in
theorem ggX12_has_X12_now : GoodIn wsX12_has wsX12_now := goodIn_r _ [12, 13, 6, 19, 20, 21, 22, 23, 24, 25, 26, 27, 28, 29, 30, 31, 32, 33, 34, 35, 36, 37, 38, 39, 40, 41, 42, 43, 44, 45, 46, 47, 48, 49, 50, 51, 52, 53, 54, 55, 56, 57, 58, 59, 60, 61, 62, 63, 64, 65, 66, 67, 68, 69, 70, 71, 72, 73, 74, 75, 76, 77, 78, 79, 80, 81, 82, 83, 84, 85, 86, 87, 88, 89, 90, 91, 92, 93] rfl (by decide +kernel)
set_option maxRecDepth 20000 in
theorem gX12_has_X12_now : GoodIn wsX12_has (wsV RX12 371 RX12 yX12_now wsX12_now) := goodIn_app (goodIn_of _ (by decide +kernel)) ggX12_has_X12_now
set_option maxRecDepth 20000 in
theorem ggX12_has_X12_deals : GoodIn wsX12_has wsX12_deals := goodIn_r _ [17, 3, 2, 18, 19, 20, 21, 22, 23, 24, 25, 26, 27, 28, 29, 30, 31, 32, 33, 34, 35, 36, 37, 38, 39, 40, 41, 42, 43, 44, 45, 46, 47, 48, 49, 50, 51, 52, 53, 54, 55, 56, 57, 58, 59, 60, 61, 62, 63, 64, 65, 66, 67, 68, 69, 70, 71, 72, 73, 74, 75, 76, 77, 78, 79, 80, 81, 82, 83, 84, 85, 86, 87, 88, 89, 90, 91, 92, 93] rfl (by decide +kernel)
set_option maxRecDepth 20000 in
theorem gX12_has_X12_deals : GoodIn wsX12_has (wsV RX12 374 RX12 yX12_deals wsX12_deals) := goodIn_app (goodIn_of _ (by decide +kernel)) ggX12_has_X12_deals
theorem dX12_has_0 : decode cX12_has 0 = .ok (.iload_n 1, 1) := by decide +kernel
theorem dX12_has_1 : decode cX12_has 1 = .ok (.tableswitch 107 0 7 #[47, 57, 67, 77, 87, 92, 97, 102], 47) := by decide +kernel
theorem dX12_has_48 : decode cX12_has 48 = .ok (.aload_n 0, 1) := by decide +kernel
theorem dX12_has_49 : decode cX12_has 49 = .ok (.getfield 51, 3) := by decide +kernel
theorem dX12_has_52 : decode cX12_has 52 = .ok (.aload_n 0, 1) := by decide +kernel
theorem dX12_has_53 : decode cX12_has 53 = .ok (.getfield 48, 3) := by decide +kernel
theorem dX12_has_56 : decode cX12_has 56 = .ok (.iaload, 1) := by decide +kernel
theorem dX12_has_57 : decode cX12_has 57 = .ok (.ireturn, 1) := by decide +kernel
theorem dX12_has_58 : decode cX12_has 58 = .ok (.aload_n 0, 1) := by decide +kernel
theorem dX12_has_59 : decode cX12_has 59 = .ok (.getfield 54, 3) := by decide +kernel
theorem dX12_has_62 : decode cX12_has 62 = .ok (.aload_n 0, 1) := by decide +kernel
theorem dX12_has_63 : decode cX12_has 63 = .ok (.getfield 48, 3) := by decide +kernel
theorem dX12_has_66 : decode cX12_has 66 = .ok (.iaload, 1) := by decide +kernel
theorem dX12_has_67 : decode cX12_has 67 = .ok (.ireturn, 1) := by decide +kernel
theorem dX12_has_68 : decode cX12_has 68 = .ok (.aload_n 0, 1) := by decide +kernel
theorem dX12_has_69 : decode cX12_has 69 = .ok (.getfield 57, 3) := by decide +kernel
theorem dX12_has_72 : decode cX12_has 72 = .ok (.aload_n 0, 1) := by decide +kernel
theorem dX12_has_73 : decode cX12_has 73 = .ok (.getfield 48, 3) := by decide +kernel
theorem dX12_has_76 : decode cX12_has 76 = .ok (.iaload, 1) := by decide +kernel
theorem dX12_has_77 : decode cX12_has 77 = .ok (.ireturn, 1) := by decide +kernel
theorem dX12_has_78 : decode cX12_has 78 = .ok (.aload_n 0, 1) := by decide +kernel
theorem dX12_has_79 : decode cX12_has 79 = .ok (.getfield 60, 3) := by decide +kernel
theorem dX12_has_82 : decode cX12_has 82 = .ok (.aload_n 0, 1) := by decide +kernel
theorem dX12_has_83 : decode cX12_has 83 = .ok (.getfield 48, 3) := by decide +kernel
theorem dX12_has_86 : decode cX12_has 86 = .ok (.iaload, 1) := by decide +kernel
theorem dX12_has_87 : decode cX12_has 87 = .ok (.ireturn, 1) := by decide +kernel
theorem dX12_has_88 : decode cX12_has 88 = .ok (.aload_n 0, 1) := by decide +kernel
theorem dX12_has_89 : decode cX12_has 89 = .ok (.getfield 144, 3) := by decide +kernel
theorem dX12_has_92 : decode cX12_has 92 = .ok (.ireturn, 1) := by decide +kernel
theorem dX12_has_93 : decode cX12_has 93 = .ok (.aload_n 0, 1) := by decide +kernel
theorem dX12_has_94 : decode cX12_has 94 = .ok (.invokevirtual 371, 3) := by decide +kernel
theorem dX12_has_97 : decode cX12_has 97 = .ok (.ireturn, 1) := by decide +kernel
theorem dX12_has_98 : decode cX12_has 98 = .ok (.aload_n 0, 1) := by decide +kernel
theorem dX12_has_99 : decode cX12_has 99 = .ok (.invokevirtual 374, 3) := by decide +kernel
theorem dX12_has_102 : decode cX12_has 102 = .ok (.ireturn, 1) := by decide +kernel
theorem dX12_has_103 : decode cX12_has 103 = .ok (.aload_n 0, 1) := by decide +kernel
theorem dX12_has_104 : decode cX12_has 104 = .ok (.getfield 141, 3) := by decide +kernel
theorem dX12_has_107 : decode cX12_has 107 = .ok (.ireturn, 1) := by decide +kernel
theorem dX12_has_108 : decode cX12_has 108 = .ok (.iconst (-1), 1) := by decide +kernel
theorem dX12_has_109 : decode cX12_has 109 = .ok (.ireturn, 1) := by decide +kernel
set_option maxRecDepth 20000 in
theorem ggX12_isWho_X12_is : GoodIn wsX12_isWho wsX12_is := goodIn_r _ [6] (by decide +kernel) (by decide +kernel)
set_option maxRecDepth 20000 in
theorem gX12_isWho_X12_is : GoodIn wsX12_isWho (va_wsS RX12 377 yX12_is wsX12_is) := goodIn_app (goodIn_of _ (by decide +kernel)) ggX12_isWho_X12_is
theorem dX12_isWho_0 : decode cX12_isWho 0 = .ok (.iload_n 1, 1) := by decide +kernel
theorem dX12_isWho_1 : decode cX12_isWho 1 = .ok (.iconst 0, 1) := by decide +kernel
theorem dX12_isWho_2 : decode cX12_isWho 2 = .ok (.aload_n 0, 1) := by decide +kernel
theorem dX12_isWho_3 : decode cX12_isWho 3 = .ok (.getfield 51, 3) := by decide +kernel
theorem dX12_isWho_6 : decode cX12_isWho 6 = .ok (.aload_n 0, 1) := by decide +kernel
theorem dX12_isWho_7 : decode cX12_isWho 7 = .ok (.getfield 48, 3) := by decide +kernel
theorem dX12_isWho_10 : decode cX12_isWho 10 = .ok (.iaload, 1) := by decide +kernel
theorem dX12_isWho_11 : decode cX12_isWho 11 = .ok (.iconst 1, 1) := by decide +kernel
theorem dX12_isWho_12 : decode cX12_isWho 12 = .ok (.isub, 1) := by decide +kernel
theorem dX12_isWho_13 : decode cX12_isWho 13 = .ok (.invokestatic 377, 3) := by decide +kernel
theorem dX12_isWho_16 : decode cX12_isWho 16 = .ok (.ireturn, 1) := by decide +kernel
set_option maxRecDepth 20000 in
theorem ggX12_isRoad_X12_is : GoodIn wsX12_isRoad wsX12_is := goodIn_r _ [6] (by decide +kernel) (by decide +kernel)
set_option maxRecDepth 20000 in
theorem gX12_isRoad_X12_is : GoodIn wsX12_isRoad (va_wsS RX12 377 yX12_is wsX12_is) := goodIn_app (goodIn_of _ (by decide +kernel)) ggX12_isRoad_X12_is
theorem dX12_isRoad_0 : decode cX12_isRoad 0 = .ok (.iload_n 1, 1) := by decide +kernel
theorem dX12_isRoad_1 : decode cX12_isRoad 1 = .ok (.iconst 0, 1) := by decide +kernel
theorem dX12_isRoad_2 : decode cX12_isRoad 2 = .ok (.aload_n 0, 1) := by decide +kernel
theorem dX12_isRoad_3 : decode cX12_isRoad 3 = .ok (.getfield 54, 3) := by decide +kernel
theorem dX12_isRoad_6 : decode cX12_isRoad 6 = .ok (.aload_n 0, 1) := by decide +kernel
theorem dX12_isRoad_7 : decode cX12_isRoad 7 = .ok (.getfield 48, 3) := by decide +kernel
theorem dX12_isRoad_10 : decode cX12_isRoad 10 = .ok (.iaload, 1) := by decide +kernel
theorem dX12_isRoad_11 : decode cX12_isRoad 11 = .ok (.iconst 1, 1) := by decide +kernel
theorem dX12_isRoad_12 : decode cX12_isRoad 12 = .ok (.isub, 1) := by decide +kernel
theorem dX12_isRoad_13 : decode cX12_isRoad 13 = .ok (.invokestatic 377, 3) := by decide +kernel
theorem dX12_isRoad_16 : decode cX12_isRoad 16 = .ok (.ireturn, 1) := by decide +kernel
set_option maxRecDepth 20000 in
theorem ggX12_letter_X12_isWho : GoodIn wsX12_letter wsX12_isWho := goodIn_r _ [8, 9, 2, 10, 11, 7, 12, 13, 14, 15, 16, 17, 18, 19, 20, 21, 22, 23, 24, 25, 26, 27, 28, 29, 30, 31, 32, 33, 34, 35, 36, 37, 38, 39, 40, 41, 42, 43, 44, 45, 46, 47, 48, 49, 50, 51, 52, 53, 54, 55, 56, 57, 58, 59, 60, 61, 62, 63, 64, 65, 66, 67, 68, 69, 70, 71, 72, 73, 74, 75, 76, 77, 78, 79, 80, 81, 82, 83, 84, 85, 86, 87] rfl (by decide +kernel)
set_option maxRecDepth 20000 in
theorem gX12_letter_X12_isWho : GoodIn wsX12_letter (wsV RX12 381 RX12 yX12_isWho wsX12_isWho) := goodIn_app (goodIn_of _ (by decide +kernel)) ggX12_letter_X12_isWho
theorem dX12_letter_0 : decode cX12_letter 0 = .ok (.aload_n 0, 1) := by decide +kernel
theorem dX12_letter_1 : decode cX12_letter 1 = .ok (.iload_n 1, 1) := by decide +kernel
theorem dX12_letter_2 : decode cX12_letter 2 = .ok (.invokevirtual 381, 3) := by decide +kernel
theorem dX12_letter_5 : decode cX12_letter 5 = .ok (.ifCond .ne 5, 3) := by decide +kernel
theorem dX12_letter_8 : decode cX12_letter 8 = .ok (.iconst (-1), 1) := by decide +kernel
theorem dX12_letter_9 : decode cX12_letter 9 = .ok (.ireturn, 1) := by decide +kernel
theorem dX12_letter_10 : decode cX12_letter 10 = .ok (.aload_n 0, 1) := by decide +kernel
theorem dX12_letter_11 : decode cX12_letter 11 = .ok (.getfield 63, 3) := by decide +kernel
theorem dX12_letter_14 : decode cX12_letter 14 = .ok (.bipush 12, 2) := by decide +kernel
theorem dX12_letter_16 : decode cX12_letter 16 = .ok (.aload_n 0, 1) := by decide +kernel
theorem dX12_letter_17 : decode cX12_letter 17 = .ok (.getfield 48, 3) := by decide +kernel
theorem dX12_letter_20 : decode cX12_letter 20 = .ok (.imul, 1) := by decide +kernel
theorem dX12_letter_21 : decode cX12_letter 21 = .ok (.iload_n 1, 1) := by decide +kernel
theorem dX12_letter_22 : decode cX12_letter 22 = .ok (.iadd, 1) := by decide +kernel
theorem dX12_letter_23 : decode cX12_letter 23 = .ok (.laload, 1) := by decide +kernel
theorem dX12_letter_24 : decode cX12_letter 24 = .ok (.lstore_n 3, 1) := by decide +kernel
theorem dX12_letter_25 : decode cX12_letter 25 = .ok (.iconst 0, 1) := by decide +kernel
theorem dX12_letter_26 : decode cX12_letter 26 = .ok (.istore 5, 2) := by decide +kernel
theorem dX12_letter_28 : decode cX12_letter 28 = .ok (.lload_n 3, 1) := by decide +kernel
theorem dX12_letter_29 : decode cX12_letter 29 = .ok (.lstore 6, 2) := by decide +kernel
theorem dX12_letter_31 : decode cX12_letter 31 = .ok (.lload 6, 2) := by decide +kernel
theorem dX12_letter_33 : decode cX12_letter 33 = .ok (.lconst 0, 1) := by decide +kernel
theorem dX12_letter_34 : decode cX12_letter 34 = .ok (.lcmp, 1) := by decide +kernel
theorem dX12_letter_35 : decode cX12_letter 35 = .ok (.ifCond .eq 16, 3) := by decide +kernel
theorem dX12_letter_38 : decode cX12_letter 38 = .ok (.iinc 5 1, 3) := by decide +kernel
theorem dX12_letter_41 : decode cX12_letter 41 = .ok (.lload 6, 2) := by decide +kernel
theorem dX12_letter_43 : decode cX12_letter 43 = .ok (.bipush 8, 2) := by decide +kernel
theorem dX12_letter_45 : decode cX12_letter 45 = .ok (.lushr, 1) := by decide +kernel
theorem dX12_letter_46 : decode cX12_letter 46 = .ok (.lstore 6, 2) := by decide +kernel
theorem dX12_letter_48 : decode cX12_letter 48 = .ok (.goto (-17), 3) := by decide +kernel
theorem dX12_letter_51 : decode cX12_letter 51 = .ok (.iload_n 2, 1) := by decide +kernel
theorem dX12_letter_52 : decode cX12_letter 52 = .ok (.ifCond .lt 9, 3) := by decide +kernel
theorem dX12_letter_55 : decode cX12_letter 55 = .ok (.iload_n 2, 1) := by decide +kernel
theorem dX12_letter_56 : decode cX12_letter 56 = .ok (.iload 5, 2) := by decide +kernel
theorem dX12_letter_58 : decode cX12_letter 58 = .ok (.if_icmp .lt 7, 3) := by decide +kernel
theorem dX12_letter_61 : decode cX12_letter 61 = .ok (.iconst (-1), 1) := by decide +kernel
theorem dX12_letter_62 : decode cX12_letter 62 = .ok (.goto 19, 3) := by decide +kernel
theorem dX12_letter_65 : decode cX12_letter 65 = .ok (.lload_n 3, 1) := by decide +kernel
theorem dX12_letter_66 : decode cX12_letter 66 = .ok (.bipush 8, 2) := by decide +kernel
theorem dX12_letter_68 : decode cX12_letter 68 = .ok (.iload 5, 2) := by decide +kernel
theorem dX12_letter_70 : decode cX12_letter 70 = .ok (.iconst 1, 1) := by decide +kernel
theorem dX12_letter_71 : decode cX12_letter 71 = .ok (.isub, 1) := by decide +kernel
theorem dX12_letter_72 : decode cX12_letter 72 = .ok (.iload_n 2, 1) := by decide +kernel
theorem dX12_letter_73 : decode cX12_letter 73 = .ok (.isub, 1) := by decide +kernel
theorem dX12_letter_74 : decode cX12_letter 74 = .ok (.imul, 1) := by decide +kernel
theorem dX12_letter_75 : decode cX12_letter 75 = .ok (.lushr, 1) := by decide +kernel
theorem dX12_letter_76 : decode cX12_letter 76 = .ok (.ldc2_w 384, 3) := by decide +kernel
theorem dX12_letter_79 : decode cX12_letter 79 = .ok (.land, 1) := by decide +kernel
theorem dX12_letter_80 : decode cX12_letter 80 = .ok (.l2i, 1) := by decide +kernel
theorem dX12_letter_81 : decode cX12_letter 81 = .ok (.ireturn, 1) := by decide +kernel
theorem dX12_first_0 : decode cX12_first 0 = .ok (.aload_n 0, 1) := by decide +kernel
theorem dX12_first_1 : decode cX12_first 1 = .ok (.getfield 70, 3) := by decide +kernel
theorem dX12_first_4 : decode cX12_first 4 = .ok (.bipush 30, 2) := by decide +kernel
theorem dX12_first_6 : decode cX12_first 6 = .ok (.aload_n 0, 1) := by decide +kernel
theorem dX12_first_7 : decode cX12_first 7 = .ok (.getfield 48, 3) := by decide +kernel
theorem dX12_first_10 : decode cX12_first 10 = .ok (.imul, 1) := by decide +kernel
theorem dX12_first_11 : decode cX12_first 11 = .ok (.iload_n 1, 1) := by decide +kernel
theorem dX12_first_12 : decode cX12_first 12 = .ok (.iadd, 1) := by decide +kernel
theorem dX12_first_13 : decode cX12_first 13 = .ok (.iaload, 1) := by decide +kernel
theorem dX12_first_14 : decode cX12_first 14 = .ok (.ireturn, 1) := by decide +kernel
theorem dX12_second_0 : decode cX12_second 0 = .ok (.aload_n 0, 1) := by decide +kernel
theorem dX12_second_1 : decode cX12_second 1 = .ok (.getfield 73, 3) := by decide +kernel
theorem dX12_second_4 : decode cX12_second 4 = .ok (.bipush 30, 2) := by decide +kernel
theorem dX12_second_6 : decode cX12_second 6 = .ok (.aload_n 0, 1) := by decide +kernel
theorem dX12_second_7 : decode cX12_second 7 = .ok (.getfield 48, 3) := by decide +kernel
theorem dX12_second_10 : decode cX12_second 10 = .ok (.imul, 1) := by decide +kernel
theorem dX12_second_11 : decode cX12_second 11 = .ok (.iload_n 1, 1) := by decide +kernel
theorem dX12_second_12 : decode cX12_second 12 = .ok (.iadd, 1) := by decide +kernel
theorem dX12_second_13 : decode cX12_second 13 = .ok (.iaload, 1) := by decide +kernel
theorem dX12_second_14 : decode cX12_second 14 = .ok (.ireturn, 1) := by decide +kernel
set_option maxRecDepth 20000 in
theorem ggX12_road__X12_isRoad : GoodIn wsX12_road_ wsX12_isRoad := goodIn_r _ [5, 6, 7, 8, 9, 4, 10, 21, 22, 23, 24, 25, 26, 27, 28, 29, 30, 31, 32, 33, 34, 35, 36, 37, 38, 39, 40, 41, 42, 43, 44, 45, 46, 47, 48, 49, 50, 51, 52, 53, 54, 55, 56, 57, 58, 59, 60, 61, 62, 63, 64, 65, 66, 67, 68, 69, 70, 71, 72, 73, 74, 75, 76, 77, 78, 79, 80, 81, 82, 83, 84, 85, 86, 87, 88, 89, 90, 91, 92, 93, 94, 95] rfl (by decide +kernel)
set_option maxRecDepth 20000 in
theorem gX12_road__X12_isRoad : GoodIn wsX12_road_ (wsV RX12 386 RX12 yX12_isRoad wsX12_isRoad) := goodIn_app (goodIn_of _ (by decide +kernel)) ggX12_road__X12_isRoad
set_option maxRecDepth 20000 in
theorem ggX12_road__X12_is : GoodIn wsX12_road_ wsX12_is := goodIn_r _ [10] (by decide +kernel) (by decide +kernel)
set_option maxRecDepth 20000 in
theorem gX12_road__X12_is : GoodIn wsX12_road_ (va_wsS RX12 377 yX12_is wsX12_is) := goodIn_app (goodIn_of _ (by decide +kernel)) ggX12_road__X12_is
set_option maxRecDepth 20000 in
theorem ggX12_road__X12_first : GoodIn wsX12_road_ wsX12_first := goodIn_r _ [14, 15, 7, 21, 22, 23, 24, 25, 26, 27, 28, 29, 30, 31, 32, 33, 34, 35, 36, 37, 38, 39, 40, 41, 42, 43, 44, 45, 46, 47, 48, 49, 50, 51, 52, 53, 54, 55, 56, 57, 58, 59, 60, 61, 62, 63, 64, 65, 66, 67, 68, 69, 70, 71, 72, 73, 74, 75, 76, 77, 78, 79, 80, 81, 82, 83, 84, 85, 86, 87, 88, 89, 90, 91, 92, 93, 94, 95] rfl (by decide +kernel)
set_option maxRecDepth 20000 in
theorem gX12_road__X12_first : GoodIn wsX12_road_ (wsV RX12 389 RX12 yX12_first wsX12_first) := goodIn_app (goodIn_of _ (by decide +kernel)) ggX12_road__X12_first
set_option maxRecDepth 20000 in
theorem ggX12_road__X12_second : GoodIn wsX12_road_ wsX12_second := goodIn_r _ [19, 20, 7, 21, 22, 23, 24, 25, 26, 27, 28, 29, 30, 31, 32, 33, 34, 35, 36, 37, 38, 39, 40, 41, 42, 43, 44, 45, 46, 47, 48, 49, 50, 51, 52, 53, 54, 55, 56, 57, 58, 59, 60, 61, 62, 63, 64, 65, 66, 67, 68, 69, 70, 71, 72, 73, 74, 75, 76, 77, 78, 79, 80, 81, 82, 83, 84, 85, 86, 87, 88, 89, 90, 91, 92, 93, 94, 95] rfl (by decide +kernel)
set_option maxRecDepth 20000 in
theorem gX12_road__X12_second : GoodIn wsX12_road_ (wsV RX12 392 RX12 yX12_second wsX12_second) := goodIn_app (goodIn_of _ (by decide +kernel)) ggX12_road__X12_second
theorem dX12_road__0 : decode cX12_road_ 0 = .ok (.aload_n 0, 1) := by decide +kernel
theorem dX12_road__1 : decode cX12_road_ 1 = .ok (.iload_n 1, 1) := by decide +kernel
theorem dX12_road__2 : decode cX12_road_ 2 = .ok (.invokevirtual 386, 3) := by decide +kernel
theorem dX12_road__5 : decode cX12_road_ 5 = .ok (.ifCond .eq 12, 3) := by decide +kernel
theorem dX12_road__8 : decode cX12_road_ 8 = .ok (.iload_n 2, 1) := by decide +kernel
theorem dX12_road__9 : decode cX12_road_ 9 = .ok (.iconst 0, 1) := by decide +kernel
theorem dX12_road__10 : decode cX12_road_ 10 = .ok (.iconst 1, 1) := by decide +kernel
theorem dX12_road__11 : decode cX12_road_ 11 = .ok (.invokestatic 377, 3) := by decide +kernel
theorem dX12_road__14 : decode cX12_road_ 14 = .ok (.ifCond .ne 7, 3) := by decide +kernel
theorem dX12_road__17 : decode cX12_road_ 17 = .ok (.iconst (-1), 1) := by decide +kernel
theorem dX12_road__18 : decode cX12_road_ 18 = .ok (.goto 20, 3) := by decide +kernel
theorem dX12_road__21 : decode cX12_road_ 21 = .ok (.iload_n 2, 1) := by decide +kernel
theorem dX12_road__22 : decode cX12_road_ 22 = .ok (.ifCond .ne 11, 3) := by decide +kernel
theorem dX12_road__25 : decode cX12_road_ 25 = .ok (.aload_n 0, 1) := by decide +kernel
theorem dX12_road__26 : decode cX12_road_ 26 = .ok (.iload_n 1, 1) := by decide +kernel
theorem dX12_road__27 : decode cX12_road_ 27 = .ok (.invokevirtual 389, 3) := by decide +kernel
theorem dX12_road__30 : decode cX12_road_ 30 = .ok (.goto 8, 3) := by decide +kernel
theorem dX12_road__33 : decode cX12_road_ 33 = .ok (.aload_n 0, 1) := by decide +kernel
theorem dX12_road__34 : decode cX12_road_ 34 = .ok (.iload_n 1, 1) := by decide +kernel
theorem dX12_road__35 : decode cX12_road_ 35 = .ok (.invokevirtual 392, 3) := by decide +kernel
theorem dX12_road__38 : decode cX12_road_ 38 = .ok (.ireturn, 1) := by decide +kernel
theorem dX12_aloneOf_0 : decode cX12_aloneOf 0 = .ok (.aload_n 0, 1) := by decide +kernel
theorem dX12_aloneOf_1 : decode cX12_aloneOf 1 = .ok (.getfield 67, 3) := by decide +kernel
theorem dX12_aloneOf_4 : decode cX12_aloneOf 4 = .ok (.bipush 12, 2) := by decide +kernel
theorem dX12_aloneOf_6 : decode cX12_aloneOf 6 = .ok (.aload_n 0, 1) := by decide +kernel
theorem dX12_aloneOf_7 : decode cX12_aloneOf 7 = .ok (.getfield 48, 3) := by decide +kernel
theorem dX12_aloneOf_10 : decode cX12_aloneOf 10 = .ok (.imul, 1) := by decide +kernel
theorem dX12_aloneOf_11 : decode cX12_aloneOf 11 = .ok (.iload_n 1, 1) := by decide +kernel
theorem dX12_aloneOf_12 : decode cX12_aloneOf 12 = .ok (.iadd, 1) := by decide +kernel
theorem dX12_aloneOf_13 : decode cX12_aloneOf 13 = .ok (.iaload, 1) := by decide +kernel
theorem dX12_aloneOf_14 : decode cX12_aloneOf 14 = .ok (.ireturn, 1) := by decide +kernel
theorem dX12_now_0 : decode cX12_now 0 = .ok (.aload_n 0, 1) := by decide +kernel
theorem dX12_now_1 : decode cX12_now 1 = .ok (.getfield 147, 3) := by decide +kernel
theorem dX12_now_4 : decode cX12_now 4 = .ok (.iconst (-1), 1) := by decide +kernel
theorem dX12_now_5 : decode cX12_now 5 = .ok (.if_icmp .ne 10, 3) := by decide +kernel
theorem dX12_now_8 : decode cX12_now 8 = .ok (.aload_n 0, 1) := by decide +kernel
theorem dX12_now_9 : decode cX12_now 9 = .ok (.getfield 144, 3) := by decide +kernel
theorem dX12_now_12 : decode cX12_now 12 = .ok (.goto 7, 3) := by decide +kernel
theorem dX12_now_15 : decode cX12_now 15 = .ok (.aload_n 0, 1) := by decide +kernel
theorem dX12_now_16 : decode cX12_now 16 = .ok (.getfield 147, 3) := by decide +kernel
theorem dX12_now_19 : decode cX12_now 19 = .ok (.ireturn, 1) := by decide +kernel
set_option maxRecDepth 20000 in
theorem ggX12_day_X12_is : GoodIn wsX12_day wsX12_is := goodIn_r _ [5] (by decide +kernel) (by decide +kernel)
set_option maxRecDepth 20000 in
theorem gX12_day_X12_is : GoodIn wsX12_day (va_wsS RX12 377 yX12_is wsX12_is) := goodIn_app (goodIn_of _ (by decide +kernel)) ggX12_day_X12_is
theorem dX12_day_0 : decode cX12_day 0 = .ok (.iload_n 1, 1) := by decide +kernel
theorem dX12_day_1 : decode cX12_day 1 = .ok (.iconst 0, 1) := by decide +kernel
theorem dX12_day_2 : decode cX12_day 2 = .ok (.sipush 999, 3) := by decide +kernel
theorem dX12_day_5 : decode cX12_day 5 = .ok (.invokestatic 377, 3) := by decide +kernel
theorem dX12_day_8 : decode cX12_day 8 = .ok (.ifCond .ne 5, 3) := by decide +kernel
theorem dX12_day_11 : decode cX12_day 11 = .ok (.iconst 0, 1) := by decide +kernel
theorem dX12_day_12 : decode cX12_day 12 = .ok (.ireturn, 1) := by decide +kernel
theorem dX12_day_13 : decode cX12_day 13 = .ok (.aload_n 0, 1) := by decide +kernel
theorem dX12_day_14 : decode cX12_day 14 = .ok (.iload_n 1, 1) := by decide +kernel
theorem dX12_day_15 : decode cX12_day 15 = .ok (.putfield 141, 3) := by decide +kernel
theorem dX12_day_18 : decode cX12_day 18 = .ok (.iconst 1, 1) := by decide +kernel
theorem dX12_day_19 : decode cX12_day 19 = .ok (.ireturn, 1) := by decide +kernel
theorem dX12_enter_0 : decode cX12_enter 0 = .ok (.aload_n 0, 1) := by decide +kernel
theorem dX12_enter_1 : decode cX12_enter 1 = .ok (.getfield 144, 3) := by decide +kernel
theorem dX12_enter_4 : decode cX12_enter 4 = .ok (.sipush 200, 3) := by decide +kernel
theorem dX12_enter_7 : decode cX12_enter 7 = .ok (.if_icmp .ne 5, 3) := by decide +kernel
theorem dX12_enter_10 : decode cX12_enter 10 = .ok (.iconst (-1), 1) := by decide +kernel
theorem dX12_enter_11 : decode cX12_enter 11 = .ok (.ireturn, 1) := by decide +kernel
theorem dX12_enter_12 : decode cX12_enter 12 = .ok (.aload_n 0, 1) := by decide +kernel
theorem dX12_enter_13 : decode cX12_enter 13 = .ok (.dup, 1) := by decide +kernel
theorem dX12_enter_14 : decode cX12_enter 14 = .ok (.getfield 144, 3) := by decide +kernel
theorem dX12_enter_17 : decode cX12_enter 17 = .ok (.iconst 1, 1) := by decide +kernel
theorem dX12_enter_18 : decode cX12_enter 18 = .ok (.iadd, 1) := by decide +kernel
theorem dX12_enter_19 : decode cX12_enter 19 = .ok (.putfield 144, 3) := by decide +kernel
theorem dX12_enter_22 : decode cX12_enter 22 = .ok (.aload_n 0, 1) := by decide +kernel
theorem dX12_enter_23 : decode cX12_enter 23 = .ok (.getfield 150, 3) := by decide +kernel
theorem dX12_enter_26 : decode cX12_enter 26 = .ok (.aload_n 0, 1) := by decide +kernel
theorem dX12_enter_27 : decode cX12_enter 27 = .ok (.getfield 144, 3) := by decide +kernel
theorem dX12_enter_30 : decode cX12_enter 30 = .ok (.iload_n 1, 1) := by decide +kernel
theorem dX12_enter_31 : decode cX12_enter 31 = .ok (.iastore, 1) := by decide +kernel
theorem dX12_enter_32 : decode cX12_enter 32 = .ok (.aload_n 0, 1) := by decide +kernel
theorem dX12_enter_33 : decode cX12_enter 33 = .ok (.getfield 153, 3) := by decide +kernel
theorem dX12_enter_36 : decode cX12_enter 36 = .ok (.aload_n 0, 1) := by decide +kernel
theorem dX12_enter_37 : decode cX12_enter 37 = .ok (.getfield 144, 3) := by decide +kernel
theorem dX12_enter_40 : decode cX12_enter 40 = .ok (.iload_n 2, 1) := by decide +kernel
theorem dX12_enter_41 : decode cX12_enter 41 = .ok (.iastore, 1) := by decide +kernel
theorem dX12_enter_42 : decode cX12_enter 42 = .ok (.aload_n 0, 1) := by decide +kernel
theorem dX12_enter_43 : decode cX12_enter 43 = .ok (.getfield 156, 3) := by decide +kernel
theorem dX12_enter_46 : decode cX12_enter 46 = .ok (.aload_n 0, 1) := by decide +kernel
theorem dX12_enter_47 : decode cX12_enter 47 = .ok (.getfield 144, 3) := by decide +kernel
theorem dX12_enter_50 : decode cX12_enter 50 = .ok (.iconst 0, 1) := by decide +kernel
theorem dX12_enter_51 : decode cX12_enter 51 = .ok (.iastore, 1) := by decide +kernel
theorem dX12_enter_52 : decode cX12_enter 52 = .ok (.aload_n 0, 1) := by decide +kernel
theorem dX12_enter_53 : decode cX12_enter 53 = .ok (.getfield 144, 3) := by decide +kernel
theorem dX12_enter_56 : decode cX12_enter 56 = .ok (.ireturn, 1) := by decide +kernel
set_option maxRecDepth 20000 in
theorem ggX12_worth_X12_isRoad : GoodIn wsX12_worth wsX12_isRoad := goodIn_r _ [6, 7, 8, 9, 10, 5, 11, 20, 21, 22, 23, 24, 25, 26, 27, 28, 29, 30, 31, 32, 33, 34, 35, 36, 37, 38, 39, 40, 41, 42, 43, 44, 45, 46, 47, 48, 49, 50, 51, 52, 53, 54, 55, 56, 57, 58, 59, 60, 61, 62, 63, 64, 65, 66, 67, 68, 69, 70, 71, 72, 73, 74, 75, 76, 77, 78, 79, 80, 81, 82, 83, 84, 85, 86, 87, 88, 89, 90, 91, 92, 93, 94] rfl (by decide +kernel)
set_option maxRecDepth 20000 in
theorem gX12_worth_X12_isRoad : GoodIn wsX12_worth (wsV RX12 386 RX12 yX12_isRoad wsX12_isRoad) := goodIn_app (goodIn_of _ (by decide +kernel)) ggX12_worth_X12_isRoad
set_option maxRecDepth 20000 in
theorem ggX12_worth_X12_is : GoodIn wsX12_worth wsX12_is := goodIn_r _ [11] (by decide +kernel) (by decide +kernel)
set_option maxRecDepth 20000 in
theorem gX12_worth_X12_is : GoodIn wsX12_worth (va_wsS RX12 377 yX12_is wsX12_is) := goodIn_app (goodIn_of _ (by decide +kernel)) ggX12_worth_X12_is
set_option maxRecDepth 20000 in
theorem ggX12_worth_X12_enter : GoodIn wsX12_worth wsX12_enter := goodIn_r _ [15, 16, 17, 18, 19, 20, 21, 22, 23, 24, 25, 26, 27, 28, 29, 30, 31, 32, 33, 34, 35, 36, 37, 38, 39, 40, 41, 42, 43, 44, 45, 46, 47, 48, 49, 50, 51, 52, 53, 54, 55, 56, 57, 58, 59, 60, 61, 62, 63, 64, 65, 66, 67, 68, 69, 70, 71, 72, 73, 74, 75, 76, 77, 78, 79, 80, 81, 82, 83, 84, 85, 86, 87, 88, 89, 90, 91, 92, 93, 94] rfl (by decide +kernel)
set_option maxRecDepth 20000 in
theorem gX12_worth_X12_enter : GoodIn wsX12_worth (wsV RX12 396 RX12 yX12_enter wsX12_enter) := goodIn_app (goodIn_of _ (by decide +kernel)) ggX12_worth_X12_enter
theorem dX12_worth_0 : decode cX12_worth 0 = .ok (.aload_n 0, 1) := by decide +kernel
theorem dX12_worth_1 : decode cX12_worth 1 = .ok (.iload_n 1, 1) := by decide +kernel
theorem dX12_worth_2 : decode cX12_worth 2 = .ok (.invokevirtual 386, 3) := by decide +kernel
theorem dX12_worth_5 : decode cX12_worth 5 = .ok (.ifCond .eq 24, 3) := by decide +kernel
theorem dX12_worth_8 : decode cX12_worth 8 = .ok (.iload_n 2, 1) := by decide +kernel
theorem dX12_worth_9 : decode cX12_worth 9 = .ok (.bipush (-2), 2) := by decide +kernel
theorem dX12_worth_11 : decode cX12_worth 11 = .ok (.ldc_w 395, 3) := by decide +kernel
theorem dX12_worth_14 : decode cX12_worth 14 = .ok (.invokestatic 377, 3) := by decide +kernel
theorem dX12_worth_17 : decode cX12_worth 17 = .ok (.ifCond .eq 12, 3) := by decide +kernel
theorem dX12_worth_20 : decode cX12_worth 20 = .ok (.aload_n 0, 1) := by decide +kernel
theorem dX12_worth_21 : decode cX12_worth 21 = .ok (.iload_n 1, 1) := by decide +kernel
theorem dX12_worth_22 : decode cX12_worth 22 = .ok (.iload_n 2, 1) := by decide +kernel
theorem dX12_worth_23 : decode cX12_worth 23 = .ok (.invokevirtual 396, 3) := by decide +kernel
theorem dX12_worth_26 : decode cX12_worth 26 = .ok (.goto 4, 3) := by decide +kernel
theorem dX12_worth_29 : decode cX12_worth 29 = .ok (.iconst (-1), 1) := by decide +kernel
theorem dX12_worth_30 : decode cX12_worth 30 = .ok (.ireturn, 1) := by decide +kernel
set_option maxRecDepth 20000 in
theorem ggX12_annul_X12_enter : GoodIn wsX12_annul wsX12_enter := goodIn_r _ [8, 1, 2, 9, 3, 10, 11, 12, 13, 14, 15, 16, 17, 18, 19, 20, 21, 22, 23, 24, 25, 26, 27, 28, 29, 30, 31, 32, 33, 34, 35, 36, 37, 38, 39, 40, 41, 42, 43, 44, 45, 46, 47, 48, 49, 50, 51, 52, 53, 54, 55, 56, 57, 58, 59, 60, 61, 62, 63, 64, 65, 66, 67, 68, 69, 70, 71, 72, 73, 74, 75, 76, 77, 78, 79, 80, 81, 82, 83, 84] rfl (by decide +kernel)
set_option maxRecDepth 20000 in
theorem gX12_annul_X12_enter : GoodIn wsX12_annul (wsV RX12 396 RX12 yX12_enter wsX12_enter) := goodIn_app (goodIn_of _ (by decide +kernel)) ggX12_annul_X12_enter
theorem dX12_annul_0 : decode cX12_annul 0 = .ok (.iload_n 1, 1) := by decide +kernel
theorem dX12_annul_1 : decode cX12_annul 1 = .ok (.iconst 1, 1) := by decide +kernel
theorem dX12_annul_2 : decode cX12_annul 2 = .ok (.if_icmp .lt 40, 3) := by decide +kernel
theorem dX12_annul_5 : decode cX12_annul 5 = .ok (.iload_n 1, 1) := by decide +kernel
theorem dX12_annul_6 : decode cX12_annul 6 = .ok (.aload_n 0, 1) := by decide +kernel
theorem dX12_annul_7 : decode cX12_annul 7 = .ok (.getfield 144, 3) := by decide +kernel
theorem dX12_annul_10 : decode cX12_annul 10 = .ok (.if_icmp .gt 32, 3) := by decide +kernel
theorem dX12_annul_13 : decode cX12_annul 13 = .ok (.aload_n 0, 1) := by decide +kernel
theorem dX12_annul_14 : decode cX12_annul 14 = .ok (.getfield 150, 3) := by decide +kernel
theorem dX12_annul_17 : decode cX12_annul 17 = .ok (.iload_n 1, 1) := by decide +kernel
theorem dX12_annul_18 : decode cX12_annul 18 = .ok (.iaload, 1) := by decide +kernel
theorem dX12_annul_19 : decode cX12_annul 19 = .ok (.iconst (-1), 1) := by decide +kernel
theorem dX12_annul_20 : decode cX12_annul 20 = .ok (.if_icmp .eq 22, 3) := by decide +kernel
theorem dX12_annul_23 : decode cX12_annul 23 = .ok (.aload_n 0, 1) := by decide +kernel
theorem dX12_annul_24 : decode cX12_annul 24 = .ok (.getfield 156, 3) := by decide +kernel
theorem dX12_annul_27 : decode cX12_annul 27 = .ok (.iload_n 1, 1) := by decide +kernel
theorem dX12_annul_28 : decode cX12_annul 28 = .ok (.iaload, 1) := by decide +kernel
theorem dX12_annul_29 : decode cX12_annul 29 = .ok (.ifCond .gt 13, 3) := by decide +kernel
theorem dX12_annul_32 : decode cX12_annul 32 = .ok (.aload_n 0, 1) := by decide +kernel
theorem dX12_annul_33 : decode cX12_annul 33 = .ok (.getfield 144, 3) := by decide +kernel
theorem dX12_annul_36 : decode cX12_annul 36 = .ok (.sipush 200, 3) := by decide +kernel
theorem dX12_annul_39 : decode cX12_annul 39 = .ok (.if_icmp .ne 5, 3) := by decide +kernel
theorem dX12_annul_42 : decode cX12_annul 42 = .ok (.iconst (-1), 1) := by decide +kernel
theorem dX12_annul_43 : decode cX12_annul 43 = .ok (.ireturn, 1) := by decide +kernel
theorem dX12_annul_44 : decode cX12_annul 44 = .ok (.aload_n 0, 1) := by decide +kernel
theorem dX12_annul_45 : decode cX12_annul 45 = .ok (.getfield 156, 3) := by decide +kernel
theorem dX12_annul_48 : decode cX12_annul 48 = .ok (.iload_n 1, 1) := by decide +kernel
theorem dX12_annul_49 : decode cX12_annul 49 = .ok (.aload_n 0, 1) := by decide +kernel
theorem dX12_annul_50 : decode cX12_annul 50 = .ok (.iconst (-1), 1) := by decide +kernel
theorem dX12_annul_51 : decode cX12_annul 51 = .ok (.iconst 0, 1) := by decide +kernel
theorem dX12_annul_52 : decode cX12_annul 52 = .ok (.invokevirtual 396, 3) := by decide +kernel
theorem dX12_annul_55 : decode cX12_annul 55 = .ok (.iastore, 1) := by decide +kernel
theorem dX12_annul_56 : decode cX12_annul 56 = .ok (.aload_n 0, 1) := by decide +kernel
theorem dX12_annul_57 : decode cX12_annul 57 = .ok (.getfield 156, 3) := by decide +kernel
theorem dX12_annul_60 : decode cX12_annul 60 = .ok (.iload_n 1, 1) := by decide +kernel
theorem dX12_annul_61 : decode cX12_annul 61 = .ok (.iaload, 1) := by decide +kernel
theorem dX12_annul_62 : decode cX12_annul 62 = .ok (.ireturn, 1) := by decide +kernel
set_option maxRecDepth 20000 in
theorem ggX12_as_X12_is : GoodIn wsX12_as wsX12_is := goodIn_r _ [6] (by decide +kernel) (by decide +kernel)
set_option maxRecDepth 20000 in
theorem gX12_as_X12_is : GoodIn wsX12_as (va_wsS RX12 377 yX12_is wsX12_is) := goodIn_app (goodIn_of _ (by decide +kernel)) ggX12_as_X12_is
theorem dX12_as_0 : decode cX12_as 0 = .ok (.iload_n 1, 1) := by decide +kernel
theorem dX12_as_1 : decode cX12_as 1 = .ok (.iconst (-1), 1) := by decide +kernel
theorem dX12_as_2 : decode cX12_as 2 = .ok (.aload_n 0, 1) := by decide +kernel
theorem dX12_as_3 : decode cX12_as 3 = .ok (.getfield 144, 3) := by decide +kernel
theorem dX12_as_6 : decode cX12_as 6 = .ok (.invokestatic 377, 3) := by decide +kernel
theorem dX12_as_9 : decode cX12_as 9 = .ok (.ifCond .ne 5, 3) := by decide +kernel
theorem dX12_as_12 : decode cX12_as 12 = .ok (.iconst 0, 1) := by decide +kernel
theorem dX12_as_13 : decode cX12_as 13 = .ok (.ireturn, 1) := by decide +kernel
theorem dX12_as_14 : decode cX12_as 14 = .ok (.aload_n 0, 1) := by decide +kernel
theorem dX12_as_15 : decode cX12_as 15 = .ok (.iload_n 1, 1) := by decide +kernel
theorem dX12_as_16 : decode cX12_as 16 = .ok (.putfield 147, 3) := by decide +kernel
theorem dX12_as_19 : decode cX12_as 19 = .ok (.iconst 1, 1) := by decide +kernel
theorem dX12_as_20 : decode cX12_as 20 = .ok (.ireturn, 1) := by decide +kernel
theorem dX12_held_0 : decode cX12_held 0 = .ok (.lload_n 0, 1) := by decide +kernel
theorem dX12_held_1 : decode cX12_held 1 = .ok (.ldc2_w 399, 3) := by decide +kernel
theorem dX12_held_4 : decode cX12_held 4 = .ok (.lcmp, 1) := by decide +kernel
theorem dX12_held_5 : decode cX12_held 5 = .ok (.ifCond .le 9, 3) := by decide +kernel
theorem dX12_held_8 : decode cX12_held 8 = .ok (.ldc2_w 399, 3) := by decide +kernel
theorem dX12_held_11 : decode cX12_held 11 = .ok (.goto 18, 3) := by decide +kernel
theorem dX12_held_14 : decode cX12_held 14 = .ok (.lload_n 0, 1) := by decide +kernel
theorem dX12_held_15 : decode cX12_held 15 = .ok (.ldc2_w 401, 3) := by decide +kernel
theorem dX12_held_18 : decode cX12_held 18 = .ok (.lcmp, 1) := by decide +kernel
theorem dX12_held_19 : decode cX12_held 19 = .ok (.ifCond .ge 9, 3) := by decide +kernel
theorem dX12_held_22 : decode cX12_held 22 = .ok (.ldc2_w 401, 3) := by decide +kernel
theorem dX12_held_25 : decode cX12_held 25 = .ok (.goto 4, 3) := by decide +kernel
theorem dX12_held_28 : decode cX12_held 28 = .ok (.lload_n 0, 1) := by decide +kernel
theorem dX12_held_29 : decode cX12_held 29 = .ok (.lreturn, 1) := by decide +kernel
theorem dX12_over_0 : decode cX12_over 0 = .ok (.lload_n 2, 1) := by decide +kernel
theorem dX12_over_1 : decode cX12_over 1 = .ok (.lconst 0, 1) := by decide +kernel
theorem dX12_over_2 : decode cX12_over 2 = .ok (.lcmp, 1) := by decide +kernel
theorem dX12_over_3 : decode cX12_over 3 = .ok (.ifCond .ne 5, 3) := by decide +kernel
theorem dX12_over_6 : decode cX12_over 6 = .ok (.lconst 0, 1) := by decide +kernel
theorem dX12_over_7 : decode cX12_over 7 = .ok (.lreturn, 1) := by decide +kernel
theorem dX12_over_8 : decode cX12_over 8 = .ok (.lload_n 0, 1) := by decide +kernel
theorem dX12_over_9 : decode cX12_over 9 = .ok (.lload_n 2, 1) := by decide +kernel
theorem dX12_over_10 : decode cX12_over 10 = .ok (.ldiv, 1) := by decide +kernel
theorem dX12_over_11 : decode cX12_over 11 = .ok (.lstore 4, 2) := by decide +kernel
theorem dX12_over_13 : decode cX12_over 13 = .ok (.lload_n 0, 1) := by decide +kernel
theorem dX12_over_14 : decode cX12_over 14 = .ok (.lload_n 2, 1) := by decide +kernel
theorem dX12_over_15 : decode cX12_over 15 = .ok (.lrem, 1) := by decide +kernel
theorem dX12_over_16 : decode cX12_over 16 = .ok (.lconst 0, 1) := by decide +kernel
theorem dX12_over_17 : decode cX12_over 17 = .ok (.lcmp, 1) := by decide +kernel
theorem dX12_over_18 : decode cX12_over 18 = .ok (.ifCond .eq 35, 3) := by decide +kernel
theorem dX12_over_21 : decode cX12_over 21 = .ok (.lload_n 0, 1) := by decide +kernel
theorem dX12_over_22 : decode cX12_over 22 = .ok (.lconst 0, 1) := by decide +kernel
theorem dX12_over_23 : decode cX12_over 23 = .ok (.lcmp, 1) := by decide +kernel
theorem dX12_over_24 : decode cX12_over 24 = .ok (.ifCond .ge 7, 3) := by decide +kernel
theorem dX12_over_27 : decode cX12_over 27 = .ok (.iconst 1, 1) := by decide +kernel
theorem dX12_over_28 : decode cX12_over 28 = .ok (.goto 4, 3) := by decide +kernel
theorem dX12_over_31 : decode cX12_over 31 = .ok (.iconst 0, 1) := by decide +kernel
theorem dX12_over_32 : decode cX12_over 32 = .ok (.lload_n 2, 1) := by decide +kernel
theorem dX12_over_33 : decode cX12_over 33 = .ok (.lconst 0, 1) := by decide +kernel
theorem dX12_over_34 : decode cX12_over 34 = .ok (.lcmp, 1) := by decide +kernel
theorem dX12_over_35 : decode cX12_over 35 = .ok (.ifCond .ge 7, 3) := by decide +kernel
theorem dX12_over_38 : decode cX12_over 38 = .ok (.iconst 1, 1) := by decide +kernel
theorem dX12_over_39 : decode cX12_over 39 = .ok (.goto 4, 3) := by decide +kernel
theorem dX12_over_42 : decode cX12_over 42 = .ok (.iconst 0, 1) := by decide +kernel
theorem dX12_over_43 : decode cX12_over 43 = .ok (.if_icmp .eq 10, 3) := by decide +kernel
theorem dX12_over_46 : decode cX12_over 46 = .ok (.lload 4, 2) := by decide +kernel
theorem dX12_over_48 : decode cX12_over 48 = .ok (.lconst 1, 1) := by decide +kernel
theorem dX12_over_49 : decode cX12_over 49 = .ok (.lsub, 1) := by decide +kernel
theorem dX12_over_50 : decode cX12_over 50 = .ok (.goto 5, 3) := by decide +kernel
theorem dX12_over_53 : decode cX12_over 53 = .ok (.lload 4, 2) := by decide +kernel
theorem dX12_over_55 : decode cX12_over 55 = .ok (.lreturn, 1) := by decide +kernel
set_option maxRecDepth 20000 in
theorem ggX12_joined_X12_held : GoodIn wsX12_joined wsX12_held := goodIn_r _ [4, 5, 6] (by decide +kernel) (by decide +kernel)
set_option maxRecDepth 20000 in
theorem gX12_joined_X12_held : GoodIn wsX12_joined (va_wsS RX12 403 yX12_held wsX12_held) := goodIn_app (goodIn_of _ (by decide +kernel)) ggX12_joined_X12_held
set_option maxRecDepth 20000 in
theorem ggX12_joined_X12_over : GoodIn wsX12_joined wsX12_over := goodIn_r _ [9] (by decide +kernel) (by decide +kernel)
set_option maxRecDepth 20000 in
theorem gX12_joined_X12_over : GoodIn wsX12_joined (va_wsS RX12 407 yX12_over wsX12_over) := goodIn_app (goodIn_of _ (by decide +kernel)) ggX12_joined_X12_over
theorem dX12_joined_0 : decode cX12_joined 0 = .ok (.iload_n 0, 1) := by decide +kernel
theorem dX12_joined_1 : decode cX12_joined 1 = .ok (.tableswitch 170 6 16 #[59, 66, 73, 80, 86, 106, 118, 130, 142, 154, 166], 59) := by decide +kernel
theorem dX12_joined_60 : decode cX12_joined 60 = .ok (.lload_n 1, 1) := by decide +kernel
theorem dX12_joined_61 : decode cX12_joined 61 = .ok (.lload_n 3, 1) := by decide +kernel
theorem dX12_joined_62 : decode cX12_joined 62 = .ok (.ladd, 1) := by decide +kernel
theorem dX12_joined_63 : decode cX12_joined 63 = .ok (.invokestatic 403, 3) := by decide +kernel
theorem dX12_joined_66 : decode cX12_joined 66 = .ok (.lreturn, 1) := by decide +kernel
theorem dX12_joined_67 : decode cX12_joined 67 = .ok (.lload_n 1, 1) := by decide +kernel
theorem dX12_joined_68 : decode cX12_joined 68 = .ok (.lload_n 3, 1) := by decide +kernel
theorem dX12_joined_69 : decode cX12_joined 69 = .ok (.lsub, 1) := by decide +kernel
theorem dX12_joined_70 : decode cX12_joined 70 = .ok (.invokestatic 403, 3) := by decide +kernel
theorem dX12_joined_73 : decode cX12_joined 73 = .ok (.lreturn, 1) := by decide +kernel
theorem dX12_joined_74 : decode cX12_joined 74 = .ok (.lload_n 1, 1) := by decide +kernel
theorem dX12_joined_75 : decode cX12_joined 75 = .ok (.lload_n 3, 1) := by decide +kernel
theorem dX12_joined_76 : decode cX12_joined 76 = .ok (.lmul, 1) := by decide +kernel
theorem dX12_joined_77 : decode cX12_joined 77 = .ok (.invokestatic 403, 3) := by decide +kernel
theorem dX12_joined_80 : decode cX12_joined 80 = .ok (.lreturn, 1) := by decide +kernel
theorem dX12_joined_81 : decode cX12_joined 81 = .ok (.lload_n 1, 1) := by decide +kernel
theorem dX12_joined_82 : decode cX12_joined 82 = .ok (.lload_n 3, 1) := by decide +kernel
theorem dX12_joined_83 : decode cX12_joined 83 = .ok (.invokestatic 407, 3) := by decide +kernel
theorem dX12_joined_86 : decode cX12_joined 86 = .ok (.lreturn, 1) := by decide +kernel
theorem dX12_joined_87 : decode cX12_joined 87 = .ok (.lload_n 3, 1) := by decide +kernel
theorem dX12_joined_88 : decode cX12_joined 88 = .ok (.lconst 0, 1) := by decide +kernel
theorem dX12_joined_89 : decode cX12_joined 89 = .ok (.lcmp, 1) := by decide +kernel
theorem dX12_joined_90 : decode cX12_joined 90 = .ok (.ifCond .ne 7, 3) := by decide +kernel
theorem dX12_joined_93 : decode cX12_joined 93 = .ok (.lconst 0, 1) := by decide +kernel
theorem dX12_joined_94 : decode cX12_joined 94 = .ok (.goto 12, 3) := by decide +kernel
theorem dX12_joined_97 : decode cX12_joined 97 = .ok (.lload_n 1, 1) := by decide +kernel
theorem dX12_joined_98 : decode cX12_joined 98 = .ok (.lload_n 3, 1) := by decide +kernel
theorem dX12_joined_99 : decode cX12_joined 99 = .ok (.lload_n 1, 1) := by decide +kernel
theorem dX12_joined_100 : decode cX12_joined 100 = .ok (.lload_n 3, 1) := by decide +kernel
theorem dX12_joined_101 : decode cX12_joined 101 = .ok (.invokestatic 407, 3) := by decide +kernel
theorem dX12_joined_104 : decode cX12_joined 104 = .ok (.lmul, 1) := by decide +kernel
theorem dX12_joined_105 : decode cX12_joined 105 = .ok (.lsub, 1) := by decide +kernel
theorem dX12_joined_106 : decode cX12_joined 106 = .ok (.lreturn, 1) := by decide +kernel
theorem dX12_joined_107 : decode cX12_joined 107 = .ok (.lload_n 1, 1) := by decide +kernel
theorem dX12_joined_108 : decode cX12_joined 108 = .ok (.lload_n 3, 1) := by decide +kernel
theorem dX12_joined_109 : decode cX12_joined 109 = .ok (.lcmp, 1) := by decide +kernel
theorem dX12_joined_110 : decode cX12_joined 110 = .ok (.ifCond .ge 7, 3) := by decide +kernel
theorem dX12_joined_113 : decode cX12_joined 113 = .ok (.lload_n 1, 1) := by decide +kernel
theorem dX12_joined_114 : decode cX12_joined 114 = .ok (.goto 4, 3) := by decide +kernel
theorem dX12_joined_117 : decode cX12_joined 117 = .ok (.lload_n 3, 1) := by decide +kernel
theorem dX12_joined_118 : decode cX12_joined 118 = .ok (.lreturn, 1) := by decide +kernel
theorem dX12_joined_119 : decode cX12_joined 119 = .ok (.lload_n 1, 1) := by decide +kernel
theorem dX12_joined_120 : decode cX12_joined 120 = .ok (.lload_n 3, 1) := by decide +kernel
theorem dX12_joined_121 : decode cX12_joined 121 = .ok (.lcmp, 1) := by decide +kernel
theorem dX12_joined_122 : decode cX12_joined 122 = .ok (.ifCond .le 7, 3) := by decide +kernel
theorem dX12_joined_125 : decode cX12_joined 125 = .ok (.lload_n 1, 1) := by decide +kernel
theorem dX12_joined_126 : decode cX12_joined 126 = .ok (.goto 4, 3) := by decide +kernel
theorem dX12_joined_129 : decode cX12_joined 129 = .ok (.lload_n 3, 1) := by decide +kernel
theorem dX12_joined_130 : decode cX12_joined 130 = .ok (.lreturn, 1) := by decide +kernel
theorem dX12_joined_131 : decode cX12_joined 131 = .ok (.lload_n 1, 1) := by decide +kernel
theorem dX12_joined_132 : decode cX12_joined 132 = .ok (.lload_n 3, 1) := by decide +kernel
theorem dX12_joined_133 : decode cX12_joined 133 = .ok (.lcmp, 1) := by decide +kernel
theorem dX12_joined_134 : decode cX12_joined 134 = .ok (.ifCond .ge 7, 3) := by decide +kernel
theorem dX12_joined_137 : decode cX12_joined 137 = .ok (.lconst 1, 1) := by decide +kernel
theorem dX12_joined_138 : decode cX12_joined 138 = .ok (.goto 4, 3) := by decide +kernel
theorem dX12_joined_141 : decode cX12_joined 141 = .ok (.lconst 0, 1) := by decide +kernel
theorem dX12_joined_142 : decode cX12_joined 142 = .ok (.lreturn, 1) := by decide +kernel
theorem dX12_joined_143 : decode cX12_joined 143 = .ok (.lload_n 1, 1) := by decide +kernel
theorem dX12_joined_144 : decode cX12_joined 144 = .ok (.lload_n 3, 1) := by decide +kernel
theorem dX12_joined_145 : decode cX12_joined 145 = .ok (.lcmp, 1) := by decide +kernel
theorem dX12_joined_146 : decode cX12_joined 146 = .ok (.ifCond .le 7, 3) := by decide +kernel
theorem dX12_joined_149 : decode cX12_joined 149 = .ok (.lconst 1, 1) := by decide +kernel
theorem dX12_joined_150 : decode cX12_joined 150 = .ok (.goto 4, 3) := by decide +kernel
theorem dX12_joined_153 : decode cX12_joined 153 = .ok (.lconst 0, 1) := by decide +kernel
theorem dX12_joined_154 : decode cX12_joined 154 = .ok (.lreturn, 1) := by decide +kernel
theorem dX12_joined_155 : decode cX12_joined 155 = .ok (.lload_n 1, 1) := by decide +kernel
theorem dX12_joined_156 : decode cX12_joined 156 = .ok (.lload_n 3, 1) := by decide +kernel
theorem dX12_joined_157 : decode cX12_joined 157 = .ok (.lcmp, 1) := by decide +kernel
theorem dX12_joined_158 : decode cX12_joined 158 = .ok (.ifCond .ne 7, 3) := by decide +kernel
theorem dX12_joined_161 : decode cX12_joined 161 = .ok (.lconst 1, 1) := by decide +kernel
theorem dX12_joined_162 : decode cX12_joined 162 = .ok (.goto 4, 3) := by decide +kernel
theorem dX12_joined_165 : decode cX12_joined 165 = .ok (.lconst 0, 1) := by decide +kernel
theorem dX12_joined_166 : decode cX12_joined 166 = .ok (.lreturn, 1) := by decide +kernel
theorem dX12_joined_167 : decode cX12_joined 167 = .ok (.lload_n 1, 1) := by decide +kernel
theorem dX12_joined_168 : decode cX12_joined 168 = .ok (.lload_n 3, 1) := by decide +kernel
theorem dX12_joined_169 : decode cX12_joined 169 = .ok (.lmul, 1) := by decide +kernel
theorem dX12_joined_170 : decode cX12_joined 170 = .ok (.lreturn, 1) := by decide +kernel
theorem dX12_joined_171 : decode cX12_joined 171 = .ok (.lload_n 1, 1) := by decide +kernel
theorem dX12_joined_172 : decode cX12_joined 172 = .ok (.lload_n 3, 1) := by decide +kernel
theorem dX12_joined_173 : decode cX12_joined 173 = .ok (.ladd, 1) := by decide +kernel
theorem dX12_joined_174 : decode cX12_joined 174 = .ok (.lconst 0, 1) := by decide +kernel
theorem dX12_joined_175 : decode cX12_joined 175 = .ok (.lcmp, 1) := by decide +kernel
theorem dX12_joined_176 : decode cX12_joined 176 = .ok (.ifCond .le 7, 3) := by decide +kernel
theorem dX12_joined_179 : decode cX12_joined 179 = .ok (.lconst 1, 1) := by decide +kernel
theorem dX12_joined_180 : decode cX12_joined 180 = .ok (.goto 4, 3) := by decide +kernel
theorem dX12_joined_183 : decode cX12_joined 183 = .ok (.lconst 0, 1) := by decide +kernel
theorem dX12_joined_184 : decode cX12_joined 184 = .ok (.lreturn, 1) := by decide +kernel
set_option maxRecDepth 20000 in
theorem ggX12_leaf_X12_aloneOf : GoodIn wsX12_leaf wsX12_aloneOf := goodIn_r _ [6, 7, 8, 9, 10, 11, 12, 13, 14, 15, 16, 17, 18, 19, 20, 21, 22, 23, 24, 25, 26, 27, 28, 29, 30, 31, 32, 33, 34, 35, 36, 37, 38, 39, 40, 41, 42, 43, 44, 45, 46, 47, 48, 49, 50, 51, 52, 53, 54, 55, 56, 57, 58, 59, 60, 61, 62, 63, 64, 65, 66, 67, 68, 69, 70, 71, 72, 73, 74, 75, 76, 77, 78, 79, 80, 81, 82, 83] rfl (by decide +kernel)
set_option maxRecDepth 20000 in
theorem gX12_leaf_X12_aloneOf : GoodIn wsX12_leaf (wsV RX12 411 RX12 yX12_aloneOf wsX12_aloneOf) := goodIn_app (goodIn_of _ (by decide +kernel)) ggX12_leaf_X12_aloneOf
theorem dX12_leaf_0 : decode cX12_leaf 0 = .ok (.iload_n 1, 1) := by decide +kernel
theorem dX12_leaf_1 : decode cX12_leaf 1 = .ok (.tableswitch 69 0 4 #[35, 38, 44, 53, 62], 35) := by decide +kernel
theorem dX12_leaf_36 : decode cX12_leaf 36 = .ok (.iload_n 2, 1) := by decide +kernel
theorem dX12_leaf_37 : decode cX12_leaf 37 = .ok (.i2l, 1) := by decide +kernel
theorem dX12_leaf_38 : decode cX12_leaf 38 = .ok (.lreturn, 1) := by decide +kernel
theorem dX12_leaf_39 : decode cX12_leaf 39 = .ok (.aload_n 0, 1) := by decide +kernel
theorem dX12_leaf_40 : decode cX12_leaf 40 = .ok (.getfield 141, 3) := by decide +kernel
theorem dX12_leaf_43 : decode cX12_leaf 43 = .ok (.i2l, 1) := by decide +kernel
theorem dX12_leaf_44 : decode cX12_leaf 44 = .ok (.lreturn, 1) := by decide +kernel
theorem dX12_leaf_45 : decode cX12_leaf 45 = .ok (.aload_n 0, 1) := by decide +kernel
theorem dX12_leaf_46 : decode cX12_leaf 46 = .ok (.getfield 141, 3) := by decide +kernel
theorem dX12_leaf_49 : decode cX12_leaf 49 = .ok (.bipush 7, 2) := by decide +kernel
theorem dX12_leaf_51 : decode cX12_leaf 51 = .ok (.idiv, 1) := by decide +kernel
theorem dX12_leaf_52 : decode cX12_leaf 52 = .ok (.i2l, 1) := by decide +kernel
theorem dX12_leaf_53 : decode cX12_leaf 53 = .ok (.lreturn, 1) := by decide +kernel
theorem dX12_leaf_54 : decode cX12_leaf 54 = .ok (.aload_n 0, 1) := by decide +kernel
theorem dX12_leaf_55 : decode cX12_leaf 55 = .ok (.getfield 141, 3) := by decide +kernel
theorem dX12_leaf_58 : decode cX12_leaf 58 = .ok (.bipush 7, 2) := by decide +kernel
theorem dX12_leaf_60 : decode cX12_leaf 60 = .ok (.irem, 1) := by decide +kernel
theorem dX12_leaf_61 : decode cX12_leaf 61 = .ok (.i2l, 1) := by decide +kernel
theorem dX12_leaf_62 : decode cX12_leaf 62 = .ok (.lreturn, 1) := by decide +kernel
theorem dX12_leaf_63 : decode cX12_leaf 63 = .ok (.aload_n 0, 1) := by decide +kernel
theorem dX12_leaf_64 : decode cX12_leaf 64 = .ok (.iload_n 2, 1) := by decide +kernel
theorem dX12_leaf_65 : decode cX12_leaf 65 = .ok (.invokevirtual 411, 3) := by decide +kernel
theorem dX12_leaf_68 : decode cX12_leaf 68 = .ok (.i2l, 1) := by decide +kernel
theorem dX12_leaf_69 : decode cX12_leaf 69 = .ok (.lreturn, 1) := by decide +kernel
theorem dX12_leaf_70 : decode cX12_leaf 70 = .ok (.lconst 1, 1) := by decide +kernel
theorem dX12_leaf_71 : decode cX12_leaf 71 = .ok (.lreturn, 1) := by decide +kernel
set_option maxRecDepth 20000 in
theorem ggX12_works_X12_leaf : GoodIn wsX12_works wsX12_leaf := goodIn_r _ [9, 10, 11, 12, 13, 8, 14, 15, 1, 27, 28, 29, 30, 31, 32, 33, 34, 35, 36, 37, 38, 39, 40, 41, 42, 43, 44, 45, 46, 47, 48, 49, 50, 51, 52, 53, 54, 55, 56, 57, 58, 59, 60, 61, 62, 63, 64, 65, 66, 67, 68, 69, 70, 71, 72, 73, 74, 75, 76, 77, 78, 79, 80, 81, 82, 83, 84, 85, 86, 87, 88, 89, 90, 91, 92, 93, 94, 95, 96, 97, 98, 99, 100, 101] rfl (by decide +kernel)
set_option maxRecDepth 20000 in
theorem gX12_works_X12_leaf : GoodIn wsX12_works (wsV RX12 414 RX12 yX12_leaf wsX12_leaf) := goodIn_app (goodIn_of _ (by decide +kernel)) ggX12_works_X12_leaf
set_option maxRecDepth 20000 in
theorem ggX12_works_X12_joined : GoodIn wsX12_works wsX12_joined := goodIn_r _ [18, 19, 20, 8, 21, 22, 23, 24, 25, 26] (by decide +kernel) (by decide +kernel)
set_option maxRecDepth 20000 in
theorem gX12_works_X12_joined : GoodIn wsX12_works (va_wsS RX12 418 yX12_joined wsX12_joined) := goodIn_app (goodIn_of _ (by decide +kernel)) ggX12_works_X12_joined
theorem dX12_works_0 : decode cX12_works 0 = .ok (.iconst 0, 1) := by decide +kernel
theorem dX12_works_1 : decode cX12_works 1 = .ok (.istore_n 3, 1) := by decide +kernel
theorem dX12_works_2 : decode cX12_works 2 = .ok (.sipush 900, 3) := by decide +kernel
theorem dX12_works_5 : decode cX12_works 5 = .ok (.aload_n 0, 1) := by decide +kernel
theorem dX12_works_6 : decode cX12_works 6 = .ok (.getfield 48, 3) := by decide +kernel
theorem dX12_works_9 : decode cX12_works 9 = .ok (.imul, 1) := by decide +kernel
theorem dX12_works_10 : decode cX12_works 10 = .ok (.iload_n 1, 1) := by decide +kernel
theorem dX12_works_11 : decode cX12_works 11 = .ok (.iadd, 1) := by decide +kernel
theorem dX12_works_12 : decode cX12_works 12 = .ok (.istore 4, 2) := by decide +kernel
theorem dX12_works_14 : decode cX12_works 14 = .ok (.iload 4, 2) := by decide +kernel
theorem dX12_works_16 : decode cX12_works 16 = .ok (.sipush 900, 3) := by decide +kernel
theorem dX12_works_19 : decode cX12_works 19 = .ok (.aload_n 0, 1) := by decide +kernel
theorem dX12_works_20 : decode cX12_works 20 = .ok (.getfield 48, 3) := by decide +kernel
theorem dX12_works_23 : decode cX12_works 23 = .ok (.imul, 1) := by decide +kernel
theorem dX12_works_24 : decode cX12_works 24 = .ok (.iload_n 2, 1) := by decide +kernel
theorem dX12_works_25 : decode cX12_works 25 = .ok (.iadd, 1) := by decide +kernel
theorem dX12_works_26 : decode cX12_works 26 = .ok (.if_icmp .ge 107, 3) := by decide +kernel
theorem dX12_works_29 : decode cX12_works 29 = .ok (.aload_n 0, 1) := by decide +kernel
theorem dX12_works_30 : decode cX12_works 30 = .ok (.getfield 98, 3) := by decide +kernel
theorem dX12_works_33 : decode cX12_works 33 = .ok (.iload 4, 2) := by decide +kernel
theorem dX12_works_35 : decode cX12_works 35 = .ok (.iaload, 1) := by decide +kernel
theorem dX12_works_36 : decode cX12_works 36 = .ok (.istore 5, 2) := by decide +kernel
theorem dX12_works_38 : decode cX12_works 38 = .ok (.iload 5, 2) := by decide +kernel
theorem dX12_works_40 : decode cX12_works 40 = .ok (.iconst 5, 1) := by decide +kernel
theorem dX12_works_41 : decode cX12_works 41 = .ok (.if_icmp .gt 28, 3) := by decide +kernel
theorem dX12_works_44 : decode cX12_works 44 = .ok (.aload_n 0, 1) := by decide +kernel
theorem dX12_works_45 : decode cX12_works 45 = .ok (.getfield 159, 3) := by decide +kernel
theorem dX12_works_48 : decode cX12_works 48 = .ok (.iload_n 3, 1) := by decide +kernel
theorem dX12_works_49 : decode cX12_works 49 = .ok (.aload_n 0, 1) := by decide +kernel
theorem dX12_works_50 : decode cX12_works 50 = .ok (.iload 5, 2) := by decide +kernel
theorem dX12_works_52 : decode cX12_works 52 = .ok (.aload_n 0, 1) := by decide +kernel
theorem dX12_works_53 : decode cX12_works 53 = .ok (.getfield 101, 3) := by decide +kernel
theorem dX12_works_56 : decode cX12_works 56 = .ok (.iload 4, 2) := by decide +kernel
theorem dX12_works_58 : decode cX12_works 58 = .ok (.iaload, 1) := by decide +kernel
theorem dX12_works_59 : decode cX12_works 59 = .ok (.invokevirtual 414, 3) := by decide +kernel
theorem dX12_works_62 : decode cX12_works 62 = .ok (.lastore, 1) := by decide +kernel
theorem dX12_works_63 : decode cX12_works 63 = .ok (.iinc 3 1, 3) := by decide +kernel
theorem dX12_works_66 : decode cX12_works 66 = .ok (.goto 61, 3) := by decide +kernel
theorem dX12_works_69 : decode cX12_works 69 = .ok (.iload 5, 2) := by decide +kernel
theorem dX12_works_71 : decode cX12_works 71 = .ok (.bipush 18, 2) := by decide +kernel
theorem dX12_works_73 : decode cX12_works 73 = .ok (.if_icmp .ne 24, 3) := by decide +kernel
theorem dX12_works_76 : decode cX12_works 76 = .ok (.aload_n 0, 1) := by decide +kernel
theorem dX12_works_77 : decode cX12_works 77 = .ok (.getfield 159, 3) := by decide +kernel
theorem dX12_works_80 : decode cX12_works 80 = .ok (.iload_n 3, 1) := by decide +kernel
theorem dX12_works_81 : decode cX12_works 81 = .ok (.iconst 1, 1) := by decide +kernel
theorem dX12_works_82 : decode cX12_works 82 = .ok (.isub, 1) := by decide +kernel
theorem dX12_works_83 : decode cX12_works 83 = .ok (.lconst 1, 1) := by decide +kernel
theorem dX12_works_84 : decode cX12_works 84 = .ok (.aload_n 0, 1) := by decide +kernel
theorem dX12_works_85 : decode cX12_works 85 = .ok (.getfield 159, 3) := by decide +kernel
theorem dX12_works_88 : decode cX12_works 88 = .ok (.iload_n 3, 1) := by decide +kernel
theorem dX12_works_89 : decode cX12_works 89 = .ok (.iconst 1, 1) := by decide +kernel
theorem dX12_works_90 : decode cX12_works 90 = .ok (.isub, 1) := by decide +kernel
theorem dX12_works_91 : decode cX12_works 91 = .ok (.laload, 1) := by decide +kernel
theorem dX12_works_92 : decode cX12_works 92 = .ok (.lsub, 1) := by decide +kernel
theorem dX12_works_93 : decode cX12_works 93 = .ok (.lastore, 1) := by decide +kernel
theorem dX12_works_94 : decode cX12_works 94 = .ok (.goto 33, 3) := by decide +kernel
theorem dX12_works_97 : decode cX12_works 97 = .ok (.iinc 3 (-1), 3) := by decide +kernel
theorem dX12_works_100 : decode cX12_works 100 = .ok (.aload_n 0, 1) := by decide +kernel
theorem dX12_works_101 : decode cX12_works 101 = .ok (.getfield 159, 3) := by decide +kernel
theorem dX12_works_104 : decode cX12_works 104 = .ok (.iload_n 3, 1) := by decide +kernel
theorem dX12_works_105 : decode cX12_works 105 = .ok (.iconst 1, 1) := by decide +kernel
theorem dX12_works_106 : decode cX12_works 106 = .ok (.isub, 1) := by decide +kernel
theorem dX12_works_107 : decode cX12_works 107 = .ok (.iload 5, 2) := by decide +kernel
theorem dX12_works_109 : decode cX12_works 109 = .ok (.aload_n 0, 1) := by decide +kernel
theorem dX12_works_110 : decode cX12_works 110 = .ok (.getfield 159, 3) := by decide +kernel
theorem dX12_works_113 : decode cX12_works 113 = .ok (.iload_n 3, 1) := by decide +kernel
theorem dX12_works_114 : decode cX12_works 114 = .ok (.iconst 1, 1) := by decide +kernel
theorem dX12_works_115 : decode cX12_works 115 = .ok (.isub, 1) := by decide +kernel
theorem dX12_works_116 : decode cX12_works 116 = .ok (.laload, 1) := by decide +kernel
theorem dX12_works_117 : decode cX12_works 117 = .ok (.aload_n 0, 1) := by decide +kernel
theorem dX12_works_118 : decode cX12_works 118 = .ok (.getfield 159, 3) := by decide +kernel
theorem dX12_works_121 : decode cX12_works 121 = .ok (.iload_n 3, 1) := by decide +kernel
theorem dX12_works_122 : decode cX12_works 122 = .ok (.laload, 1) := by decide +kernel
theorem dX12_works_123 : decode cX12_works 123 = .ok (.invokestatic 418, 3) := by decide +kernel
theorem dX12_works_126 : decode cX12_works 126 = .ok (.lastore, 1) := by decide +kernel
theorem dX12_works_127 : decode cX12_works 127 = .ok (.iinc 4 1, 3) := by decide +kernel
theorem dX12_works_130 : decode cX12_works 130 = .ok (.goto (-116), 3) := by decide +kernel
theorem dX12_works_133 : decode cX12_works 133 = .ok (.aload_n 0, 1) := by decide +kernel
theorem dX12_works_134 : decode cX12_works 134 = .ok (.getfield 159, 3) := by decide +kernel
theorem dX12_works_137 : decode cX12_works 137 = .ok (.iconst 0, 1) := by decide +kernel
theorem dX12_works_138 : decode cX12_works 138 = .ok (.laload, 1) := by decide +kernel
theorem dX12_works_139 : decode cX12_works 139 = .ok (.lreturn, 1) := by decide +kernel
set_option maxRecDepth 20000 in
theorem ggX12_worthOf_X12_now : GoodIn wsX12_worthOf wsX12_now := goodIn_r _ [15, 16, 17, 46, 47, 48, 49, 50, 51, 52, 53, 54, 55, 56, 57, 58, 59, 60, 61, 62, 63, 64, 65, 66, 67, 68, 69, 70, 71, 72, 73, 74, 75, 76, 77, 78, 79, 80, 81, 82, 83, 84, 85, 86, 87, 88, 89, 90, 91, 92, 93, 94, 95, 96, 97, 98, 99, 100, 101, 102, 103, 104, 105, 106, 107, 108, 109, 110, 111, 112, 113, 114, 115, 116, 117, 118, 119, 120] rfl (by decide +kernel)
set_option maxRecDepth 20000 in
theorem gX12_worthOf_X12_now : GoodIn wsX12_worthOf (wsV RX12 371 RX12 yX12_now wsX12_now) := goodIn_app (goodIn_of _ (by decide +kernel)) ggX12_worthOf_X12_now
set_option maxRecDepth 20000 in
theorem ggX12_worthOf_X12_works : GoodIn wsX12_worthOf wsX12_works := goodIn_r _ [21, 4, 22, 23, 24, 25, 26, 27, 14, 28, 29, 30, 31, 32, 33, 34, 35, 36, 37, 38, 39, 40, 41, 42, 43, 44, 45, 46, 47, 48, 49, 50, 51, 52, 53, 54, 55, 56, 57, 58, 59, 60, 61, 62, 63, 64, 65, 66, 67, 68, 69, 70, 71, 72, 73, 74, 75, 76, 77, 78, 79, 80, 81, 82, 83, 84, 85, 86, 87, 88, 89, 90, 91, 92, 93, 94, 95, 96, 97, 98, 99, 100, 101, 102, 103, 104, 105, 106, 107, 108, 109, 110, 111, 112, 113, 114, 115, 116, 117, 118, 119, 120] rfl (by decide +kernel)
set_option maxRecDepth 20000 in
theorem gX12_worthOf_X12_works : GoodIn wsX12_worthOf (wsV RX12 422 RX12 yX12_works wsX12_works) := goodIn_app (goodIn_of _ (by decide +kernel)) ggX12_worthOf_X12_works
theorem dX12_worthOf_0 : decode cX12_worthOf 0 = .ok (.bipush (-2), 2) := by decide +kernel
theorem dX12_worthOf_2 : decode cX12_worthOf 2 = .ok (.istore_n 2, 1) := by decide +kernel
theorem dX12_worthOf_3 : decode cX12_worthOf 3 = .ok (.iconst 1, 1) := by decide +kernel
theorem dX12_worthOf_4 : decode cX12_worthOf 4 = .ok (.istore_n 3, 1) := by decide +kernel
theorem dX12_worthOf_5 : decode cX12_worthOf 5 = .ok (.iload_n 3, 1) := by decide +kernel
theorem dX12_worthOf_6 : decode cX12_worthOf 6 = .ok (.aload_n 0, 1) := by decide +kernel
theorem dX12_worthOf_7 : decode cX12_worthOf 7 = .ok (.invokevirtual 371, 3) := by decide +kernel
theorem dX12_worthOf_10 : decode cX12_worthOf 10 = .ok (.if_icmp .gt 48, 3) := by decide +kernel
theorem dX12_worthOf_13 : decode cX12_worthOf 13 = .ok (.aload_n 0, 1) := by decide +kernel
theorem dX12_worthOf_14 : decode cX12_worthOf 14 = .ok (.getfield 150, 3) := by decide +kernel
theorem dX12_worthOf_17 : decode cX12_worthOf 17 = .ok (.iload_n 3, 1) := by decide +kernel
theorem dX12_worthOf_18 : decode cX12_worthOf 18 = .ok (.iaload, 1) := by decide +kernel
theorem dX12_worthOf_19 : decode cX12_worthOf 19 = .ok (.iload_n 1, 1) := by decide +kernel
theorem dX12_worthOf_20 : decode cX12_worthOf 20 = .ok (.if_icmp .ne 32, 3) := by decide +kernel
theorem dX12_worthOf_23 : decode cX12_worthOf 23 = .ok (.aload_n 0, 1) := by decide +kernel
theorem dX12_worthOf_24 : decode cX12_worthOf 24 = .ok (.getfield 156, 3) := by decide +kernel
theorem dX12_worthOf_27 : decode cX12_worthOf 27 = .ok (.iload_n 3, 1) := by decide +kernel
theorem dX12_worthOf_28 : decode cX12_worthOf 28 = .ok (.iaload, 1) := by decide +kernel
theorem dX12_worthOf_29 : decode cX12_worthOf 29 = .ok (.ifCond .eq 16, 3) := by decide +kernel
theorem dX12_worthOf_32 : decode cX12_worthOf 32 = .ok (.aload_n 0, 1) := by decide +kernel
theorem dX12_worthOf_33 : decode cX12_worthOf 33 = .ok (.getfield 156, 3) := by decide +kernel
theorem dX12_worthOf_36 : decode cX12_worthOf 36 = .ok (.iload_n 3, 1) := by decide +kernel
theorem dX12_worthOf_37 : decode cX12_worthOf 37 = .ok (.iaload, 1) := by decide +kernel
theorem dX12_worthOf_38 : decode cX12_worthOf 38 = .ok (.aload_n 0, 1) := by decide +kernel
theorem dX12_worthOf_39 : decode cX12_worthOf 39 = .ok (.invokevirtual 371, 3) := by decide +kernel
theorem dX12_worthOf_42 : decode cX12_worthOf 42 = .ok (.if_icmp .le 10, 3) := by decide +kernel
theorem dX12_worthOf_45 : decode cX12_worthOf 45 = .ok (.aload_n 0, 1) := by decide +kernel
theorem dX12_worthOf_46 : decode cX12_worthOf 46 = .ok (.getfield 153, 3) := by decide +kernel
theorem dX12_worthOf_49 : decode cX12_worthOf 49 = .ok (.iload_n 3, 1) := by decide +kernel
theorem dX12_worthOf_50 : decode cX12_worthOf 50 = .ok (.iaload, 1) := by decide +kernel
theorem dX12_worthOf_51 : decode cX12_worthOf 51 = .ok (.istore_n 2, 1) := by decide +kernel
theorem dX12_worthOf_52 : decode cX12_worthOf 52 = .ok (.iinc 3 1, 3) := by decide +kernel
theorem dX12_worthOf_55 : decode cX12_worthOf 55 = .ok (.goto (-50), 3) := by decide +kernel
theorem dX12_worthOf_58 : decode cX12_worthOf 58 = .ok (.iload_n 2, 1) := by decide +kernel
theorem dX12_worthOf_59 : decode cX12_worthOf 59 = .ok (.bipush (-2), 2) := by decide +kernel
theorem dX12_worthOf_61 : decode cX12_worthOf 61 = .ok (.if_icmp .eq 5, 3) := by decide +kernel
theorem dX12_worthOf_64 : decode cX12_worthOf 64 = .ok (.iload_n 2, 1) := by decide +kernel
theorem dX12_worthOf_65 : decode cX12_worthOf 65 = .ok (.ireturn, 1) := by decide +kernel
theorem dX12_worthOf_66 : decode cX12_worthOf 66 = .ok (.bipush 30, 2) := by decide +kernel
theorem dX12_worthOf_68 : decode cX12_worthOf 68 = .ok (.aload_n 0, 1) := by decide +kernel
theorem dX12_worthOf_69 : decode cX12_worthOf 69 = .ok (.getfield 48, 3) := by decide +kernel
theorem dX12_worthOf_72 : decode cX12_worthOf 72 = .ok (.imul, 1) := by decide +kernel
theorem dX12_worthOf_73 : decode cX12_worthOf 73 = .ok (.iload_n 1, 1) := by decide +kernel
theorem dX12_worthOf_74 : decode cX12_worthOf 74 = .ok (.iadd, 1) := by decide +kernel
theorem dX12_worthOf_75 : decode cX12_worthOf 75 = .ok (.istore_n 3, 1) := by decide +kernel
theorem dX12_worthOf_76 : decode cX12_worthOf 76 = .ok (.aload_n 0, 1) := by decide +kernel
theorem dX12_worthOf_77 : decode cX12_worthOf 77 = .ok (.getfield 82, 3) := by decide +kernel
theorem dX12_worthOf_80 : decode cX12_worthOf 80 = .ok (.iload_n 3, 1) := by decide +kernel
theorem dX12_worthOf_81 : decode cX12_worthOf 81 = .ok (.iaload, 1) := by decide +kernel
theorem dX12_worthOf_82 : decode cX12_worthOf 82 = .ok (.aload_n 0, 1) := by decide +kernel
theorem dX12_worthOf_83 : decode cX12_worthOf 83 = .ok (.getfield 85, 3) := by decide +kernel
theorem dX12_worthOf_86 : decode cX12_worthOf 86 = .ok (.iload_n 3, 1) := by decide +kernel
theorem dX12_worthOf_87 : decode cX12_worthOf 87 = .ok (.iaload, 1) := by decide +kernel
theorem dX12_worthOf_88 : decode cX12_worthOf 88 = .ok (.if_icmp .ge 26, 3) := by decide +kernel
theorem dX12_worthOf_91 : decode cX12_worthOf 91 = .ok (.aload_n 0, 1) := by decide +kernel
theorem dX12_worthOf_92 : decode cX12_worthOf 92 = .ok (.aload_n 0, 1) := by decide +kernel
theorem dX12_worthOf_93 : decode cX12_worthOf 93 = .ok (.getfield 82, 3) := by decide +kernel
theorem dX12_worthOf_96 : decode cX12_worthOf 96 = .ok (.iload_n 3, 1) := by decide +kernel
theorem dX12_worthOf_97 : decode cX12_worthOf 97 = .ok (.iaload, 1) := by decide +kernel
theorem dX12_worthOf_98 : decode cX12_worthOf 98 = .ok (.aload_n 0, 1) := by decide +kernel
theorem dX12_worthOf_99 : decode cX12_worthOf 99 = .ok (.getfield 85, 3) := by decide +kernel
theorem dX12_worthOf_102 : decode cX12_worthOf 102 = .ok (.iload_n 3, 1) := by decide +kernel
theorem dX12_worthOf_103 : decode cX12_worthOf 103 = .ok (.iaload, 1) := by decide +kernel
theorem dX12_worthOf_104 : decode cX12_worthOf 104 = .ok (.invokevirtual 422, 3) := by decide +kernel
theorem dX12_worthOf_107 : decode cX12_worthOf 107 = .ok (.lconst 0, 1) := by decide +kernel
theorem dX12_worthOf_108 : decode cX12_worthOf 108 = .ok (.lcmp, 1) := by decide +kernel
theorem dX12_worthOf_109 : decode cX12_worthOf 109 = .ok (.ifCond .ne 5, 3) := by decide +kernel
theorem dX12_worthOf_112 : decode cX12_worthOf 112 = .ok (.iconst (-1), 1) := by decide +kernel
theorem dX12_worthOf_113 : decode cX12_worthOf 113 = .ok (.ireturn, 1) := by decide +kernel
theorem dX12_worthOf_114 : decode cX12_worthOf 114 = .ok (.aload_n 0, 1) := by decide +kernel
theorem dX12_worthOf_115 : decode cX12_worthOf 115 = .ok (.aload_n 0, 1) := by decide +kernel
theorem dX12_worthOf_116 : decode cX12_worthOf 116 = .ok (.getfield 76, 3) := by decide +kernel
theorem dX12_worthOf_119 : decode cX12_worthOf 119 = .ok (.iload_n 3, 1) := by decide +kernel
theorem dX12_worthOf_120 : decode cX12_worthOf 120 = .ok (.iaload, 1) := by decide +kernel
theorem dX12_worthOf_121 : decode cX12_worthOf 121 = .ok (.aload_n 0, 1) := by decide +kernel
theorem dX12_worthOf_122 : decode cX12_worthOf 122 = .ok (.getfield 79, 3) := by decide +kernel
theorem dX12_worthOf_125 : decode cX12_worthOf 125 = .ok (.iload_n 3, 1) := by decide +kernel
theorem dX12_worthOf_126 : decode cX12_worthOf 126 = .ok (.iaload, 1) := by decide +kernel
theorem dX12_worthOf_127 : decode cX12_worthOf 127 = .ok (.invokevirtual 422, 3) := by decide +kernel
theorem dX12_worthOf_130 : decode cX12_worthOf 130 = .ok (.lstore 4, 2) := by decide +kernel
theorem dX12_worthOf_132 : decode cX12_worthOf 132 = .ok (.lload 4, 2) := by decide +kernel
theorem dX12_worthOf_134 : decode cX12_worthOf 134 = .ok (.lconst 0, 1) := by decide +kernel
theorem dX12_worthOf_135 : decode cX12_worthOf 135 = .ok (.lcmp, 1) := by decide +kernel
theorem dX12_worthOf_136 : decode cX12_worthOf 136 = .ok (.ifCond .ge 7, 3) := by decide +kernel
theorem dX12_worthOf_139 : decode cX12_worthOf 139 = .ok (.iconst 0, 1) := by decide +kernel
theorem dX12_worthOf_140 : decode cX12_worthOf 140 = .ok (.goto 21, 3) := by decide +kernel
theorem dX12_worthOf_143 : decode cX12_worthOf 143 = .ok (.lload 4, 2) := by decide +kernel
theorem dX12_worthOf_145 : decode cX12_worthOf 145 = .ok (.ldc2_w 425, 3) := by decide +kernel
theorem dX12_worthOf_148 : decode cX12_worthOf 148 = .ok (.lcmp, 1) := by decide +kernel
theorem dX12_worthOf_149 : decode cX12_worthOf 149 = .ok (.ifCond .le 9, 3) := by decide +kernel
theorem dX12_worthOf_152 : decode cX12_worthOf 152 = .ok (.ldc_w 395, 3) := by decide +kernel
theorem dX12_worthOf_155 : decode cX12_worthOf 155 = .ok (.goto 6, 3) := by decide +kernel
theorem dX12_worthOf_158 : decode cX12_worthOf 158 = .ok (.lload 4, 2) := by decide +kernel
theorem dX12_worthOf_160 : decode cX12_worthOf 160 = .ok (.l2i, 1) := by decide +kernel
theorem dX12_worthOf_161 : decode cX12_worthOf 161 = .ok (.ireturn, 1) := by decide +kernel
set_option maxRecDepth 20000 in
theorem ggX12_gainOf_X12_first : GoodIn wsX12_gainOf wsX12_first := goodIn_r _ [7, 8, 9, 20, 21, 22, 23, 24, 25, 26, 27, 28, 29, 30, 31, 32, 33, 34, 35, 36, 37, 38, 39, 40, 41, 42, 43, 44, 45, 46, 47, 48, 49, 50, 51, 52, 53, 54, 55, 56, 57, 58, 59, 60, 61, 62, 63, 64, 65, 66, 67, 68, 69, 70, 71, 72, 73, 74, 75, 76, 77, 78, 79, 80, 81, 82, 83, 84, 85, 86, 87, 88, 89, 90, 91, 92, 93, 94] rfl (by decide +kernel)
set_option maxRecDepth 20000 in
theorem gX12_gainOf_X12_first : GoodIn wsX12_gainOf (wsV RX12 389 RX12 yX12_first wsX12_first) := goodIn_app (goodIn_of _ (by decide +kernel)) ggX12_gainOf_X12_first
set_option maxRecDepth 20000 in
theorem ggX12_gainOf_X12_aloneOf : GoodIn wsX12_gainOf wsX12_aloneOf := goodIn_r _ [13, 14, 9, 20, 21, 22, 23, 24, 25, 26, 27, 28, 29, 30, 31, 32, 33, 34, 35, 36, 37, 38, 39, 40, 41, 42, 43, 44, 45, 46, 47, 48, 49, 50, 51, 52, 53, 54, 55, 56, 57, 58, 59, 60, 61, 62, 63, 64, 65, 66, 67, 68, 69, 70, 71, 72, 73, 74, 75, 76, 77, 78, 79, 80, 81, 82, 83, 84, 85, 86, 87, 88, 89, 90, 91, 92, 93, 94] rfl (by decide +kernel)
set_option maxRecDepth 20000 in
theorem gX12_gainOf_X12_aloneOf : GoodIn wsX12_gainOf (wsV RX12 411 RX12 yX12_aloneOf wsX12_aloneOf) := goodIn_app (goodIn_of _ (by decide +kernel)) ggX12_gainOf_X12_aloneOf
set_option maxRecDepth 20000 in
theorem ggX12_gainOf_X12_second : GoodIn wsX12_gainOf wsX12_second := goodIn_r _ [18, 19, 9, 20, 21, 22, 23, 24, 25, 26, 27, 28, 29, 30, 31, 32, 33, 34, 35, 36, 37, 38, 39, 40, 41, 42, 43, 44, 45, 46, 47, 48, 49, 50, 51, 52, 53, 54, 55, 56, 57, 58, 59, 60, 61, 62, 63, 64, 65, 66, 67, 68, 69, 70, 71, 72, 73, 74, 75, 76, 77, 78, 79, 80, 81, 82, 83, 84, 85, 86, 87, 88, 89, 90, 91, 92, 93, 94] rfl (by decide +kernel)
set_option maxRecDepth 20000 in
theorem gX12_gainOf_X12_second : GoodIn wsX12_gainOf (wsV RX12 392 RX12 yX12_second wsX12_second) := goodIn_app (goodIn_of _ (by decide +kernel)) ggX12_gainOf_X12_second
theorem dX12_gainOf_0 : decode cX12_gainOf 0 = .ok (.aload_n 0, 1) := by decide +kernel
theorem dX12_gainOf_1 : decode cX12_gainOf 1 = .ok (.getfield 165, 3) := by decide +kernel
theorem dX12_gainOf_4 : decode cX12_gainOf 4 = .ok (.iload_n 1, 1) := by decide +kernel
theorem dX12_gainOf_5 : decode cX12_gainOf 5 = .ok (.iaload, 1) := by decide +kernel
theorem dX12_gainOf_6 : decode cX12_gainOf 6 = .ok (.aload_n 0, 1) := by decide +kernel
theorem dX12_gainOf_7 : decode cX12_gainOf 7 = .ok (.aload_n 0, 1) := by decide +kernel
theorem dX12_gainOf_8 : decode cX12_gainOf 8 = .ok (.iload_n 1, 1) := by decide +kernel
theorem dX12_gainOf_9 : decode cX12_gainOf 9 = .ok (.invokevirtual 389, 3) := by decide +kernel
theorem dX12_gainOf_12 : decode cX12_gainOf 12 = .ok (.invokevirtual 411, 3) := by decide +kernel
theorem dX12_gainOf_15 : decode cX12_gainOf 15 = .ok (.isub, 1) := by decide +kernel
theorem dX12_gainOf_16 : decode cX12_gainOf 16 = .ok (.aload_n 0, 1) := by decide +kernel
theorem dX12_gainOf_17 : decode cX12_gainOf 17 = .ok (.aload_n 0, 1) := by decide +kernel
theorem dX12_gainOf_18 : decode cX12_gainOf 18 = .ok (.iload_n 1, 1) := by decide +kernel
theorem dX12_gainOf_19 : decode cX12_gainOf 19 = .ok (.invokevirtual 392, 3) := by decide +kernel
theorem dX12_gainOf_22 : decode cX12_gainOf 22 = .ok (.invokevirtual 411, 3) := by decide +kernel
theorem dX12_gainOf_25 : decode cX12_gainOf 25 = .ok (.isub, 1) := by decide +kernel
theorem dX12_gainOf_26 : decode cX12_gainOf 26 = .ok (.istore_n 2, 1) := by decide +kernel
theorem dX12_gainOf_27 : decode cX12_gainOf 27 = .ok (.aload_n 0, 1) := by decide +kernel
theorem dX12_gainOf_28 : decode cX12_gainOf 28 = .ok (.getfield 162, 3) := by decide +kernel
theorem dX12_gainOf_31 : decode cX12_gainOf 31 = .ok (.iload_n 1, 1) := by decide +kernel
theorem dX12_gainOf_32 : decode cX12_gainOf 32 = .ok (.baload, 1) := by decide +kernel
theorem dX12_gainOf_33 : decode cX12_gainOf 33 = .ok (.ifCond .eq 11, 3) := by decide +kernel
theorem dX12_gainOf_36 : decode cX12_gainOf 36 = .ok (.iload_n 2, 1) := by decide +kernel
theorem dX12_gainOf_37 : decode cX12_gainOf 37 = .ok (.ifCond .le 7, 3) := by decide +kernel
theorem dX12_gainOf_40 : decode cX12_gainOf 40 = .ok (.iload_n 2, 1) := by decide +kernel
theorem dX12_gainOf_41 : decode cX12_gainOf 41 = .ok (.goto 4, 3) := by decide +kernel
theorem dX12_gainOf_44 : decode cX12_gainOf 44 = .ok (.iconst 0, 1) := by decide +kernel
theorem dX12_gainOf_45 : decode cX12_gainOf 45 = .ok (.ireturn, 1) := by decide +kernel
set_option maxRecDepth 20000 in
theorem ggX12_lays_X12_worthOf : GoodIn wsX12_lays wsX12_worthOf := goodIn_r _ [11, 12, 13, 14, 3, 15, 16, 17, 18, 19, 20, 21, 22, 23, 10, 24, 25, 26, 27, 28, 29, 30, 31, 32, 33, 34, 35, 36, 37, 38, 39, 40, 41, 42, 43, 44, 45, 46, 47, 48, 49, 50, 51, 52, 53, 54, 69, 70, 71, 72, 73, 74, 75, 76, 77, 78, 79, 80, 81, 82, 83, 84, 85, 86, 87, 88, 89, 90, 91, 92, 93, 94, 95, 96, 97, 98, 99, 100, 101, 102, 103, 104, 105, 106, 107, 108, 109, 110, 111, 112, 113, 114, 115, 116, 117, 118, 119, 120, 121, 122, 123, 124, 125, 126, 127, 128, 129, 130, 131, 132, 133, 134, 135, 136, 137, 138, 139, 140, 141, 142, 143] rfl (by decide +kernel)
set_option maxRecDepth 20000 in
theorem gX12_lays_X12_worthOf : GoodIn wsX12_lays (wsV RX12 427 RX12 yX12_worthOf wsX12_worthOf) := goodIn_app (goodIn_of _ (by decide +kernel)) ggX12_lays_X12_worthOf
set_option maxRecDepth 20000 in
theorem ggX12_lays_X12_first : GoodIn wsX12_lays wsX12_first := goodIn_r _ [58, 59, 3, 69, 70, 71, 72, 73, 74, 75, 76, 77, 78, 79, 80, 81, 82, 83, 84, 85, 86, 87, 88, 89, 90, 91, 92, 93, 94, 95, 96, 97, 98, 99, 100, 101, 102, 103, 104, 105, 106, 107, 108, 109, 110, 111, 112, 113, 114, 115, 116, 117, 118, 119, 120, 121, 122, 123, 124, 125, 126, 127, 128, 129, 130, 131, 132, 133, 134, 135, 136, 137, 138, 139, 140, 141, 142, 143] rfl (by decide +kernel)
set_option maxRecDepth 20000 in
theorem gX12_lays_X12_first : GoodIn wsX12_lays (wsV RX12 389 RX12 yX12_first wsX12_first) := goodIn_app (goodIn_of _ (by decide +kernel)) ggX12_lays_X12_first
set_option maxRecDepth 20000 in
theorem ggX12_lays_X12_second : GoodIn wsX12_lays wsX12_second := goodIn_r _ [63, 64, 3, 69, 70, 71, 72, 73, 74, 75, 76, 77, 78, 79, 80, 81, 82, 83, 84, 85, 86, 87, 88, 89, 90, 91, 92, 93, 94, 95, 96, 97, 98, 99, 100, 101, 102, 103, 104, 105, 106, 107, 108, 109, 110, 111, 112, 113, 114, 115, 116, 117, 118, 119, 120, 121, 122, 123, 124, 125, 126, 127, 128, 129, 130, 131, 132, 133, 134, 135, 136, 137, 138, 139, 140, 141, 142, 143] rfl (by decide +kernel)
set_option maxRecDepth 20000 in
theorem gX12_lays_X12_second : GoodIn wsX12_lays (wsV RX12 392 RX12 yX12_second wsX12_second) := goodIn_app (goodIn_of _ (by decide +kernel)) ggX12_lays_X12_second
set_option maxRecDepth 20000 in
theorem ggX12_lays_X12_gainOf : GoodIn wsX12_lays wsX12_gainOf := goodIn_r _ [68, 5, 4, 55, 56, 57, 10, 58, 59, 3, 39, 40, 41, 42, 43, 60, 61, 62, 63, 64, 69, 70, 71, 72, 73, 74, 75, 76, 77, 78, 79, 80, 81, 82, 83, 84, 85, 86, 87, 88, 89, 90, 91, 92, 93, 94, 95, 96, 97, 98, 99, 100, 101, 102, 103, 104, 105, 106, 107, 108, 109, 110, 111, 112, 113, 114, 115, 116, 117, 118, 119, 120, 121, 122, 123, 124, 125, 126, 127, 128, 129, 130, 131, 132, 133, 134, 135, 136, 137, 138, 139, 140, 141, 142, 143] rfl (by decide +kernel)
set_option maxRecDepth 20000 in
theorem gX12_lays_X12_gainOf : GoodIn wsX12_lays (wsV RX12 430 RX12 yX12_gainOf wsX12_gainOf) := goodIn_app (goodIn_of _ (by decide +kernel)) ggX12_lays_X12_gainOf
theorem dX12_lays_0 : decode cX12_lays 0 = .ok (.iconst 0, 1) := by decide +kernel
theorem dX12_lays_1 : decode cX12_lays 1 = .ok (.istore_n 3, 1) := by decide +kernel
theorem dX12_lays_2 : decode cX12_lays 2 = .ok (.iload_n 3, 1) := by decide +kernel
theorem dX12_lays_3 : decode cX12_lays 3 = .ok (.sipush 144, 3) := by decide +kernel
theorem dX12_lays_6 : decode cX12_lays 6 = .ok (.if_icmp .ge 16, 3) := by decide +kernel
theorem dX12_lays_9 : decode cX12_lays 9 = .ok (.aload_n 0, 1) := by decide +kernel
theorem dX12_lays_10 : decode cX12_lays 10 = .ok (.getfield 168, 3) := by decide +kernel
theorem dX12_lays_13 : decode cX12_lays 13 = .ok (.iload_n 3, 1) := by decide +kernel
theorem dX12_lays_14 : decode cX12_lays 14 = .ok (.iconst 0, 1) := by decide +kernel
theorem dX12_lays_15 : decode cX12_lays 15 = .ok (.iastore, 1) := by decide +kernel
theorem dX12_lays_16 : decode cX12_lays 16 = .ok (.iinc 3 1, 3) := by decide +kernel
theorem dX12_lays_19 : decode cX12_lays 19 = .ok (.goto (-17), 3) := by decide +kernel
theorem dX12_lays_22 : decode cX12_lays 22 = .ok (.iconst 0, 1) := by decide +kernel
theorem dX12_lays_23 : decode cX12_lays 23 = .ok (.istore_n 3, 1) := by decide +kernel
theorem dX12_lays_24 : decode cX12_lays 24 = .ok (.iload_n 3, 1) := by decide +kernel
theorem dX12_lays_25 : decode cX12_lays 25 = .ok (.aload_n 0, 1) := by decide +kernel
theorem dX12_lays_26 : decode cX12_lays 26 = .ok (.getfield 54, 3) := by decide +kernel
theorem dX12_lays_29 : decode cX12_lays 29 = .ok (.aload_n 0, 1) := by decide +kernel
theorem dX12_lays_30 : decode cX12_lays 30 = .ok (.getfield 48, 3) := by decide +kernel
theorem dX12_lays_33 : decode cX12_lays 33 = .ok (.iaload, 1) := by decide +kernel
theorem dX12_lays_34 : decode cX12_lays 34 = .ok (.if_icmp .ge 156, 3) := by decide +kernel
theorem dX12_lays_37 : decode cX12_lays 37 = .ok (.iload_n 3, 1) := by decide +kernel
theorem dX12_lays_38 : decode cX12_lays 38 = .ok (.iload_n 1, 1) := by decide +kernel
theorem dX12_lays_39 : decode cX12_lays 39 = .ok (.if_icmp .ne 7, 3) := by decide +kernel
theorem dX12_lays_42 : decode cX12_lays 42 = .ok (.iload_n 2, 1) := by decide +kernel
theorem dX12_lays_43 : decode cX12_lays 43 = .ok (.goto 8, 3) := by decide +kernel
theorem dX12_lays_46 : decode cX12_lays 46 = .ok (.aload_n 0, 1) := by decide +kernel
theorem dX12_lays_47 : decode cX12_lays 47 = .ok (.iload_n 3, 1) := by decide +kernel
theorem dX12_lays_48 : decode cX12_lays 48 = .ok (.invokevirtual 427, 3) := by decide +kernel
theorem dX12_lays_51 : decode cX12_lays 51 = .ok (.istore 4, 2) := by decide +kernel
theorem dX12_lays_53 : decode cX12_lays 53 = .ok (.aload_n 0, 1) := by decide +kernel
theorem dX12_lays_54 : decode cX12_lays 54 = .ok (.getfield 162, 3) := by decide +kernel
theorem dX12_lays_57 : decode cX12_lays 57 = .ok (.iload_n 3, 1) := by decide +kernel
theorem dX12_lays_58 : decode cX12_lays 58 = .ok (.iload 4, 2) := by decide +kernel
theorem dX12_lays_60 : decode cX12_lays 60 = .ok (.iconst (-1), 1) := by decide +kernel
theorem dX12_lays_61 : decode cX12_lays 61 = .ok (.if_icmp .eq 7, 3) := by decide +kernel
theorem dX12_lays_64 : decode cX12_lays 64 = .ok (.iconst 1, 1) := by decide +kernel
theorem dX12_lays_65 : decode cX12_lays 65 = .ok (.goto 4, 3) := by decide +kernel
theorem dX12_lays_68 : decode cX12_lays 68 = .ok (.iconst 0, 1) := by decide +kernel
theorem dX12_lays_69 : decode cX12_lays 69 = .ok (.bastore, 1) := by decide +kernel
theorem dX12_lays_70 : decode cX12_lays 70 = .ok (.aload_n 0, 1) := by decide +kernel
theorem dX12_lays_71 : decode cX12_lays 71 = .ok (.getfield 165, 3) := by decide +kernel
theorem dX12_lays_74 : decode cX12_lays 74 = .ok (.iload_n 3, 1) := by decide +kernel
theorem dX12_lays_75 : decode cX12_lays 75 = .ok (.iload 4, 2) := by decide +kernel
theorem dX12_lays_77 : decode cX12_lays 77 = .ok (.aload_n 0, 1) := by decide +kernel
theorem dX12_lays_78 : decode cX12_lays 78 = .ok (.getfield 91, 3) := by decide +kernel
theorem dX12_lays_81 : decode cX12_lays 81 = .ok (.sipush 144, 3) := by decide +kernel
theorem dX12_lays_84 : decode cX12_lays 84 = .ok (.aload_n 0, 1) := by decide +kernel
theorem dX12_lays_85 : decode cX12_lays 85 = .ok (.getfield 48, 3) := by decide +kernel
theorem dX12_lays_88 : decode cX12_lays 88 = .ok (.imul, 1) := by decide +kernel
theorem dX12_lays_89 : decode cX12_lays 89 = .ok (.bipush 12, 2) := by decide +kernel
theorem dX12_lays_91 : decode cX12_lays 91 = .ok (.aload_n 0, 1) := by decide +kernel
theorem dX12_lays_92 : decode cX12_lays 92 = .ok (.iload_n 3, 1) := by decide +kernel
theorem dX12_lays_93 : decode cX12_lays 93 = .ok (.invokevirtual 389, 3) := by decide +kernel
theorem dX12_lays_96 : decode cX12_lays 96 = .ok (.imul, 1) := by decide +kernel
theorem dX12_lays_97 : decode cX12_lays 97 = .ok (.iadd, 1) := by decide +kernel
theorem dX12_lays_98 : decode cX12_lays 98 = .ok (.aload_n 0, 1) := by decide +kernel
theorem dX12_lays_99 : decode cX12_lays 99 = .ok (.iload_n 3, 1) := by decide +kernel
theorem dX12_lays_100 : decode cX12_lays 100 = .ok (.invokevirtual 392, 3) := by decide +kernel
theorem dX12_lays_103 : decode cX12_lays 103 = .ok (.iadd, 1) := by decide +kernel
theorem dX12_lays_104 : decode cX12_lays 104 = .ok (.iaload, 1) := by decide +kernel
theorem dX12_lays_105 : decode cX12_lays 105 = .ok (.iadd, 1) := by decide +kernel
theorem dX12_lays_106 : decode cX12_lays 106 = .ok (.aload_n 0, 1) := by decide +kernel
theorem dX12_lays_107 : decode cX12_lays 107 = .ok (.getfield 91, 3) := by decide +kernel
theorem dX12_lays_110 : decode cX12_lays 110 = .ok (.sipush 144, 3) := by decide +kernel
theorem dX12_lays_113 : decode cX12_lays 113 = .ok (.aload_n 0, 1) := by decide +kernel
theorem dX12_lays_114 : decode cX12_lays 114 = .ok (.getfield 48, 3) := by decide +kernel
theorem dX12_lays_117 : decode cX12_lays 117 = .ok (.imul, 1) := by decide +kernel
theorem dX12_lays_118 : decode cX12_lays 118 = .ok (.bipush 12, 2) := by decide +kernel
theorem dX12_lays_120 : decode cX12_lays 120 = .ok (.aload_n 0, 1) := by decide +kernel
theorem dX12_lays_121 : decode cX12_lays 121 = .ok (.iload_n 3, 1) := by decide +kernel
theorem dX12_lays_122 : decode cX12_lays 122 = .ok (.invokevirtual 392, 3) := by decide +kernel
theorem dX12_lays_125 : decode cX12_lays 125 = .ok (.imul, 1) := by decide +kernel
theorem dX12_lays_126 : decode cX12_lays 126 = .ok (.iadd, 1) := by decide +kernel
theorem dX12_lays_127 : decode cX12_lays 127 = .ok (.aload_n 0, 1) := by decide +kernel
theorem dX12_lays_128 : decode cX12_lays 128 = .ok (.iload_n 3, 1) := by decide +kernel
theorem dX12_lays_129 : decode cX12_lays 129 = .ok (.invokevirtual 389, 3) := by decide +kernel
theorem dX12_lays_132 : decode cX12_lays 132 = .ok (.iadd, 1) := by decide +kernel
theorem dX12_lays_133 : decode cX12_lays 133 = .ok (.iaload, 1) := by decide +kernel
theorem dX12_lays_134 : decode cX12_lays 134 = .ok (.iadd, 1) := by decide +kernel
theorem dX12_lays_135 : decode cX12_lays 135 = .ok (.iastore, 1) := by decide +kernel
theorem dX12_lays_136 : decode cX12_lays 136 = .ok (.aload_n 0, 1) := by decide +kernel
theorem dX12_lays_137 : decode cX12_lays 137 = .ok (.getfield 168, 3) := by decide +kernel
theorem dX12_lays_140 : decode cX12_lays 140 = .ok (.bipush 12, 2) := by decide +kernel
theorem dX12_lays_142 : decode cX12_lays 142 = .ok (.aload_n 0, 1) := by decide +kernel
theorem dX12_lays_143 : decode cX12_lays 143 = .ok (.iload_n 3, 1) := by decide +kernel
theorem dX12_lays_144 : decode cX12_lays 144 = .ok (.invokevirtual 389, 3) := by decide +kernel
theorem dX12_lays_147 : decode cX12_lays 147 = .ok (.imul, 1) := by decide +kernel
theorem dX12_lays_148 : decode cX12_lays 148 = .ok (.aload_n 0, 1) := by decide +kernel
theorem dX12_lays_149 : decode cX12_lays 149 = .ok (.iload_n 3, 1) := by decide +kernel
theorem dX12_lays_150 : decode cX12_lays 150 = .ok (.invokevirtual 392, 3) := by decide +kernel
theorem dX12_lays_153 : decode cX12_lays 153 = .ok (.iadd, 1) := by decide +kernel
theorem dX12_lays_154 : decode cX12_lays 154 = .ok (.aload_n 0, 1) := by decide +kernel
theorem dX12_lays_155 : decode cX12_lays 155 = .ok (.iload_n 3, 1) := by decide +kernel
theorem dX12_lays_156 : decode cX12_lays 156 = .ok (.invokevirtual 430, 3) := by decide +kernel
theorem dX12_lays_159 : decode cX12_lays 159 = .ok (.iastore, 1) := by decide +kernel
theorem dX12_lays_160 : decode cX12_lays 160 = .ok (.aload_n 0, 1) := by decide +kernel
theorem dX12_lays_161 : decode cX12_lays 161 = .ok (.getfield 168, 3) := by decide +kernel
theorem dX12_lays_164 : decode cX12_lays 164 = .ok (.bipush 12, 2) := by decide +kernel
theorem dX12_lays_166 : decode cX12_lays 166 = .ok (.aload_n 0, 1) := by decide +kernel
theorem dX12_lays_167 : decode cX12_lays 167 = .ok (.iload_n 3, 1) := by decide +kernel
theorem dX12_lays_168 : decode cX12_lays 168 = .ok (.invokevirtual 392, 3) := by decide +kernel
theorem dX12_lays_171 : decode cX12_lays 171 = .ok (.imul, 1) := by decide +kernel
theorem dX12_lays_172 : decode cX12_lays 172 = .ok (.aload_n 0, 1) := by decide +kernel
theorem dX12_lays_173 : decode cX12_lays 173 = .ok (.iload_n 3, 1) := by decide +kernel
theorem dX12_lays_174 : decode cX12_lays 174 = .ok (.invokevirtual 389, 3) := by decide +kernel
theorem dX12_lays_177 : decode cX12_lays 177 = .ok (.iadd, 1) := by decide +kernel
theorem dX12_lays_178 : decode cX12_lays 178 = .ok (.aload_n 0, 1) := by decide +kernel
theorem dX12_lays_179 : decode cX12_lays 179 = .ok (.iload_n 3, 1) := by decide +kernel
theorem dX12_lays_180 : decode cX12_lays 180 = .ok (.invokevirtual 430, 3) := by decide +kernel
theorem dX12_lays_183 : decode cX12_lays 183 = .ok (.iastore, 1) := by decide +kernel
theorem dX12_lays_184 : decode cX12_lays 184 = .ok (.iinc 3 1, 3) := by decide +kernel
theorem dX12_lays_187 : decode cX12_lays 187 = .ok (.goto (-163), 3) := by decide +kernel
theorem dX12_lays_190 : decode cX12_lays 190 = .ok (.return_, 1) := by decide +kernel
set_option maxRecDepth 20000 in
theorem ggX12_made_X12_isRoad : GoodIn wsX12_made wsX12_isRoad := goodIn_r _ [10, 11, 5, 12, 13, 9, 14, 82, 83, 84, 85, 86, 87, 88, 89, 90, 91, 92, 93, 94, 95, 96, 97, 98, 99, 100, 101, 102, 103, 104, 105, 106, 107, 108, 109, 110, 111, 112, 113, 114, 115, 116, 117, 118, 119, 120, 121, 122, 123, 124, 125, 126, 127, 128, 129, 130, 131, 132, 133, 134, 135, 136, 137, 138, 139, 140, 141, 142, 143, 144, 145, 146, 147, 148, 149, 150, 151, 152, 153, 154, 155, 156] rfl (by decide +kernel)
set_option maxRecDepth 20000 in
theorem gX12_made_X12_isRoad : GoodIn wsX12_made (wsV RX12 386 RX12 yX12_isRoad wsX12_isRoad) := goodIn_app (goodIn_of _ (by decide +kernel)) ggX12_made_X12_isRoad
set_option maxRecDepth 20000 in
theorem ggX12_made_X12_is : GoodIn wsX12_made wsX12_is := goodIn_r _ [14] (by decide +kernel) (by decide +kernel)
set_option maxRecDepth 20000 in
theorem gX12_made_X12_is : GoodIn wsX12_made (va_wsS RX12 377 yX12_is wsX12_is) := goodIn_app (goodIn_of _ (by decide +kernel)) ggX12_made_X12_is
set_option maxRecDepth 20000 in
theorem ggX12_made_X12_lays : GoodIn wsX12_made wsX12_lays := goodIn_r _ [18, 19, 11, 5, 2, 3, 20, 21, 22, 23, 9, 24, 25, 26, 27, 28, 29, 30, 31, 32, 33, 34, 35, 36, 37, 38, 39, 40, 41, 42, 43, 44, 45, 46, 47, 48, 49, 50, 51, 52, 53, 54, 55, 56, 57, 58, 59, 60, 61, 62, 63, 64, 65, 66, 67, 68, 69, 70, 71, 72, 73, 74, 75, 76, 77, 78, 79, 80, 81, 82, 83, 84, 85, 86, 87, 88, 89, 90, 91, 92, 93, 94, 95, 96, 97, 98, 99, 100, 101, 102, 103, 104, 105, 106, 107, 108, 109, 110, 111, 112, 113, 114, 115, 116, 117, 118, 119, 120, 121, 122, 123, 124, 125, 126, 127, 128, 129, 130, 131, 132, 133, 134, 135, 136, 137, 138, 139, 140, 141, 142, 143, 144, 145, 146, 147, 148, 149, 150, 151, 152, 153, 154, 155, 156] rfl (by decide +kernel)
set_option maxRecDepth 20000 in
theorem gX12_made_X12_lays : GoodIn wsX12_made (wsV RX12 434 RX12 yX12_lays wsX12_lays) := goodIn_app (goodIn_of _ (by decide +kernel)) ggX12_made_X12_lays
set_option maxRecDepth 20000 in
theorem ggX12_made_X12_gainOf : GoodIn wsX12_made wsX12_gainOf := goodIn_r _ [81, 3, 2, 68, 69, 70, 9, 71, 72, 5, 52, 53, 54, 55, 56, 73, 74, 75, 76, 77, 82, 83, 84, 85, 86, 87, 88, 89, 90, 91, 92, 93, 94, 95, 96, 97, 98, 99, 100, 101, 102, 103, 104, 105, 106, 107, 108, 109, 110, 111, 112, 113, 114, 115, 116, 117, 118, 119, 120, 121, 122, 123, 124, 125, 126, 127, 128, 129, 130, 131, 132, 133, 134, 135, 136, 137, 138, 139, 140, 141, 142, 143, 144, 145, 146, 147, 148, 149, 150, 151, 152, 153, 154, 155, 156] rfl (by decide +kernel)
set_option maxRecDepth 20000 in
theorem gX12_made_X12_gainOf : GoodIn wsX12_made (wsV RX12 430 RX12 yX12_gainOf wsX12_gainOf) := goodIn_app (goodIn_of _ (by decide +kernel)) ggX12_made_X12_gainOf
theorem dX12_made_0 : decode cX12_made 0 = .ok (.aload_n 0, 1) := by decide +kernel
theorem dX12_made_1 : decode cX12_made 1 = .ok (.iload_n 1, 1) := by decide +kernel
theorem dX12_made_2 : decode cX12_made 2 = .ok (.invokevirtual 386, 3) := by decide +kernel
theorem dX12_made_5 : decode cX12_made 5 = .ok (.ifCond .eq 12, 3) := by decide +kernel
theorem dX12_made_8 : decode cX12_made 8 = .ok (.iload_n 2, 1) := by decide +kernel
theorem dX12_made_9 : decode cX12_made 9 = .ok (.iconst 0, 1) := by decide +kernel
theorem dX12_made_10 : decode cX12_made 10 = .ok (.iconst 2, 1) := by decide +kernel
theorem dX12_made_11 : decode cX12_made 11 = .ok (.invokestatic 377, 3) := by decide +kernel
theorem dX12_made_14 : decode cX12_made 14 = .ok (.ifCond .ne 7, 3) := by decide +kernel
theorem dX12_made_17 : decode cX12_made 17 = .ok (.ldc_w 433, 3) := by decide +kernel
theorem dX12_made_20 : decode cX12_made 20 = .ok (.ireturn, 1) := by decide +kernel
theorem dX12_made_21 : decode cX12_made 21 = .ok (.aload_n 0, 1) := by decide +kernel
theorem dX12_made_22 : decode cX12_made 22 = .ok (.iconst (-1), 1) := by decide +kernel
theorem dX12_made_23 : decode cX12_made 23 = .ok (.iconst 0, 1) := by decide +kernel
theorem dX12_made_24 : decode cX12_made 24 = .ok (.invokevirtual 434, 3) := by decide +kernel
theorem dX12_made_27 : decode cX12_made 27 = .ok (.aload_n 0, 1) := by decide +kernel
theorem dX12_made_28 : decode cX12_made 28 = .ok (.getfield 162, 3) := by decide +kernel
theorem dX12_made_31 : decode cX12_made 31 = .ok (.iload_n 1, 1) := by decide +kernel
theorem dX12_made_32 : decode cX12_made 32 = .ok (.baload, 1) := by decide +kernel
theorem dX12_made_33 : decode cX12_made 33 = .ok (.ifCond .ne 7, 3) := by decide +kernel
theorem dX12_made_36 : decode cX12_made 36 = .ok (.ldc_w 433, 3) := by decide +kernel
theorem dX12_made_39 : decode cX12_made 39 = .ok (.ireturn, 1) := by decide +kernel
theorem dX12_made_40 : decode cX12_made 40 = .ok (.iload_n 2, 1) := by decide +kernel
theorem dX12_made_41 : decode cX12_made 41 = .ok (.ifCond .ne 12, 3) := by decide +kernel
theorem dX12_made_44 : decode cX12_made 44 = .ok (.aload_n 0, 1) := by decide +kernel
theorem dX12_made_45 : decode cX12_made 45 = .ok (.getfield 165, 3) := by decide +kernel
theorem dX12_made_48 : decode cX12_made 48 = .ok (.iload_n 1, 1) := by decide +kernel
theorem dX12_made_49 : decode cX12_made 49 = .ok (.iaload, 1) := by decide +kernel
theorem dX12_made_50 : decode cX12_made 50 = .ok (.goto 30, 3) := by decide +kernel
theorem dX12_made_53 : decode cX12_made 53 = .ok (.iload_n 2, 1) := by decide +kernel
theorem dX12_made_54 : decode cX12_made 54 = .ok (.iconst 1, 1) := by decide +kernel
theorem dX12_made_55 : decode cX12_made 55 = .ok (.if_icmp .ne 11, 3) := by decide +kernel
theorem dX12_made_58 : decode cX12_made 58 = .ok (.aload_n 0, 1) := by decide +kernel
theorem dX12_made_59 : decode cX12_made 59 = .ok (.iload_n 1, 1) := by decide +kernel
theorem dX12_made_60 : decode cX12_made 60 = .ok (.invokevirtual 430, 3) := by decide +kernel
theorem dX12_made_63 : decode cX12_made 63 = .ok (.goto 17, 3) := by decide +kernel
theorem dX12_made_66 : decode cX12_made 66 = .ok (.aload_n 0, 1) := by decide +kernel
theorem dX12_made_67 : decode cX12_made 67 = .ok (.getfield 88, 3) := by decide +kernel
theorem dX12_made_70 : decode cX12_made 70 = .ok (.bipush 30, 2) := by decide +kernel
theorem dX12_made_72 : decode cX12_made 72 = .ok (.aload_n 0, 1) := by decide +kernel
theorem dX12_made_73 : decode cX12_made 73 = .ok (.getfield 48, 3) := by decide +kernel
theorem dX12_made_76 : decode cX12_made 76 = .ok (.imul, 1) := by decide +kernel
theorem dX12_made_77 : decode cX12_made 77 = .ok (.iload_n 1, 1) := by decide +kernel
theorem dX12_made_78 : decode cX12_made 78 = .ok (.iadd, 1) := by decide +kernel
theorem dX12_made_79 : decode cX12_made 79 = .ok (.iaload, 1) := by decide +kernel
theorem dX12_made_80 : decode cX12_made 80 = .ok (.ireturn, 1) := by decide +kernel
set_option maxRecDepth 20000 in
theorem ggX12_mosts_X12_first : GoodIn wsX12_mosts wsX12_first := goodIn_r _ [10, 11, 3, 28, 29, 30, 31, 32, 33, 34, 35, 36, 37, 38, 39, 40, 41, 42, 43, 44, 45, 46, 47, 48, 49, 50, 51, 52, 53, 54, 55, 56, 57, 58, 59, 60, 61, 62, 63, 64, 65, 66, 67, 68, 69, 70, 71, 72, 73, 74, 75, 76, 77, 78, 79, 80, 81, 82, 83, 84, 85, 86, 87, 88, 89, 90, 91, 92, 93, 94, 95, 96, 97, 98, 99, 100, 101, 102] rfl (by decide +kernel)
set_option maxRecDepth 20000 in
theorem gX12_mosts_X12_first : GoodIn wsX12_mosts (wsV RX12 389 RX12 yX12_first wsX12_first) := goodIn_app (goodIn_of _ (by decide +kernel)) ggX12_mosts_X12_first
set_option maxRecDepth 20000 in
theorem ggX12_mosts_X12_second : GoodIn wsX12_mosts wsX12_second := goodIn_r _ [15, 16, 3, 28, 29, 30, 31, 32, 33, 34, 35, 36, 37, 38, 39, 40, 41, 42, 43, 44, 45, 46, 47, 48, 49, 50, 51, 52, 53, 54, 55, 56, 57, 58, 59, 60, 61, 62, 63, 64, 65, 66, 67, 68, 69, 70, 71, 72, 73, 74, 75, 76, 77, 78, 79, 80, 81, 82, 83, 84, 85, 86, 87, 88, 89, 90, 91, 92, 93, 94, 95, 96, 97, 98, 99, 100, 101, 102] rfl (by decide +kernel)
set_option maxRecDepth 20000 in
theorem gX12_mosts_X12_second : GoodIn wsX12_mosts (wsV RX12 392 RX12 yX12_second wsX12_second) := goodIn_app (goodIn_of _ (by decide +kernel)) ggX12_mosts_X12_second
set_option maxRecDepth 20000 in
theorem ggX12_mosts_X12_gainOf : GoodIn wsX12_mosts wsX12_gainOf := goodIn_r _ [20, 21, 22, 6, 7, 8, 9, 10, 11, 3, 23, 24, 25, 26, 27, 12, 13, 14, 15, 16, 28, 29, 30, 31, 32, 33, 34, 35, 36, 37, 38, 39, 40, 41, 42, 43, 44, 45, 46, 47, 48, 49, 50, 51, 52, 53, 54, 55, 56, 57, 58, 59, 60, 61, 62, 63, 64, 65, 66, 67, 68, 69, 70, 71, 72, 73, 74, 75, 76, 77, 78, 79, 80, 81, 82, 83, 84, 85, 86, 87, 88, 89, 90, 91, 92, 93, 94, 95, 96, 97, 98, 99, 100, 101, 102] rfl (by decide +kernel)
set_option maxRecDepth 20000 in
theorem gX12_mosts_X12_gainOf : GoodIn wsX12_mosts (wsV RX12 430 RX12 yX12_gainOf wsX12_gainOf) := goodIn_app (goodIn_of _ (by decide +kernel)) ggX12_mosts_X12_gainOf
theorem dX12_mosts_0 : decode cX12_mosts 0 = .ok (.iconst 0, 1) := by decide +kernel
theorem dX12_mosts_1 : decode cX12_mosts 1 = .ok (.istore_n 2, 1) := by decide +kernel
theorem dX12_mosts_2 : decode cX12_mosts 2 = .ok (.iload_n 2, 1) := by decide +kernel
theorem dX12_mosts_3 : decode cX12_mosts 3 = .ok (.sipush 144, 3) := by decide +kernel
theorem dX12_mosts_6 : decode cX12_mosts 6 = .ok (.if_icmp .ge 16, 3) := by decide +kernel
theorem dX12_mosts_9 : decode cX12_mosts 9 = .ok (.aload_n 0, 1) := by decide +kernel
theorem dX12_mosts_10 : decode cX12_mosts 10 = .ok (.getfield 174, 3) := by decide +kernel
theorem dX12_mosts_13 : decode cX12_mosts 13 = .ok (.iload_n 2, 1) := by decide +kernel
theorem dX12_mosts_14 : decode cX12_mosts 14 = .ok (.iconst 0, 1) := by decide +kernel
theorem dX12_mosts_15 : decode cX12_mosts 15 = .ok (.iastore, 1) := by decide +kernel
theorem dX12_mosts_16 : decode cX12_mosts 16 = .ok (.iinc 2 1, 3) := by decide +kernel
theorem dX12_mosts_19 : decode cX12_mosts 19 = .ok (.goto (-17), 3) := by decide +kernel
theorem dX12_mosts_22 : decode cX12_mosts 22 = .ok (.iload_n 1, 1) := by decide +kernel
theorem dX12_mosts_23 : decode cX12_mosts 23 = .ok (.iconst 1, 1) := by decide +kernel
theorem dX12_mosts_24 : decode cX12_mosts 24 = .ok (.iadd, 1) := by decide +kernel
theorem dX12_mosts_25 : decode cX12_mosts 25 = .ok (.istore_n 2, 1) := by decide +kernel
theorem dX12_mosts_26 : decode cX12_mosts 26 = .ok (.iload_n 2, 1) := by decide +kernel
theorem dX12_mosts_27 : decode cX12_mosts 27 = .ok (.aload_n 0, 1) := by decide +kernel
theorem dX12_mosts_28 : decode cX12_mosts 28 = .ok (.getfield 54, 3) := by decide +kernel
theorem dX12_mosts_31 : decode cX12_mosts 31 = .ok (.aload_n 0, 1) := by decide +kernel
theorem dX12_mosts_32 : decode cX12_mosts 32 = .ok (.getfield 48, 3) := by decide +kernel
theorem dX12_mosts_35 : decode cX12_mosts 35 = .ok (.iaload, 1) := by decide +kernel
theorem dX12_mosts_36 : decode cX12_mosts 36 = .ok (.if_icmp .ge 57, 3) := by decide +kernel
theorem dX12_mosts_39 : decode cX12_mosts 39 = .ok (.aload_n 0, 1) := by decide +kernel
theorem dX12_mosts_40 : decode cX12_mosts 40 = .ok (.getfield 174, 3) := by decide +kernel
theorem dX12_mosts_43 : decode cX12_mosts 43 = .ok (.bipush 12, 2) := by decide +kernel
theorem dX12_mosts_45 : decode cX12_mosts 45 = .ok (.aload_n 0, 1) := by decide +kernel
theorem dX12_mosts_46 : decode cX12_mosts 46 = .ok (.iload_n 2, 1) := by decide +kernel
theorem dX12_mosts_47 : decode cX12_mosts 47 = .ok (.invokevirtual 389, 3) := by decide +kernel
theorem dX12_mosts_50 : decode cX12_mosts 50 = .ok (.imul, 1) := by decide +kernel
theorem dX12_mosts_51 : decode cX12_mosts 51 = .ok (.aload_n 0, 1) := by decide +kernel
theorem dX12_mosts_52 : decode cX12_mosts 52 = .ok (.iload_n 2, 1) := by decide +kernel
theorem dX12_mosts_53 : decode cX12_mosts 53 = .ok (.invokevirtual 392, 3) := by decide +kernel
theorem dX12_mosts_56 : decode cX12_mosts 56 = .ok (.iadd, 1) := by decide +kernel
theorem dX12_mosts_57 : decode cX12_mosts 57 = .ok (.aload_n 0, 1) := by decide +kernel
theorem dX12_mosts_58 : decode cX12_mosts 58 = .ok (.iload_n 2, 1) := by decide +kernel
theorem dX12_mosts_59 : decode cX12_mosts 59 = .ok (.invokevirtual 430, 3) := by decide +kernel
theorem dX12_mosts_62 : decode cX12_mosts 62 = .ok (.iastore, 1) := by decide +kernel
theorem dX12_mosts_63 : decode cX12_mosts 63 = .ok (.aload_n 0, 1) := by decide +kernel
theorem dX12_mosts_64 : decode cX12_mosts 64 = .ok (.getfield 174, 3) := by decide +kernel
theorem dX12_mosts_67 : decode cX12_mosts 67 = .ok (.bipush 12, 2) := by decide +kernel
theorem dX12_mosts_69 : decode cX12_mosts 69 = .ok (.aload_n 0, 1) := by decide +kernel
theorem dX12_mosts_70 : decode cX12_mosts 70 = .ok (.iload_n 2, 1) := by decide +kernel
theorem dX12_mosts_71 : decode cX12_mosts 71 = .ok (.invokevirtual 392, 3) := by decide +kernel
theorem dX12_mosts_74 : decode cX12_mosts 74 = .ok (.imul, 1) := by decide +kernel
theorem dX12_mosts_75 : decode cX12_mosts 75 = .ok (.aload_n 0, 1) := by decide +kernel
theorem dX12_mosts_76 : decode cX12_mosts 76 = .ok (.iload_n 2, 1) := by decide +kernel
theorem dX12_mosts_77 : decode cX12_mosts 77 = .ok (.invokevirtual 389, 3) := by decide +kernel
theorem dX12_mosts_80 : decode cX12_mosts 80 = .ok (.iadd, 1) := by decide +kernel
theorem dX12_mosts_81 : decode cX12_mosts 81 = .ok (.aload_n 0, 1) := by decide +kernel
theorem dX12_mosts_82 : decode cX12_mosts 82 = .ok (.iload_n 2, 1) := by decide +kernel
theorem dX12_mosts_83 : decode cX12_mosts 83 = .ok (.invokevirtual 430, 3) := by decide +kernel
theorem dX12_mosts_86 : decode cX12_mosts 86 = .ok (.iastore, 1) := by decide +kernel
theorem dX12_mosts_87 : decode cX12_mosts 87 = .ok (.iinc 2 1, 3) := by decide +kernel
theorem dX12_mosts_90 : decode cX12_mosts 90 = .ok (.goto (-64), 3) := by decide +kernel
theorem dX12_mosts_93 : decode cX12_mosts 93 = .ok (.aload_n 0, 1) := by decide +kernel
theorem dX12_mosts_94 : decode cX12_mosts 94 = .ok (.getfield 171, 3) := by decide +kernel
theorem dX12_mosts_97 : decode cX12_mosts 97 = .ok (.iconst 0, 1) := by decide +kernel
theorem dX12_mosts_98 : decode cX12_mosts 98 = .ok (.iconst 0, 1) := by decide +kernel
theorem dX12_mosts_99 : decode cX12_mosts 99 = .ok (.iastore, 1) := by decide +kernel
theorem dX12_mosts_100 : decode cX12_mosts 100 = .ok (.iconst 1, 1) := by decide +kernel
theorem dX12_mosts_101 : decode cX12_mosts 101 = .ok (.istore_n 2, 1) := by decide +kernel
theorem dX12_mosts_102 : decode cX12_mosts 102 = .ok (.iload_n 2, 1) := by decide +kernel
theorem dX12_mosts_103 : decode cX12_mosts 103 = .ok (.iconst 1, 1) := by decide +kernel
theorem dX12_mosts_104 : decode cX12_mosts 104 = .ok (.aload_n 0, 1) := by decide +kernel
theorem dX12_mosts_105 : decode cX12_mosts 105 = .ok (.getfield 51, 3) := by decide +kernel
theorem dX12_mosts_108 : decode cX12_mosts 108 = .ok (.aload_n 0, 1) := by decide +kernel
theorem dX12_mosts_109 : decode cX12_mosts 109 = .ok (.getfield 48, 3) := by decide +kernel
theorem dX12_mosts_112 : decode cX12_mosts 112 = .ok (.iaload, 1) := by decide +kernel
theorem dX12_mosts_113 : decode cX12_mosts 113 = .ok (.ishl, 1) := by decide +kernel
theorem dX12_mosts_114 : decode cX12_mosts 114 = .ok (.if_icmp .ge 157, 3) := by decide +kernel
theorem dX12_mosts_117 : decode cX12_mosts 117 = .ok (.iconst 0, 1) := by decide +kernel
theorem dX12_mosts_118 : decode cX12_mosts 118 = .ok (.istore_n 3, 1) := by decide +kernel
theorem dX12_mosts_119 : decode cX12_mosts 119 = .ok (.iload_n 2, 1) := by decide +kernel
theorem dX12_mosts_120 : decode cX12_mosts 120 = .ok (.iload_n 3, 1) := by decide +kernel
theorem dX12_mosts_121 : decode cX12_mosts 121 = .ok (.ishr, 1) := by decide +kernel
theorem dX12_mosts_122 : decode cX12_mosts 122 = .ok (.iconst 1, 1) := by decide +kernel
theorem dX12_mosts_123 : decode cX12_mosts 123 = .ok (.iand, 1) := by decide +kernel
theorem dX12_mosts_124 : decode cX12_mosts 124 = .ok (.ifCond .ne 9, 3) := by decide +kernel
theorem dX12_mosts_127 : decode cX12_mosts 127 = .ok (.iinc 3 1, 3) := by decide +kernel
theorem dX12_mosts_130 : decode cX12_mosts 130 = .ok (.goto (-11), 3) := by decide +kernel
theorem dX12_mosts_133 : decode cX12_mosts 133 = .ok (.iload_n 2, 1) := by decide +kernel
theorem dX12_mosts_134 : decode cX12_mosts 134 = .ok (.iconst 1, 1) := by decide +kernel
theorem dX12_mosts_135 : decode cX12_mosts 135 = .ok (.iload_n 3, 1) := by decide +kernel
theorem dX12_mosts_136 : decode cX12_mosts 136 = .ok (.ishl, 1) := by decide +kernel
theorem dX12_mosts_137 : decode cX12_mosts 137 = .ok (.iconst (-1), 1) := by decide +kernel
theorem dX12_mosts_138 : decode cX12_mosts 138 = .ok (.ixor, 1) := by decide +kernel
theorem dX12_mosts_139 : decode cX12_mosts 139 = .ok (.iand, 1) := by decide +kernel
theorem dX12_mosts_140 : decode cX12_mosts 140 = .ok (.istore 4, 2) := by decide +kernel
theorem dX12_mosts_142 : decode cX12_mosts 142 = .ok (.aload_n 0, 1) := by decide +kernel
theorem dX12_mosts_143 : decode cX12_mosts 143 = .ok (.getfield 171, 3) := by decide +kernel
theorem dX12_mosts_146 : decode cX12_mosts 146 = .ok (.iload_n 2, 1) := by decide +kernel
theorem dX12_mosts_147 : decode cX12_mosts 147 = .ok (.aload_n 0, 1) := by decide +kernel
theorem dX12_mosts_148 : decode cX12_mosts 148 = .ok (.getfield 171, 3) := by decide +kernel
theorem dX12_mosts_151 : decode cX12_mosts 151 = .ok (.iload 4, 2) := by decide +kernel
theorem dX12_mosts_153 : decode cX12_mosts 153 = .ok (.iaload, 1) := by decide +kernel
theorem dX12_mosts_154 : decode cX12_mosts 154 = .ok (.iastore, 1) := by decide +kernel
theorem dX12_mosts_155 : decode cX12_mosts 155 = .ok (.iload_n 3, 1) := by decide +kernel
theorem dX12_mosts_156 : decode cX12_mosts 156 = .ok (.iconst 1, 1) := by decide +kernel
theorem dX12_mosts_157 : decode cX12_mosts 157 = .ok (.iadd, 1) := by decide +kernel
theorem dX12_mosts_158 : decode cX12_mosts 158 = .ok (.istore 5, 2) := by decide +kernel
theorem dX12_mosts_160 : decode cX12_mosts 160 = .ok (.iload 5, 2) := by decide +kernel
theorem dX12_mosts_162 : decode cX12_mosts 162 = .ok (.aload_n 0, 1) := by decide +kernel
theorem dX12_mosts_163 : decode cX12_mosts 163 = .ok (.getfield 51, 3) := by decide +kernel
theorem dX12_mosts_166 : decode cX12_mosts 166 = .ok (.aload_n 0, 1) := by decide +kernel
theorem dX12_mosts_167 : decode cX12_mosts 167 = .ok (.getfield 48, 3) := by decide +kernel
theorem dX12_mosts_170 : decode cX12_mosts 170 = .ok (.iaload, 1) := by decide +kernel
theorem dX12_mosts_171 : decode cX12_mosts 171 = .ok (.if_icmp .ge 94, 3) := by decide +kernel
theorem dX12_mosts_174 : decode cX12_mosts 174 = .ok (.iload 4, 2) := by decide +kernel
theorem dX12_mosts_176 : decode cX12_mosts 176 = .ok (.iload 5, 2) := by decide +kernel
theorem dX12_mosts_178 : decode cX12_mosts 178 = .ok (.ishr, 1) := by decide +kernel
theorem dX12_mosts_179 : decode cX12_mosts 179 = .ok (.iconst 1, 1) := by decide +kernel
theorem dX12_mosts_180 : decode cX12_mosts 180 = .ok (.iand, 1) := by decide +kernel
theorem dX12_mosts_181 : decode cX12_mosts 181 = .ok (.ifCond .eq 78, 3) := by decide +kernel
theorem dX12_mosts_184 : decode cX12_mosts 184 = .ok (.aload_n 0, 1) := by decide +kernel
theorem dX12_mosts_185 : decode cX12_mosts 185 = .ok (.getfield 174, 3) := by decide +kernel
theorem dX12_mosts_188 : decode cX12_mosts 188 = .ok (.bipush 12, 2) := by decide +kernel
theorem dX12_mosts_190 : decode cX12_mosts 190 = .ok (.iload_n 3, 1) := by decide +kernel
theorem dX12_mosts_191 : decode cX12_mosts 191 = .ok (.imul, 1) := by decide +kernel
theorem dX12_mosts_192 : decode cX12_mosts 192 = .ok (.iload 5, 2) := by decide +kernel
theorem dX12_mosts_194 : decode cX12_mosts 194 = .ok (.iadd, 1) := by decide +kernel
theorem dX12_mosts_195 : decode cX12_mosts 195 = .ok (.iaload, 1) := by decide +kernel
theorem dX12_mosts_196 : decode cX12_mosts 196 = .ok (.ifCond .ne 6, 3) := by decide +kernel
theorem dX12_mosts_199 : decode cX12_mosts 199 = .ok (.goto 60, 3) := by decide +kernel
theorem dX12_mosts_202 : decode cX12_mosts 202 = .ok (.aload_n 0, 1) := by decide +kernel
theorem dX12_mosts_203 : decode cX12_mosts 203 = .ok (.getfield 174, 3) := by decide +kernel
theorem dX12_mosts_206 : decode cX12_mosts 206 = .ok (.bipush 12, 2) := by decide +kernel
theorem dX12_mosts_208 : decode cX12_mosts 208 = .ok (.iload_n 3, 1) := by decide +kernel
theorem dX12_mosts_209 : decode cX12_mosts 209 = .ok (.imul, 1) := by decide +kernel
theorem dX12_mosts_210 : decode cX12_mosts 210 = .ok (.iload 5, 2) := by decide +kernel
theorem dX12_mosts_212 : decode cX12_mosts 212 = .ok (.iadd, 1) := by decide +kernel
theorem dX12_mosts_213 : decode cX12_mosts 213 = .ok (.iaload, 1) := by decide +kernel
theorem dX12_mosts_214 : decode cX12_mosts 214 = .ok (.aload_n 0, 1) := by decide +kernel
theorem dX12_mosts_215 : decode cX12_mosts 215 = .ok (.getfield 171, 3) := by decide +kernel
theorem dX12_mosts_218 : decode cX12_mosts 218 = .ok (.iload 4, 2) := by decide +kernel
theorem dX12_mosts_220 : decode cX12_mosts 220 = .ok (.iconst 1, 1) := by decide +kernel
theorem dX12_mosts_221 : decode cX12_mosts 221 = .ok (.iload 5, 2) := by decide +kernel
theorem dX12_mosts_223 : decode cX12_mosts 223 = .ok (.ishl, 1) := by decide +kernel
theorem dX12_mosts_224 : decode cX12_mosts 224 = .ok (.iconst (-1), 1) := by decide +kernel
theorem dX12_mosts_225 : decode cX12_mosts 225 = .ok (.ixor, 1) := by decide +kernel
theorem dX12_mosts_226 : decode cX12_mosts 226 = .ok (.iand, 1) := by decide +kernel
theorem dX12_mosts_227 : decode cX12_mosts 227 = .ok (.iaload, 1) := by decide +kernel
theorem dX12_mosts_228 : decode cX12_mosts 228 = .ok (.iadd, 1) := by decide +kernel
theorem dX12_mosts_229 : decode cX12_mosts 229 = .ok (.istore 6, 2) := by decide +kernel
theorem dX12_mosts_231 : decode cX12_mosts 231 = .ok (.aload_n 0, 1) := by decide +kernel
theorem dX12_mosts_232 : decode cX12_mosts 232 = .ok (.getfield 171, 3) := by decide +kernel
theorem dX12_mosts_235 : decode cX12_mosts 235 = .ok (.iload_n 2, 1) := by decide +kernel
theorem dX12_mosts_236 : decode cX12_mosts 236 = .ok (.iload 6, 2) := by decide +kernel
theorem dX12_mosts_238 : decode cX12_mosts 238 = .ok (.aload_n 0, 1) := by decide +kernel
theorem dX12_mosts_239 : decode cX12_mosts 239 = .ok (.getfield 171, 3) := by decide +kernel
theorem dX12_mosts_242 : decode cX12_mosts 242 = .ok (.iload_n 2, 1) := by decide +kernel
theorem dX12_mosts_243 : decode cX12_mosts 243 = .ok (.iaload, 1) := by decide +kernel
theorem dX12_mosts_244 : decode cX12_mosts 244 = .ok (.if_icmp .le 8, 3) := by decide +kernel
theorem dX12_mosts_247 : decode cX12_mosts 247 = .ok (.iload 6, 2) := by decide +kernel
theorem dX12_mosts_249 : decode cX12_mosts 249 = .ok (.goto 9, 3) := by decide +kernel
theorem dX12_mosts_252 : decode cX12_mosts 252 = .ok (.aload_n 0, 1) := by decide +kernel
theorem dX12_mosts_253 : decode cX12_mosts 253 = .ok (.getfield 171, 3) := by decide +kernel
theorem dX12_mosts_256 : decode cX12_mosts 256 = .ok (.iload_n 2, 1) := by decide +kernel
theorem dX12_mosts_257 : decode cX12_mosts 257 = .ok (.iaload, 1) := by decide +kernel
theorem dX12_mosts_258 : decode cX12_mosts 258 = .ok (.iastore, 1) := by decide +kernel
theorem dX12_mosts_259 : decode cX12_mosts 259 = .ok (.iinc 5 1, 3) := by decide +kernel
theorem dX12_mosts_262 : decode cX12_mosts 262 = .ok (.goto (-102), 3) := by decide +kernel
theorem dX12_mosts_265 : decode cX12_mosts 265 = .ok (.iinc 2 1, 3) := by decide +kernel
theorem dX12_mosts_268 : decode cX12_mosts 268 = .ok (.goto (-166), 3) := by decide +kernel
theorem dX12_mosts_271 : decode cX12_mosts 271 = .ok (.return_, 1) := by decide +kernel
theorem dX12_all_0 : decode cX12_all 0 = .ok (.iconst 1, 1) := by decide +kernel
theorem dX12_all_1 : decode cX12_all 1 = .ok (.aload_n 0, 1) := by decide +kernel
theorem dX12_all_2 : decode cX12_all 2 = .ok (.getfield 51, 3) := by decide +kernel
theorem dX12_all_5 : decode cX12_all 5 = .ok (.aload_n 0, 1) := by decide +kernel
theorem dX12_all_6 : decode cX12_all 6 = .ok (.getfield 48, 3) := by decide +kernel
theorem dX12_all_9 : decode cX12_all 9 = .ok (.iaload, 1) := by decide +kernel
theorem dX12_all_10 : decode cX12_all 10 = .ok (.ishl, 1) := by decide +kernel
theorem dX12_all_11 : decode cX12_all 11 = .ok (.iconst 1, 1) := by decide +kernel
theorem dX12_all_12 : decode cX12_all 12 = .ok (.isub, 1) := by decide +kernel
theorem dX12_all_13 : decode cX12_all 13 = .ok (.ireturn, 1) := by decide +kernel
set_option maxRecDepth 20000 in
theorem ggX12_doubles_X12_all : GoodIn wsX12_doubles wsX12_all := goodIn_r _ [9, 2, 3, 10, 11, 12, 13, 14, 15, 16, 17, 18, 19, 20, 21, 22, 23, 24, 25, 26, 27, 28, 29, 30, 31, 32, 33, 34, 35, 36, 37, 38, 39, 40, 41, 42, 43, 44, 45, 46, 47, 48, 49, 50, 51, 52, 53, 54, 55, 56, 57, 58, 59, 60, 61, 62, 63, 64, 65, 66, 67, 68, 69, 70, 71, 72, 73, 74, 75, 76, 77, 78, 79, 80, 81, 82, 83, 84] rfl (by decide +kernel)
set_option maxRecDepth 20000 in
theorem gX12_doubles_X12_all : GoodIn wsX12_doubles (wsV RX12 437 RX12 yX12_all wsX12_all) := goodIn_app (goodIn_of _ (by decide +kernel)) ggX12_doubles_X12_all
theorem dX12_doubles_0 : decode cX12_doubles 0 = .ok (.iconst 0, 1) := by decide +kernel
theorem dX12_doubles_1 : decode cX12_doubles 1 = .ok (.istore_n 2, 1) := by decide +kernel
theorem dX12_doubles_2 : decode cX12_doubles 2 = .ok (.iload_n 2, 1) := by decide +kernel
theorem dX12_doubles_3 : decode cX12_doubles 3 = .ok (.aload_n 0, 1) := by decide +kernel
theorem dX12_doubles_4 : decode cX12_doubles 4 = .ok (.invokevirtual 437, 3) := by decide +kernel
theorem dX12_doubles_7 : decode cX12_doubles 7 = .ok (.if_icmp .gt 16, 3) := by decide +kernel
theorem dX12_doubles_10 : decode cX12_doubles 10 = .ok (.aload_n 0, 1) := by decide +kernel
theorem dX12_doubles_11 : decode cX12_doubles 11 = .ok (.getfield 177, 3) := by decide +kernel
theorem dX12_doubles_14 : decode cX12_doubles 14 = .ok (.iload_n 2, 1) := by decide +kernel
theorem dX12_doubles_15 : decode cX12_doubles 15 = .ok (.iconst 0, 1) := by decide +kernel
theorem dX12_doubles_16 : decode cX12_doubles 16 = .ok (.iastore, 1) := by decide +kernel
theorem dX12_doubles_17 : decode cX12_doubles 17 = .ok (.iinc 2 1, 3) := by decide +kernel
theorem dX12_doubles_20 : decode cX12_doubles 20 = .ok (.goto (-18), 3) := by decide +kernel
theorem dX12_doubles_23 : decode cX12_doubles 23 = .ok (.iconst 0, 1) := by decide +kernel
theorem dX12_doubles_24 : decode cX12_doubles 24 = .ok (.istore_n 2, 1) := by decide +kernel
theorem dX12_doubles_25 : decode cX12_doubles 25 = .ok (.iload_n 2, 1) := by decide +kernel
theorem dX12_doubles_26 : decode cX12_doubles 26 = .ok (.aload_n 0, 1) := by decide +kernel
theorem dX12_doubles_27 : decode cX12_doubles 27 = .ok (.getfield 51, 3) := by decide +kernel
theorem dX12_doubles_30 : decode cX12_doubles 30 = .ok (.aload_n 0, 1) := by decide +kernel
theorem dX12_doubles_31 : decode cX12_doubles 31 = .ok (.getfield 48, 3) := by decide +kernel
theorem dX12_doubles_34 : decode cX12_doubles 34 = .ok (.iaload, 1) := by decide +kernel
theorem dX12_doubles_35 : decode cX12_doubles 35 = .ok (.if_icmp .ge 153, 3) := by decide +kernel
theorem dX12_doubles_38 : decode cX12_doubles 38 = .ok (.iconst 0, 1) := by decide +kernel
theorem dX12_doubles_39 : decode cX12_doubles 39 = .ok (.istore_n 3, 1) := by decide +kernel
theorem dX12_doubles_40 : decode cX12_doubles 40 = .ok (.iload_n 3, 1) := by decide +kernel
theorem dX12_doubles_41 : decode cX12_doubles 41 = .ok (.aload_n 0, 1) := by decide +kernel
theorem dX12_doubles_42 : decode cX12_doubles 42 = .ok (.invokevirtual 437, 3) := by decide +kernel
theorem dX12_doubles_45 : decode cX12_doubles 45 = .ok (.if_icmp .gt 21, 3) := by decide +kernel
theorem dX12_doubles_48 : decode cX12_doubles 48 = .ok (.aload_n 0, 1) := by decide +kernel
theorem dX12_doubles_49 : decode cX12_doubles 49 = .ok (.getfield 180, 3) := by decide +kernel
theorem dX12_doubles_52 : decode cX12_doubles 52 = .ok (.iload_n 3, 1) := by decide +kernel
theorem dX12_doubles_53 : decode cX12_doubles 53 = .ok (.aload_n 0, 1) := by decide +kernel
theorem dX12_doubles_54 : decode cX12_doubles 54 = .ok (.getfield 177, 3) := by decide +kernel
theorem dX12_doubles_57 : decode cX12_doubles 57 = .ok (.iload_n 3, 1) := by decide +kernel
theorem dX12_doubles_58 : decode cX12_doubles 58 = .ok (.iaload, 1) := by decide +kernel
theorem dX12_doubles_59 : decode cX12_doubles 59 = .ok (.iastore, 1) := by decide +kernel
theorem dX12_doubles_60 : decode cX12_doubles 60 = .ok (.iinc 3 1, 3) := by decide +kernel
theorem dX12_doubles_63 : decode cX12_doubles 63 = .ok (.goto (-23), 3) := by decide +kernel
theorem dX12_doubles_66 : decode cX12_doubles 66 = .ok (.iconst 0, 1) := by decide +kernel
theorem dX12_doubles_67 : decode cX12_doubles 67 = .ok (.istore_n 3, 1) := by decide +kernel
theorem dX12_doubles_68 : decode cX12_doubles 68 = .ok (.iload_n 3, 1) := by decide +kernel
theorem dX12_doubles_69 : decode cX12_doubles 69 = .ok (.aload_n 0, 1) := by decide +kernel
theorem dX12_doubles_70 : decode cX12_doubles 70 = .ok (.invokevirtual 437, 3) := by decide +kernel
theorem dX12_doubles_73 : decode cX12_doubles 73 = .ok (.if_icmp .gt 109, 3) := by decide +kernel
theorem dX12_doubles_76 : decode cX12_doubles 76 = .ok (.iconst 0, 1) := by decide +kernel
theorem dX12_doubles_77 : decode cX12_doubles 77 = .ok (.istore 4, 2) := by decide +kernel
theorem dX12_doubles_79 : decode cX12_doubles 79 = .ok (.iload 4, 2) := by decide +kernel
theorem dX12_doubles_81 : decode cX12_doubles 81 = .ok (.aload_n 0, 1) := by decide +kernel
theorem dX12_doubles_82 : decode cX12_doubles 82 = .ok (.getfield 51, 3) := by decide +kernel
theorem dX12_doubles_85 : decode cX12_doubles 85 = .ok (.aload_n 0, 1) := by decide +kernel
theorem dX12_doubles_86 : decode cX12_doubles 86 = .ok (.getfield 48, 3) := by decide +kernel
theorem dX12_doubles_89 : decode cX12_doubles 89 = .ok (.iaload, 1) := by decide +kernel
theorem dX12_doubles_90 : decode cX12_doubles 90 = .ok (.if_icmp .ge 86, 3) := by decide +kernel
theorem dX12_doubles_93 : decode cX12_doubles 93 = .ok (.iload_n 3, 1) := by decide +kernel
theorem dX12_doubles_94 : decode cX12_doubles 94 = .ok (.iload 4, 2) := by decide +kernel
theorem dX12_doubles_96 : decode cX12_doubles 96 = .ok (.ishr, 1) := by decide +kernel
theorem dX12_doubles_97 : decode cX12_doubles 97 = .ok (.iconst 1, 1) := by decide +kernel
theorem dX12_doubles_98 : decode cX12_doubles 98 = .ok (.iand, 1) := by decide +kernel
theorem dX12_doubles_99 : decode cX12_doubles 99 = .ok (.ifCond .eq 71, 3) := by decide +kernel
theorem dX12_doubles_102 : decode cX12_doubles 102 = .ok (.aload_n 1, 1) := by decide +kernel
theorem dX12_doubles_103 : decode cX12_doubles 103 = .ok (.bipush 12, 2) := by decide +kernel
theorem dX12_doubles_105 : decode cX12_doubles 105 = .ok (.iload_n 2, 1) := by decide +kernel
theorem dX12_doubles_106 : decode cX12_doubles 106 = .ok (.imul, 1) := by decide +kernel
theorem dX12_doubles_107 : decode cX12_doubles 107 = .ok (.iload 4, 2) := by decide +kernel
theorem dX12_doubles_109 : decode cX12_doubles 109 = .ok (.iadd, 1) := by decide +kernel
theorem dX12_doubles_110 : decode cX12_doubles 110 = .ok (.iaload, 1) := by decide +kernel
theorem dX12_doubles_111 : decode cX12_doubles 111 = .ok (.ifCond .ne 6, 3) := by decide +kernel
theorem dX12_doubles_114 : decode cX12_doubles 114 = .ok (.goto 56, 3) := by decide +kernel
theorem dX12_doubles_117 : decode cX12_doubles 117 = .ok (.aload_n 1, 1) := by decide +kernel
theorem dX12_doubles_118 : decode cX12_doubles 118 = .ok (.bipush 12, 2) := by decide +kernel
theorem dX12_doubles_120 : decode cX12_doubles 120 = .ok (.iload_n 2, 1) := by decide +kernel
theorem dX12_doubles_121 : decode cX12_doubles 121 = .ok (.imul, 1) := by decide +kernel
theorem dX12_doubles_122 : decode cX12_doubles 122 = .ok (.iload 4, 2) := by decide +kernel
theorem dX12_doubles_124 : decode cX12_doubles 124 = .ok (.iadd, 1) := by decide +kernel
theorem dX12_doubles_125 : decode cX12_doubles 125 = .ok (.iaload, 1) := by decide +kernel
theorem dX12_doubles_126 : decode cX12_doubles 126 = .ok (.aload_n 0, 1) := by decide +kernel
theorem dX12_doubles_127 : decode cX12_doubles 127 = .ok (.getfield 180, 3) := by decide +kernel
theorem dX12_doubles_130 : decode cX12_doubles 130 = .ok (.iload_n 3, 1) := by decide +kernel
theorem dX12_doubles_131 : decode cX12_doubles 131 = .ok (.iconst 1, 1) := by decide +kernel
theorem dX12_doubles_132 : decode cX12_doubles 132 = .ok (.iload 4, 2) := by decide +kernel
theorem dX12_doubles_134 : decode cX12_doubles 134 = .ok (.ishl, 1) := by decide +kernel
theorem dX12_doubles_135 : decode cX12_doubles 135 = .ok (.iconst (-1), 1) := by decide +kernel
theorem dX12_doubles_136 : decode cX12_doubles 136 = .ok (.ixor, 1) := by decide +kernel
theorem dX12_doubles_137 : decode cX12_doubles 137 = .ok (.iand, 1) := by decide +kernel
theorem dX12_doubles_138 : decode cX12_doubles 138 = .ok (.iaload, 1) := by decide +kernel
theorem dX12_doubles_139 : decode cX12_doubles 139 = .ok (.iadd, 1) := by decide +kernel
theorem dX12_doubles_140 : decode cX12_doubles 140 = .ok (.istore 5, 2) := by decide +kernel
theorem dX12_doubles_142 : decode cX12_doubles 142 = .ok (.aload_n 0, 1) := by decide +kernel
theorem dX12_doubles_143 : decode cX12_doubles 143 = .ok (.getfield 177, 3) := by decide +kernel
theorem dX12_doubles_146 : decode cX12_doubles 146 = .ok (.iload_n 3, 1) := by decide +kernel
theorem dX12_doubles_147 : decode cX12_doubles 147 = .ok (.iload 5, 2) := by decide +kernel
theorem dX12_doubles_149 : decode cX12_doubles 149 = .ok (.aload_n 0, 1) := by decide +kernel
theorem dX12_doubles_150 : decode cX12_doubles 150 = .ok (.getfield 177, 3) := by decide +kernel
theorem dX12_doubles_153 : decode cX12_doubles 153 = .ok (.iload_n 3, 1) := by decide +kernel
theorem dX12_doubles_154 : decode cX12_doubles 154 = .ok (.iaload, 1) := by decide +kernel
theorem dX12_doubles_155 : decode cX12_doubles 155 = .ok (.if_icmp .le 8, 3) := by decide +kernel
theorem dX12_doubles_158 : decode cX12_doubles 158 = .ok (.iload 5, 2) := by decide +kernel
theorem dX12_doubles_160 : decode cX12_doubles 160 = .ok (.goto 9, 3) := by decide +kernel
theorem dX12_doubles_163 : decode cX12_doubles 163 = .ok (.aload_n 0, 1) := by decide +kernel
theorem dX12_doubles_164 : decode cX12_doubles 164 = .ok (.getfield 177, 3) := by decide +kernel
theorem dX12_doubles_167 : decode cX12_doubles 167 = .ok (.iload_n 3, 1) := by decide +kernel
theorem dX12_doubles_168 : decode cX12_doubles 168 = .ok (.iaload, 1) := by decide +kernel
theorem dX12_doubles_169 : decode cX12_doubles 169 = .ok (.iastore, 1) := by decide +kernel
theorem dX12_doubles_170 : decode cX12_doubles 170 = .ok (.iinc 4 1, 3) := by decide +kernel
theorem dX12_doubles_173 : decode cX12_doubles 173 = .ok (.goto (-94), 3) := by decide +kernel
theorem dX12_doubles_176 : decode cX12_doubles 176 = .ok (.iinc 3 1, 3) := by decide +kernel
theorem dX12_doubles_179 : decode cX12_doubles 179 = .ok (.goto (-111), 3) := by decide +kernel
theorem dX12_doubles_182 : decode cX12_doubles 182 = .ok (.iinc 2 1, 3) := by decide +kernel
theorem dX12_doubles_185 : decode cX12_doubles 185 = .ok (.goto (-160), 3) := by decide +kernel
theorem dX12_doubles_188 : decode cX12_doubles 188 = .ok (.aload_n 0, 1) := by decide +kernel
theorem dX12_doubles_189 : decode cX12_doubles 189 = .ok (.getfield 177, 3) := by decide +kernel
theorem dX12_doubles_192 : decode cX12_doubles 192 = .ok (.aload_n 0, 1) := by decide +kernel
theorem dX12_doubles_193 : decode cX12_doubles 193 = .ok (.invokevirtual 437, 3) := by decide +kernel
theorem dX12_doubles_196 : decode cX12_doubles 196 = .ok (.iaload, 1) := by decide +kernel
theorem dX12_doubles_197 : decode cX12_doubles 197 = .ok (.ireturn, 1) := by decide +kernel
set_option maxRecDepth 20000 in
theorem ggX12_most_X12_lays : GoodIn wsX12_most wsX12_lays := goodIn_r _ [7, 1, 8, 9, 10, 11, 12, 13, 14, 15, 6, 16, 17, 18, 19, 20, 21, 22, 23, 24, 25, 26, 27, 28, 29, 30, 31, 32, 33, 34, 35, 36, 37, 38, 39, 40, 41, 42, 43, 44, 45, 46, 47, 48, 49, 50, 51, 52, 53, 54, 55, 56, 57, 58, 59, 60, 61, 62, 63, 64, 65, 66, 67, 68, 69, 70, 71, 72, 73, 90, 91, 92, 93, 94, 95, 96, 97, 98, 99, 100, 101, 102, 103, 104, 105, 106, 107, 108, 109, 110, 111, 112, 113, 114, 115, 116, 117, 118, 119, 120, 121, 122, 123, 124, 125, 126, 127, 128, 129, 130, 131, 132, 133, 134, 135, 136, 137, 138, 139, 140, 141, 142, 143, 144, 145, 146, 147, 148, 149, 150, 151, 152, 153, 154, 155, 156, 157, 158, 159, 160, 161, 162, 163, 164] rfl (by decide +kernel)
set_option maxRecDepth 20000 in
theorem gX12_most_X12_lays : GoodIn wsX12_most (wsV RX12 434 RX12 yX12_lays wsX12_lays) := goodIn_app (goodIn_of _ (by decide +kernel)) ggX12_most_X12_lays
set_option maxRecDepth 20000 in
theorem ggX12_most_X12_doubles : GoodIn wsX12_most wsX12_doubles := goodIn_r _ [77, 78, 79, 9, 80, 81, 82, 83, 6, 84, 90, 91, 92, 93, 94, 95, 96, 97, 98, 99, 100, 101, 102, 103, 104, 105, 106, 107, 108, 109, 110, 111, 112, 113, 114, 115, 116, 117, 118, 119, 120, 121, 122, 123, 124, 125, 126, 127, 128, 129, 130, 131, 132, 133, 134, 135, 136, 137, 138, 139, 140, 141, 142, 143, 144, 145, 146, 147, 148, 149, 150, 151, 152, 153, 154, 155, 156, 157, 158, 159, 160, 161, 162, 163, 164] rfl (by decide +kernel)
set_option maxRecDepth 20000 in
theorem gX12_most_X12_doubles : GoodIn wsX12_most (wsV RX12 440 RX12 yX12_doubles wsX12_doubles) := goodIn_app (goodIn_of _ (by decide +kernel)) ggX12_most_X12_doubles
set_option maxRecDepth 20000 in
theorem ggX12_most_X12_mosts : GoodIn wsX12_most wsX12_mosts := goodIn_r _ [88, 89, 8, 9, 2, 79, 60, 61, 62, 6, 63, 64, 65, 66, 67, 68, 69, 70, 71, 72, 73, 11, 10, 44, 45, 46, 47, 48, 90, 91, 92, 93, 94, 95, 96, 97, 98, 99, 100, 101, 102, 103, 104, 105, 106, 107, 108, 109, 110, 111, 112, 113, 114, 115, 116, 117, 118, 119, 120, 121, 122, 123, 124, 125, 126, 127, 128, 129, 130, 131, 132, 133, 134, 135, 136, 137, 138, 139, 140, 141, 142, 143, 144, 145, 146, 147, 148, 149, 150, 151, 152, 153, 154, 155, 156, 157, 158, 159, 160, 161, 162, 163, 164] rfl (by decide +kernel)
set_option maxRecDepth 20000 in
theorem gX12_most_X12_mosts : GoodIn wsX12_most (wsV RX12 444 RX12 yX12_mosts wsX12_mosts) := goodIn_app (goodIn_of _ (by decide +kernel)) ggX12_most_X12_mosts
set_option maxRecDepth 20000 in
theorem ggX12_most_X12_all : GoodIn wsX12_most wsX12_all := goodIn_r _ [84, 79, 9, 90, 91, 92, 93, 94, 95, 96, 97, 98, 99, 100, 101, 102, 103, 104, 105, 106, 107, 108, 109, 110, 111, 112, 113, 114, 115, 116, 117, 118, 119, 120, 121, 122, 123, 124, 125, 126, 127, 128, 129, 130, 131, 132, 133, 134, 135, 136, 137, 138, 139, 140, 141, 142, 143, 144, 145, 146, 147, 148, 149, 150, 151, 152, 153, 154, 155, 156, 157, 158, 159, 160, 161, 162, 163, 164] rfl (by decide +kernel)
set_option maxRecDepth 20000 in
theorem gX12_most_X12_all : GoodIn wsX12_most (wsV RX12 437 RX12 yX12_all wsX12_all) := goodIn_app (goodIn_of _ (by decide +kernel)) ggX12_most_X12_all
theorem dX12_most_0 : decode cX12_most 0 = .ok (.aload_n 0, 1) := by decide +kernel
theorem dX12_most_1 : decode cX12_most 1 = .ok (.iconst (-1), 1) := by decide +kernel
theorem dX12_most_2 : decode cX12_most 2 = .ok (.iconst 0, 1) := by decide +kernel
theorem dX12_most_3 : decode cX12_most 3 = .ok (.invokevirtual 434, 3) := by decide +kernel
theorem dX12_most_6 : decode cX12_most 6 = .ok (.iload_n 1, 1) := by decide +kernel
theorem dX12_most_7 : decode cX12_most 7 = .ok (.ifCond .eq 12, 3) := by decide +kernel
theorem dX12_most_10 : decode cX12_most 10 = .ok (.aload_n 0, 1) := by decide +kernel
theorem dX12_most_11 : decode cX12_most 11 = .ok (.aload_n 0, 1) := by decide +kernel
theorem dX12_most_12 : decode cX12_most 12 = .ok (.getfield 168, 3) := by decide +kernel
theorem dX12_most_15 : decode cX12_most 15 = .ok (.invokevirtual 440, 3) := by decide +kernel
theorem dX12_most_18 : decode cX12_most 18 = .ok (.ireturn, 1) := by decide +kernel
theorem dX12_most_19 : decode cX12_most 19 = .ok (.aload_n 0, 1) := by decide +kernel
theorem dX12_most_20 : decode cX12_most 20 = .ok (.iconst (-1), 1) := by decide +kernel
theorem dX12_most_21 : decode cX12_most 21 = .ok (.invokevirtual 444, 3) := by decide +kernel
theorem dX12_most_24 : decode cX12_most 24 = .ok (.aload_n 0, 1) := by decide +kernel
theorem dX12_most_25 : decode cX12_most 25 = .ok (.getfield 171, 3) := by decide +kernel
theorem dX12_most_28 : decode cX12_most 28 = .ok (.aload_n 0, 1) := by decide +kernel
theorem dX12_most_29 : decode cX12_most 29 = .ok (.invokevirtual 437, 3) := by decide +kernel
theorem dX12_most_32 : decode cX12_most 32 = .ok (.iaload, 1) := by decide +kernel
theorem dX12_most_33 : decode cX12_most 33 = .ok (.ireturn, 1) := by decide +kernel
set_option maxRecDepth 20000 in
theorem ggX12_finds_X12_mosts : GoodIn wsX12_finds wsX12_mosts := goodIn_r _ [11, 12, 4, 5, 3, 13, 14, 15, 16, 10, 17, 18, 19, 20, 21, 22, 23, 24, 25, 26, 27, 28, 29, 30, 31, 32, 33, 34, 39, 40, 41, 42, 43, 44, 45, 46, 47, 48, 49, 50, 51, 52, 53, 54, 55, 56, 57, 58, 59, 60, 61, 62, 63, 64, 65, 66, 67, 68, 69, 70, 71, 72, 73, 74, 75, 76, 77, 78, 79, 80, 81, 82, 83, 84, 85, 86, 87, 88, 89, 90, 91, 92, 93, 94, 95, 96, 97, 98, 99, 100, 101, 102, 103, 104, 105, 106, 107, 108, 109, 110, 111, 112, 113] rfl (by decide +kernel)
set_option maxRecDepth 20000 in
theorem gX12_finds_X12_mosts : GoodIn wsX12_finds (wsV RX12 444 RX12 yX12_mosts wsX12_mosts) := goodIn_app (goodIn_of _ (by decide +kernel)) ggX12_finds_X12_mosts
set_option maxRecDepth 20000 in
theorem ggX12_finds_X12_all : GoodIn wsX12_finds wsX12_all := goodIn_r _ [38, 13, 5, 39, 40, 41, 42, 43, 44, 45, 46, 47, 48, 49, 50, 51, 52, 53, 54, 55, 56, 57, 58, 59, 60, 61, 62, 63, 64, 65, 66, 67, 68, 69, 70, 71, 72, 73, 74, 75, 76, 77, 78, 79, 80, 81, 82, 83, 84, 85, 86, 87, 88, 89, 90, 91, 92, 93, 94, 95, 96, 97, 98, 99, 100, 101, 102, 103, 104, 105, 106, 107, 108, 109, 110, 111, 112, 113] rfl (by decide +kernel)
set_option maxRecDepth 20000 in
theorem gX12_finds_X12_all : GoodIn wsX12_finds (wsV RX12 437 RX12 yX12_all wsX12_all) := goodIn_app (goodIn_of _ (by decide +kernel)) ggX12_finds_X12_all
set_option maxRecDepth 20000 in
theorem ggX12_finds_X12_first : GoodIn wsX12_finds wsX12_first := goodIn_r _ [17, 18, 5, 39, 40, 41, 42, 43, 44, 45, 46, 47, 48, 49, 50, 51, 52, 53, 54, 55, 56, 57, 58, 59, 60, 61, 62, 63, 64, 65, 66, 67, 68, 69, 70, 71, 72, 73, 74, 75, 76, 77, 78, 79, 80, 81, 82, 83, 84, 85, 86, 87, 88, 89, 90, 91, 92, 93, 94, 95, 96, 97, 98, 99, 100, 101, 102, 103, 104, 105, 106, 107, 108, 109, 110, 111, 112, 113] rfl (by decide +kernel)
set_option maxRecDepth 20000 in
theorem gX12_finds_X12_first : GoodIn wsX12_finds (wsV RX12 389 RX12 yX12_first wsX12_first) := goodIn_app (goodIn_of _ (by decide +kernel)) ggX12_finds_X12_first
set_option maxRecDepth 20000 in
theorem ggX12_finds_X12_second : GoodIn wsX12_finds wsX12_second := goodIn_r _ [22, 23, 5, 39, 40, 41, 42, 43, 44, 45, 46, 47, 48, 49, 50, 51, 52, 53, 54, 55, 56, 57, 58, 59, 60, 61, 62, 63, 64, 65, 66, 67, 68, 69, 70, 71, 72, 73, 74, 75, 76, 77, 78, 79, 80, 81, 82, 83, 84, 85, 86, 87, 88, 89, 90, 91, 92, 93, 94, 95, 96, 97, 98, 99, 100, 101, 102, 103, 104, 105, 106, 107, 108, 109, 110, 111, 112, 113] rfl (by decide +kernel)
set_option maxRecDepth 20000 in
theorem gX12_finds_X12_second : GoodIn wsX12_finds (wsV RX12 392 RX12 yX12_second wsX12_second) := goodIn_app (goodIn_of _ (by decide +kernel)) ggX12_finds_X12_second
set_option maxRecDepth 20000 in
theorem ggX12_finds_X12_gainOf : GoodIn wsX12_finds wsX12_gainOf := goodIn_r _ [27, 28, 29, 14, 15, 16, 10, 17, 18, 5, 30, 31, 32, 33, 34, 19, 20, 21, 22, 23, 39, 40, 41, 42, 43, 44, 45, 46, 47, 48, 49, 50, 51, 52, 53, 54, 55, 56, 57, 58, 59, 60, 61, 62, 63, 64, 65, 66, 67, 68, 69, 70, 71, 72, 73, 74, 75, 76, 77, 78, 79, 80, 81, 82, 83, 84, 85, 86, 87, 88, 89, 90, 91, 92, 93, 94, 95, 96, 97, 98, 99, 100, 101, 102, 103, 104, 105, 106, 107, 108, 109, 110, 111, 112, 113] rfl (by decide +kernel)
set_option maxRecDepth 20000 in
theorem gX12_finds_X12_gainOf : GoodIn wsX12_finds (wsV RX12 430 RX12 yX12_gainOf wsX12_gainOf) := goodIn_app (goodIn_of _ (by decide +kernel)) ggX12_finds_X12_gainOf
theorem dX12_finds_0 : decode cX12_finds 0 = .ok (.aload_n 0, 1) := by decide +kernel
theorem dX12_finds_1 : decode cX12_finds 1 = .ok (.iconst 0, 1) := by decide +kernel
theorem dX12_finds_2 : decode cX12_finds 2 = .ok (.putfield 183, 3) := by decide +kernel
theorem dX12_finds_5 : decode cX12_finds 5 = .ok (.iconst 0, 1) := by decide +kernel
theorem dX12_finds_6 : decode cX12_finds 6 = .ok (.istore_n 1, 1) := by decide +kernel
theorem dX12_finds_7 : decode cX12_finds 7 = .ok (.iload_n 1, 1) := by decide +kernel
theorem dX12_finds_8 : decode cX12_finds 8 = .ok (.bipush 12, 2) := by decide +kernel
theorem dX12_finds_10 : decode cX12_finds 10 = .ok (.if_icmp .ge 16, 3) := by decide +kernel
theorem dX12_finds_13 : decode cX12_finds 13 = .ok (.aload_n 0, 1) := by decide +kernel
theorem dX12_finds_14 : decode cX12_finds 14 = .ok (.getfield 189, 3) := by decide +kernel
theorem dX12_finds_17 : decode cX12_finds 17 = .ok (.iload_n 1, 1) := by decide +kernel
theorem dX12_finds_18 : decode cX12_finds 18 = .ok (.iconst (-1), 1) := by decide +kernel
theorem dX12_finds_19 : decode cX12_finds 19 = .ok (.iastore, 1) := by decide +kernel
theorem dX12_finds_20 : decode cX12_finds 20 = .ok (.iinc 1 1, 3) := by decide +kernel
theorem dX12_finds_23 : decode cX12_finds 23 = .ok (.goto (-16), 3) := by decide +kernel
theorem dX12_finds_26 : decode cX12_finds 26 = .ok (.aload_n 0, 1) := by decide +kernel
theorem dX12_finds_27 : decode cX12_finds 27 = .ok (.iconst (-1), 1) := by decide +kernel
theorem dX12_finds_28 : decode cX12_finds 28 = .ok (.invokevirtual 444, 3) := by decide +kernel
theorem dX12_finds_31 : decode cX12_finds 31 = .ok (.aload_n 0, 1) := by decide +kernel
theorem dX12_finds_32 : decode cX12_finds 32 = .ok (.getfield 171, 3) := by decide +kernel
theorem dX12_finds_35 : decode cX12_finds 35 = .ok (.aload_n 0, 1) := by decide +kernel
theorem dX12_finds_36 : decode cX12_finds 36 = .ok (.invokevirtual 437, 3) := by decide +kernel
theorem dX12_finds_39 : decode cX12_finds 39 = .ok (.iaload, 1) := by decide +kernel
theorem dX12_finds_40 : decode cX12_finds 40 = .ok (.istore_n 1, 1) := by decide +kernel
theorem dX12_finds_41 : decode cX12_finds 41 = .ok (.aload_n 0, 1) := by decide +kernel
theorem dX12_finds_42 : decode cX12_finds 42 = .ok (.invokevirtual 437, 3) := by decide +kernel
theorem dX12_finds_45 : decode cX12_finds 45 = .ok (.istore_n 2, 1) := by decide +kernel
theorem dX12_finds_46 : decode cX12_finds 46 = .ok (.iconst 0, 1) := by decide +kernel
theorem dX12_finds_47 : decode cX12_finds 47 = .ok (.istore_n 3, 1) := by decide +kernel
theorem dX12_finds_48 : decode cX12_finds 48 = .ok (.iload_n 3, 1) := by decide +kernel
theorem dX12_finds_49 : decode cX12_finds 49 = .ok (.aload_n 0, 1) := by decide +kernel
theorem dX12_finds_50 : decode cX12_finds 50 = .ok (.getfield 54, 3) := by decide +kernel
theorem dX12_finds_53 : decode cX12_finds 53 = .ok (.aload_n 0, 1) := by decide +kernel
theorem dX12_finds_54 : decode cX12_finds 54 = .ok (.getfield 48, 3) := by decide +kernel
theorem dX12_finds_57 : decode cX12_finds 57 = .ok (.iaload, 1) := by decide +kernel
theorem dX12_finds_58 : decode cX12_finds 58 = .ok (.if_icmp .ge 134, 3) := by decide +kernel
theorem dX12_finds_61 : decode cX12_finds 61 = .ok (.iload_n 1, 1) := by decide +kernel
theorem dX12_finds_62 : decode cX12_finds 62 = .ok (.ifCond .le 130, 3) := by decide +kernel
theorem dX12_finds_65 : decode cX12_finds 65 = .ok (.iconst 1, 1) := by decide +kernel
theorem dX12_finds_66 : decode cX12_finds 66 = .ok (.aload_n 0, 1) := by decide +kernel
theorem dX12_finds_67 : decode cX12_finds 67 = .ok (.iload_n 3, 1) := by decide +kernel
theorem dX12_finds_68 : decode cX12_finds 68 = .ok (.invokevirtual 389, 3) := by decide +kernel
theorem dX12_finds_71 : decode cX12_finds 71 = .ok (.ishl, 1) := by decide +kernel
theorem dX12_finds_72 : decode cX12_finds 72 = .ok (.iconst 1, 1) := by decide +kernel
theorem dX12_finds_73 : decode cX12_finds 73 = .ok (.aload_n 0, 1) := by decide +kernel
theorem dX12_finds_74 : decode cX12_finds 74 = .ok (.iload_n 3, 1) := by decide +kernel
theorem dX12_finds_75 : decode cX12_finds 75 = .ok (.invokevirtual 392, 3) := by decide +kernel
theorem dX12_finds_78 : decode cX12_finds 78 = .ok (.ishl, 1) := by decide +kernel
theorem dX12_finds_79 : decode cX12_finds 79 = .ok (.ior, 1) := by decide +kernel
theorem dX12_finds_80 : decode cX12_finds 80 = .ok (.istore 4, 2) := by decide +kernel
theorem dX12_finds_82 : decode cX12_finds 82 = .ok (.aload_n 0, 1) := by decide +kernel
theorem dX12_finds_83 : decode cX12_finds 83 = .ok (.iload_n 3, 1) := by decide +kernel
theorem dX12_finds_84 : decode cX12_finds 84 = .ok (.invokevirtual 430, 3) := by decide +kernel
theorem dX12_finds_87 : decode cX12_finds 87 = .ok (.istore 5, 2) := by decide +kernel
theorem dX12_finds_89 : decode cX12_finds 89 = .ok (.iload 5, 2) := by decide +kernel
theorem dX12_finds_91 : decode cX12_finds 91 = .ok (.ifCond .eq 95, 3) := by decide +kernel
theorem dX12_finds_94 : decode cX12_finds 94 = .ok (.iload_n 2, 1) := by decide +kernel
theorem dX12_finds_95 : decode cX12_finds 95 = .ok (.iload 4, 2) := by decide +kernel
theorem dX12_finds_97 : decode cX12_finds 97 = .ok (.iand, 1) := by decide +kernel
theorem dX12_finds_98 : decode cX12_finds 98 = .ok (.iload 4, 2) := by decide +kernel
theorem dX12_finds_100 : decode cX12_finds 100 = .ok (.if_icmp .eq 6, 3) := by decide +kernel
theorem dX12_finds_103 : decode cX12_finds 103 = .ok (.goto 83, 3) := by decide +kernel
theorem dX12_finds_106 : decode cX12_finds 106 = .ok (.aload_n 0, 1) := by decide +kernel
theorem dX12_finds_107 : decode cX12_finds 107 = .ok (.iload_n 3, 1) := by decide +kernel
theorem dX12_finds_108 : decode cX12_finds 108 = .ok (.invokevirtual 444, 3) := by decide +kernel
theorem dX12_finds_111 : decode cX12_finds 111 = .ok (.iload 5, 2) := by decide +kernel
theorem dX12_finds_113 : decode cX12_finds 113 = .ok (.aload_n 0, 1) := by decide +kernel
theorem dX12_finds_114 : decode cX12_finds 114 = .ok (.getfield 171, 3) := by decide +kernel
theorem dX12_finds_117 : decode cX12_finds 117 = .ok (.iload_n 2, 1) := by decide +kernel
theorem dX12_finds_118 : decode cX12_finds 118 = .ok (.iload 4, 2) := by decide +kernel
theorem dX12_finds_120 : decode cX12_finds 120 = .ok (.iconst (-1), 1) := by decide +kernel
theorem dX12_finds_121 : decode cX12_finds 121 = .ok (.ixor, 1) := by decide +kernel
theorem dX12_finds_122 : decode cX12_finds 122 = .ok (.iand, 1) := by decide +kernel
theorem dX12_finds_123 : decode cX12_finds 123 = .ok (.iaload, 1) := by decide +kernel
theorem dX12_finds_124 : decode cX12_finds 124 = .ok (.iadd, 1) := by decide +kernel
theorem dX12_finds_125 : decode cX12_finds 125 = .ok (.iload_n 1, 1) := by decide +kernel
theorem dX12_finds_126 : decode cX12_finds 126 = .ok (.if_icmp .eq 6, 3) := by decide +kernel
theorem dX12_finds_129 : decode cX12_finds 129 = .ok (.goto 57, 3) := by decide +kernel
theorem dX12_finds_132 : decode cX12_finds 132 = .ok (.aload_n 0, 1) := by decide +kernel
theorem dX12_finds_133 : decode cX12_finds 133 = .ok (.getfield 186, 3) := by decide +kernel
theorem dX12_finds_136 : decode cX12_finds 136 = .ok (.aload_n 0, 1) := by decide +kernel
theorem dX12_finds_137 : decode cX12_finds 137 = .ok (.getfield 183, 3) := by decide +kernel
theorem dX12_finds_140 : decode cX12_finds 140 = .ok (.iload_n 3, 1) := by decide +kernel
theorem dX12_finds_141 : decode cX12_finds 141 = .ok (.iastore, 1) := by decide +kernel
theorem dX12_finds_142 : decode cX12_finds 142 = .ok (.aload_n 0, 1) := by decide +kernel
theorem dX12_finds_143 : decode cX12_finds 143 = .ok (.dup, 1) := by decide +kernel
theorem dX12_finds_144 : decode cX12_finds 144 = .ok (.getfield 183, 3) := by decide +kernel
theorem dX12_finds_147 : decode cX12_finds 147 = .ok (.iconst 1, 1) := by decide +kernel
theorem dX12_finds_148 : decode cX12_finds 148 = .ok (.iadd, 1) := by decide +kernel
theorem dX12_finds_149 : decode cX12_finds 149 = .ok (.putfield 183, 3) := by decide +kernel
theorem dX12_finds_152 : decode cX12_finds 152 = .ok (.iload_n 1, 1) := by decide +kernel
theorem dX12_finds_153 : decode cX12_finds 153 = .ok (.iload 5, 2) := by decide +kernel
theorem dX12_finds_155 : decode cX12_finds 155 = .ok (.isub, 1) := by decide +kernel
theorem dX12_finds_156 : decode cX12_finds 156 = .ok (.istore_n 1, 1) := by decide +kernel
theorem dX12_finds_157 : decode cX12_finds 157 = .ok (.iload_n 2, 1) := by decide +kernel
theorem dX12_finds_158 : decode cX12_finds 158 = .ok (.iload 4, 2) := by decide +kernel
theorem dX12_finds_160 : decode cX12_finds 160 = .ok (.iconst (-1), 1) := by decide +kernel
theorem dX12_finds_161 : decode cX12_finds 161 = .ok (.ixor, 1) := by decide +kernel
theorem dX12_finds_162 : decode cX12_finds 162 = .ok (.iand, 1) := by decide +kernel
theorem dX12_finds_163 : decode cX12_finds 163 = .ok (.istore_n 2, 1) := by decide +kernel
theorem dX12_finds_164 : decode cX12_finds 164 = .ok (.aload_n 0, 1) := by decide +kernel
theorem dX12_finds_165 : decode cX12_finds 165 = .ok (.getfield 189, 3) := by decide +kernel
theorem dX12_finds_168 : decode cX12_finds 168 = .ok (.aload_n 0, 1) := by decide +kernel
theorem dX12_finds_169 : decode cX12_finds 169 = .ok (.iload_n 3, 1) := by decide +kernel
theorem dX12_finds_170 : decode cX12_finds 170 = .ok (.invokevirtual 389, 3) := by decide +kernel
theorem dX12_finds_173 : decode cX12_finds 173 = .ok (.iload_n 3, 1) := by decide +kernel
theorem dX12_finds_174 : decode cX12_finds 174 = .ok (.iastore, 1) := by decide +kernel
theorem dX12_finds_175 : decode cX12_finds 175 = .ok (.aload_n 0, 1) := by decide +kernel
theorem dX12_finds_176 : decode cX12_finds 176 = .ok (.getfield 189, 3) := by decide +kernel
theorem dX12_finds_179 : decode cX12_finds 179 = .ok (.aload_n 0, 1) := by decide +kernel
theorem dX12_finds_180 : decode cX12_finds 180 = .ok (.iload_n 3, 1) := by decide +kernel
theorem dX12_finds_181 : decode cX12_finds 181 = .ok (.invokevirtual 392, 3) := by decide +kernel
theorem dX12_finds_184 : decode cX12_finds 184 = .ok (.iload_n 3, 1) := by decide +kernel
theorem dX12_finds_185 : decode cX12_finds 185 = .ok (.iastore, 1) := by decide +kernel
theorem dX12_finds_186 : decode cX12_finds 186 = .ok (.iinc 3 1, 3) := by decide +kernel
theorem dX12_finds_189 : decode cX12_finds 189 = .ok (.goto (-141), 3) := by decide +kernel
theorem dX12_finds_192 : decode cX12_finds 192 = .ok (.return_, 1) := by decide +kernel
set_option maxRecDepth 20000 in
theorem ggX12_row_X12_lays : GoodIn wsX12_row wsX12_lays := goodIn_r _ [7, 8, 9, 10, 11, 12, 13, 14, 15, 16, 6, 17, 18, 19, 20, 21, 22, 23, 24, 25, 26, 27, 28, 29, 30, 31, 32, 33, 34, 35, 36, 37, 38, 39, 40, 41, 42, 43, 44, 45, 46, 47, 48, 49, 50, 51, 52, 53, 54, 55, 56, 57, 58, 59, 60, 61, 62, 63, 64, 65, 66, 67, 68, 69, 70, 71, 72, 73, 74, 91, 92, 93, 94, 95, 96, 97, 98, 99, 100, 101, 102, 103, 104, 105, 106, 107, 108, 109, 110, 111, 112, 113, 114, 115, 116, 117, 118, 119, 120, 121, 122, 123, 124, 125, 126, 127, 128, 129, 130, 131, 132, 133, 134, 135, 136, 137, 138, 139, 140, 141, 142, 143, 144, 145, 146, 147, 148, 149, 150, 151, 152, 153, 154, 155, 156, 157, 158, 159, 160, 161, 162, 163, 164, 165] rfl (by decide +kernel)
set_option maxRecDepth 20000 in
theorem gX12_row_X12_lays : GoodIn wsX12_row (wsV RX12 434 RX12 yX12_lays wsX12_lays) := goodIn_app (goodIn_of _ (by decide +kernel)) ggX12_row_X12_lays
set_option maxRecDepth 20000 in
theorem ggX12_row_X12_finds : GoodIn wsX12_row wsX12_finds := goodIn_r _ [78, 1, 79, 80, 9, 10, 2, 81, 82, 83, 6, 84, 85, 86, 61, 62, 63, 64, 65, 66, 67, 68, 69, 70, 71, 72, 73, 74, 12, 11, 45, 46, 47, 48, 49, 87, 88, 89, 90, 91, 92, 93, 94, 95, 96, 97, 98, 99, 100, 101, 102, 103, 104, 105, 106, 107, 108, 109, 110, 111, 112, 113, 114, 115, 116, 117, 118, 119, 120, 121, 122, 123, 124, 125, 126, 127, 128, 129, 130, 131, 132, 133, 134, 135, 136, 137, 138, 139, 140, 141, 142, 143, 144, 145, 146, 147, 148, 149, 150, 151, 152, 153, 154, 155, 156, 157, 158, 159, 160, 161, 162, 163, 164, 165] rfl (by decide +kernel)
set_option maxRecDepth 20000 in
theorem gX12_row_X12_finds : GoodIn wsX12_row (wsV RX12 447 RX12 yX12_finds wsX12_finds) := goodIn_app (goodIn_of _ (by decide +kernel)) ggX12_row_X12_finds
theorem dX12_row_0 : decode cX12_row 0 = .ok (.aload_n 0, 1) := by decide +kernel
theorem dX12_row_1 : decode cX12_row 1 = .ok (.iconst (-1), 1) := by decide +kernel
theorem dX12_row_2 : decode cX12_row 2 = .ok (.iconst 0, 1) := by decide +kernel
theorem dX12_row_3 : decode cX12_row 3 = .ok (.invokevirtual 434, 3) := by decide +kernel
theorem dX12_row_6 : decode cX12_row 6 = .ok (.aload_n 0, 1) := by decide +kernel
theorem dX12_row_7 : decode cX12_row 7 = .ok (.invokevirtual 447, 3) := by decide +kernel
theorem dX12_row_10 : decode cX12_row 10 = .ok (.iload_n 1, 1) := by decide +kernel
theorem dX12_row_11 : decode cX12_row 11 = .ok (.ifCond .lt 11, 3) := by decide +kernel
theorem dX12_row_14 : decode cX12_row 14 = .ok (.iload_n 1, 1) := by decide +kernel
theorem dX12_row_15 : decode cX12_row 15 = .ok (.aload_n 0, 1) := by decide +kernel
theorem dX12_row_16 : decode cX12_row 16 = .ok (.getfield 183, 3) := by decide +kernel
theorem dX12_row_19 : decode cX12_row 19 = .ok (.if_icmp .lt 7, 3) := by decide +kernel
theorem dX12_row_22 : decode cX12_row 22 = .ok (.iconst (-1), 1) := by decide +kernel
theorem dX12_row_23 : decode cX12_row 23 = .ok (.goto 9, 3) := by decide +kernel
theorem dX12_row_26 : decode cX12_row 26 = .ok (.aload_n 0, 1) := by decide +kernel
theorem dX12_row_27 : decode cX12_row 27 = .ok (.getfield 186, 3) := by decide +kernel
theorem dX12_row_30 : decode cX12_row 30 = .ok (.iload_n 1, 1) := by decide +kernel
theorem dX12_row_31 : decode cX12_row 31 = .ok (.iaload, 1) := by decide +kernel
theorem dX12_row_32 : decode cX12_row 32 = .ok (.ireturn, 1) := by decide +kernel
set_option maxRecDepth 20000 in
theorem ggX12_of_X12_all : GoodIn wsX12_of wsX12_all := goodIn_r _ [6, 7, 8, 84, 85, 86, 87, 88, 89, 90, 91, 92, 93, 94, 95, 96, 97, 98, 99, 100, 101, 102, 103, 104, 105, 106, 107, 108, 109, 110, 111, 112, 113, 114, 115, 116, 117, 118, 119, 120, 121, 122, 123, 124, 125, 126, 127, 128, 129, 130, 131, 132, 133, 134, 135, 136, 137, 138, 139, 140, 141, 142, 143, 144, 145, 146, 147, 148, 149, 150, 151, 152, 153, 154, 155, 156, 157, 158] rfl (by decide +kernel)
set_option maxRecDepth 20000 in
theorem gX12_of_X12_all : GoodIn wsX12_of (wsV RX12 437 RX12 yX12_all wsX12_all) := goodIn_app (goodIn_of _ (by decide +kernel)) ggX12_of_X12_all
set_option maxRecDepth 20000 in
theorem ggX12_of_X12_lays : GoodIn wsX12_of wsX12_lays := goodIn_r _ [12, 13, 14, 8, 15, 16, 17, 18, 19, 20, 5, 21, 22, 23, 24, 25, 26, 27, 28, 29, 30, 31, 32, 33, 34, 35, 36, 37, 38, 39, 40, 41, 42, 43, 44, 45, 46, 47, 48, 49, 50, 51, 52, 53, 54, 55, 56, 57, 58, 59, 60, 61, 62, 63, 64, 65, 66, 67, 68, 69, 70, 71, 72, 73, 74, 75, 76, 77, 78, 84, 85, 86, 87, 88, 89, 90, 91, 92, 93, 94, 95, 96, 97, 98, 99, 100, 101, 102, 103, 104, 105, 106, 107, 108, 109, 110, 111, 112, 113, 114, 115, 116, 117, 118, 119, 120, 121, 122, 123, 124, 125, 126, 127, 128, 129, 130, 131, 132, 133, 134, 135, 136, 137, 138, 139, 140, 141, 142, 143, 144, 145, 146, 147, 148, 149, 150, 151, 152, 153, 154, 155, 156, 157, 158] rfl (by decide +kernel)
set_option maxRecDepth 20000 in
theorem gX12_of_X12_lays : GoodIn wsX12_of (wsV RX12 434 RX12 yX12_lays wsX12_lays) := goodIn_app (goodIn_of _ (by decide +kernel)) ggX12_of_X12_lays
set_option maxRecDepth 20000 in
theorem ggX12_of_X12_mosts : GoodIn wsX12_of wsX12_mosts := goodIn_r _ [82, 83, 14, 8, 1, 7, 65, 66, 67, 5, 68, 69, 70, 71, 72, 73, 74, 75, 76, 77, 78, 16, 15, 49, 50, 51, 52, 53, 84, 85, 86, 87, 88, 89, 90, 91, 92, 93, 94, 95, 96, 97, 98, 99, 100, 101, 102, 103, 104, 105, 106, 107, 108, 109, 110, 111, 112, 113, 114, 115, 116, 117, 118, 119, 120, 121, 122, 123, 124, 125, 126, 127, 128, 129, 130, 131, 132, 133, 134, 135, 136, 137, 138, 139, 140, 141, 142, 143, 144, 145, 146, 147, 148, 149, 150, 151, 152, 153, 154, 155, 156, 157, 158] rfl (by decide +kernel)
set_option maxRecDepth 20000 in
theorem gX12_of_X12_mosts : GoodIn wsX12_of (wsV RX12 444 RX12 yX12_mosts wsX12_mosts) := goodIn_app (goodIn_of _ (by decide +kernel)) ggX12_of_X12_mosts
theorem dX12_of_0 : decode cX12_of 0 = .ok (.iload_n 1, 1) := by decide +kernel
theorem dX12_of_1 : decode cX12_of 1 = .ok (.ifCond .lt 11, 3) := by decide +kernel
theorem dX12_of_4 : decode cX12_of 4 = .ok (.iload_n 1, 1) := by decide +kernel
theorem dX12_of_5 : decode cX12_of 5 = .ok (.aload_n 0, 1) := by decide +kernel
theorem dX12_of_6 : decode cX12_of 6 = .ok (.invokevirtual 437, 3) := by decide +kernel
theorem dX12_of_9 : decode cX12_of 9 = .ok (.if_icmp .le 5, 3) := by decide +kernel
theorem dX12_of_12 : decode cX12_of 12 = .ok (.iconst (-1), 1) := by decide +kernel
theorem dX12_of_13 : decode cX12_of 13 = .ok (.ireturn, 1) := by decide +kernel
theorem dX12_of_14 : decode cX12_of 14 = .ok (.aload_n 0, 1) := by decide +kernel
theorem dX12_of_15 : decode cX12_of 15 = .ok (.iconst (-1), 1) := by decide +kernel
theorem dX12_of_16 : decode cX12_of 16 = .ok (.iconst 0, 1) := by decide +kernel
theorem dX12_of_17 : decode cX12_of 17 = .ok (.invokevirtual 434, 3) := by decide +kernel
theorem dX12_of_20 : decode cX12_of 20 = .ok (.aload_n 0, 1) := by decide +kernel
theorem dX12_of_21 : decode cX12_of 21 = .ok (.iconst (-1), 1) := by decide +kernel
theorem dX12_of_22 : decode cX12_of 22 = .ok (.invokevirtual 444, 3) := by decide +kernel
theorem dX12_of_25 : decode cX12_of 25 = .ok (.aload_n 0, 1) := by decide +kernel
theorem dX12_of_26 : decode cX12_of 26 = .ok (.getfield 171, 3) := by decide +kernel
theorem dX12_of_29 : decode cX12_of 29 = .ok (.iload_n 1, 1) := by decide +kernel
theorem dX12_of_30 : decode cX12_of 30 = .ok (.iaload, 1) := by decide +kernel
theorem dX12_of_31 : decode cX12_of 31 = .ok (.ireturn, 1) := by decide +kernel
theorem dX12_bound_0 : decode cX12_bound 0 = .ok (.aload_n 0, 1) := by decide +kernel
theorem dX12_bound_1 : decode cX12_bound 1 = .ok (.getfield 192, 3) := by decide +kernel
theorem dX12_bound_4 : decode cX12_bound 4 = .ok (.bipush 24, 2) := by decide +kernel
theorem dX12_bound_6 : decode cX12_bound 6 = .ok (.iload_n 1, 1) := by decide +kernel
theorem dX12_bound_7 : decode cX12_bound 7 = .ok (.imul, 1) := by decide +kernel
theorem dX12_bound_8 : decode cX12_bound 8 = .ok (.iload_n 2, 1) := by decide +kernel
theorem dX12_bound_9 : decode cX12_bound 9 = .ok (.iadd, 1) := by decide +kernel
theorem dX12_bound_10 : decode cX12_bound 10 = .ok (.lload_n 3, 1) := by decide +kernel
theorem dX12_bound_11 : decode cX12_bound 11 = .ok (.aload_n 0, 1) := by decide +kernel
theorem dX12_bound_12 : decode cX12_bound 12 = .ok (.getfield 192, 3) := by decide +kernel
theorem dX12_bound_15 : decode cX12_bound 15 = .ok (.bipush 24, 2) := by decide +kernel
theorem dX12_bound_17 : decode cX12_bound 17 = .ok (.iload_n 1, 1) := by decide +kernel
theorem dX12_bound_18 : decode cX12_bound 18 = .ok (.imul, 1) := by decide +kernel
theorem dX12_bound_19 : decode cX12_bound 19 = .ok (.iload_n 2, 1) := by decide +kernel
theorem dX12_bound_20 : decode cX12_bound 20 = .ok (.iadd, 1) := by decide +kernel
theorem dX12_bound_21 : decode cX12_bound 21 = .ok (.laload, 1) := by decide +kernel
theorem dX12_bound_22 : decode cX12_bound 22 = .ok (.lcmp, 1) := by decide +kernel
theorem dX12_bound_23 : decode cX12_bound 23 = .ok (.ifCond .ge 7, 3) := by decide +kernel
theorem dX12_bound_26 : decode cX12_bound 26 = .ok (.lload_n 3, 1) := by decide +kernel
theorem dX12_bound_27 : decode cX12_bound 27 = .ok (.goto 14, 3) := by decide +kernel
theorem dX12_bound_30 : decode cX12_bound 30 = .ok (.aload_n 0, 1) := by decide +kernel
theorem dX12_bound_31 : decode cX12_bound 31 = .ok (.getfield 192, 3) := by decide +kernel
theorem dX12_bound_34 : decode cX12_bound 34 = .ok (.bipush 24, 2) := by decide +kernel
theorem dX12_bound_36 : decode cX12_bound 36 = .ok (.iload_n 1, 1) := by decide +kernel
theorem dX12_bound_37 : decode cX12_bound 37 = .ok (.imul, 1) := by decide +kernel
theorem dX12_bound_38 : decode cX12_bound 38 = .ok (.iload_n 2, 1) := by decide +kernel
theorem dX12_bound_39 : decode cX12_bound 39 = .ok (.iadd, 1) := by decide +kernel
theorem dX12_bound_40 : decode cX12_bound 40 = .ok (.laload, 1) := by decide +kernel
theorem dX12_bound_41 : decode cX12_bound 41 = .ok (.lastore, 1) := by decide +kernel
theorem dX12_bound_42 : decode cX12_bound 42 = .ok (.return_, 1) := by decide +kernel
set_option maxRecDepth 20000 in
theorem ggX12_atLeast_X12_bound : GoodIn wsX12_atLeast wsX12_bound := goodIn_r _ [6, 7, 8, 9, 10, 11, 12, 13, 14, 15, 16, 17, 18, 19, 20, 21, 22, 23, 24, 25, 26, 27, 28, 29, 30, 31, 32, 33, 34, 35, 36, 37, 38, 39, 40, 41, 42, 43, 44, 45, 46, 47, 48, 49, 50, 51, 52, 53, 54, 55, 56, 57, 58, 59, 60, 61, 62, 63, 64, 65, 66, 67, 68, 69, 70, 71, 72, 73, 74, 75, 76, 77, 78, 79, 80, 81, 82] rfl (by decide +kernel)
set_option maxRecDepth 20000 in
theorem gX12_atLeast_X12_bound : GoodIn wsX12_atLeast (wsV RX12 452 RX12 yX12_bound wsX12_bound) := goodIn_app (goodIn_of _ (by decide +kernel)) ggX12_atLeast_X12_bound
theorem dX12_atLeast_0 : decode cX12_atLeast 0 = .ok (.aload_n 0, 1) := by decide +kernel
theorem dX12_atLeast_1 : decode cX12_atLeast 1 = .ok (.iconst 2, 1) := by decide +kernel
theorem dX12_atLeast_2 : decode cX12_atLeast 2 = .ok (.iload_n 1, 1) := by decide +kernel
theorem dX12_atLeast_3 : decode cX12_atLeast 3 = .ok (.imul, 1) := by decide +kernel
theorem dX12_atLeast_4 : decode cX12_atLeast 4 = .ok (.iconst 2, 1) := by decide +kernel
theorem dX12_atLeast_5 : decode cX12_atLeast 5 = .ok (.iload_n 1, 1) := by decide +kernel
theorem dX12_atLeast_6 : decode cX12_atLeast 6 = .ok (.imul, 1) := by decide +kernel
theorem dX12_atLeast_7 : decode cX12_atLeast 7 = .ok (.iconst 1, 1) := by decide +kernel
theorem dX12_atLeast_8 : decode cX12_atLeast 8 = .ok (.iadd, 1) := by decide +kernel
theorem dX12_atLeast_9 : decode cX12_atLeast 9 = .ok (.ldc2_w 450, 3) := by decide +kernel
theorem dX12_atLeast_12 : decode cX12_atLeast 12 = .ok (.lload_n 2, 1) := by decide +kernel
theorem dX12_atLeast_13 : decode cX12_atLeast 13 = .ok (.lmul, 1) := by decide +kernel
theorem dX12_atLeast_14 : decode cX12_atLeast 14 = .ok (.invokevirtual 452, 3) := by decide +kernel
theorem dX12_atLeast_17 : decode cX12_atLeast 17 = .ok (.return_, 1) := by decide +kernel
set_option maxRecDepth 20000 in
theorem ggX12_atMost_X12_bound : GoodIn wsX12_atMost wsX12_bound := goodIn_r _ [6, 7, 8, 9, 10, 11, 12, 13, 14, 15, 16, 17, 18, 19, 20, 21, 22, 23, 24, 25, 26, 27, 28, 29, 30, 31, 32, 33, 34, 35, 36, 37, 38, 39, 40, 41, 42, 43, 44, 45, 46, 47, 48, 49, 50, 51, 52, 53, 54, 55, 56, 57, 58, 59, 60, 61, 62, 63, 64, 65, 66, 67, 68, 69, 70, 71, 72, 73, 74, 75, 76, 77, 78, 79, 80, 81, 82] rfl (by decide +kernel)
set_option maxRecDepth 20000 in
theorem gX12_atMost_X12_bound : GoodIn wsX12_atMost (wsV RX12 452 RX12 yX12_bound wsX12_bound) := goodIn_app (goodIn_of _ (by decide +kernel)) ggX12_atMost_X12_bound
theorem dX12_atMost_0 : decode cX12_atMost 0 = .ok (.aload_n 0, 1) := by decide +kernel
theorem dX12_atMost_1 : decode cX12_atMost 1 = .ok (.iconst 2, 1) := by decide +kernel
theorem dX12_atMost_2 : decode cX12_atMost 2 = .ok (.iload_n 1, 1) := by decide +kernel
theorem dX12_atMost_3 : decode cX12_atMost 3 = .ok (.imul, 1) := by decide +kernel
theorem dX12_atMost_4 : decode cX12_atMost 4 = .ok (.iconst 1, 1) := by decide +kernel
theorem dX12_atMost_5 : decode cX12_atMost 5 = .ok (.iadd, 1) := by decide +kernel
theorem dX12_atMost_6 : decode cX12_atMost 6 = .ok (.iconst 2, 1) := by decide +kernel
theorem dX12_atMost_7 : decode cX12_atMost 7 = .ok (.iload_n 1, 1) := by decide +kernel
theorem dX12_atMost_8 : decode cX12_atMost 8 = .ok (.imul, 1) := by decide +kernel
theorem dX12_atMost_9 : decode cX12_atMost 9 = .ok (.ldc2_w 456, 3) := by decide +kernel
theorem dX12_atMost_12 : decode cX12_atMost 12 = .ok (.lload_n 2, 1) := by decide +kernel
theorem dX12_atMost_13 : decode cX12_atMost 13 = .ok (.lmul, 1) := by decide +kernel
theorem dX12_atMost_14 : decode cX12_atMost 14 = .ok (.invokevirtual 452, 3) := by decide +kernel
theorem dX12_atMost_17 : decode cX12_atMost 17 = .ok (.return_, 1) := by decide +kernel
set_option maxRecDepth 20000 in
theorem ggX12_together_X12_bound : GoodIn wsX12_together wsX12_bound := goodIn_r _ [5, 6, 7, 8, 9, 10, 11, 12, 13, 14, 15, 16, 17, 18, 19, 20, 21, 22, 23, 24, 25, 26, 27, 28, 29, 30, 31, 32, 33, 34, 35, 36, 37, 38, 39, 40, 41, 42, 43, 44, 45, 46, 47, 48, 49, 50, 51, 52, 53, 54, 55, 56, 57, 58, 59, 60, 61, 62, 63, 64, 65, 66, 67, 68, 69, 70, 71, 72, 73, 74, 75, 76, 77, 78, 79, 80, 81] rfl (by decide +kernel)
set_option maxRecDepth 20000 in
theorem gX12_together_X12_bound : GoodIn wsX12_together (wsV RX12 452 RX12 yX12_bound wsX12_bound) := goodIn_app (goodIn_of _ (by decide +kernel)) ggX12_together_X12_bound
theorem dX12_together_0 : decode cX12_together 0 = .ok (.aload_n 0, 1) := by decide +kernel
theorem dX12_together_1 : decode cX12_together 1 = .ok (.iconst 2, 1) := by decide +kernel
theorem dX12_together_2 : decode cX12_together 2 = .ok (.iload_n 2, 1) := by decide +kernel
theorem dX12_together_3 : decode cX12_together 3 = .ok (.imul, 1) := by decide +kernel
theorem dX12_together_4 : decode cX12_together 4 = .ok (.iconst 2, 1) := by decide +kernel
theorem dX12_together_5 : decode cX12_together 5 = .ok (.iload_n 1, 1) := by decide +kernel
theorem dX12_together_6 : decode cX12_together 6 = .ok (.imul, 1) := by decide +kernel
theorem dX12_together_7 : decode cX12_together 7 = .ok (.iconst 1, 1) := by decide +kernel
theorem dX12_together_8 : decode cX12_together 8 = .ok (.iadd, 1) := by decide +kernel
theorem dX12_together_9 : decode cX12_together 9 = .ok (.lload_n 3, 1) := by decide +kernel
theorem dX12_together_10 : decode cX12_together 10 = .ok (.lneg, 1) := by decide +kernel
theorem dX12_together_11 : decode cX12_together 11 = .ok (.invokevirtual 452, 3) := by decide +kernel
theorem dX12_together_14 : decode cX12_together 14 = .ok (.aload_n 0, 1) := by decide +kernel
theorem dX12_together_15 : decode cX12_together 15 = .ok (.iconst 2, 1) := by decide +kernel
theorem dX12_together_16 : decode cX12_together 16 = .ok (.iload_n 1, 1) := by decide +kernel
theorem dX12_together_17 : decode cX12_together 17 = .ok (.imul, 1) := by decide +kernel
theorem dX12_together_18 : decode cX12_together 18 = .ok (.iconst 2, 1) := by decide +kernel
theorem dX12_together_19 : decode cX12_together 19 = .ok (.iload_n 2, 1) := by decide +kernel
theorem dX12_together_20 : decode cX12_together 20 = .ok (.imul, 1) := by decide +kernel
theorem dX12_together_21 : decode cX12_together 21 = .ok (.iconst 1, 1) := by decide +kernel
theorem dX12_together_22 : decode cX12_together 22 = .ok (.iadd, 1) := by decide +kernel
theorem dX12_together_23 : decode cX12_together 23 = .ok (.lload_n 3, 1) := by decide +kernel
theorem dX12_together_24 : decode cX12_together 24 = .ok (.lneg, 1) := by decide +kernel
theorem dX12_together_25 : decode cX12_together 25 = .ok (.invokevirtual 452, 3) := by decide +kernel
theorem dX12_together_28 : decode cX12_together 28 = .ok (.return_, 1) := by decide +kernel
set_option maxRecDepth 20000 in
theorem ggX12_notMore_X12_bound : GoodIn wsX12_notMore wsX12_bound := goodIn_r _ [5, 6, 7, 8, 9, 10, 11, 12, 13, 14, 15, 16, 17, 18, 19, 20, 21, 22, 23, 24, 25, 26, 27, 28, 29, 30, 31, 32, 33, 34, 35, 36, 37, 38, 39, 40, 41, 42, 43, 44, 45, 46, 47, 48, 49, 50, 51, 52, 53, 54, 55, 56, 57, 58, 59, 60, 61, 62, 63, 64, 65, 66, 67, 68, 69, 70, 71, 72, 73, 74, 75, 76, 77, 78, 79, 80, 81] rfl (by decide +kernel)
set_option maxRecDepth 20000 in
theorem gX12_notMore_X12_bound : GoodIn wsX12_notMore (wsV RX12 452 RX12 yX12_bound wsX12_bound) := goodIn_app (goodIn_of _ (by decide +kernel)) ggX12_notMore_X12_bound
theorem dX12_notMore_0 : decode cX12_notMore 0 = .ok (.aload_n 0, 1) := by decide +kernel
theorem dX12_notMore_1 : decode cX12_notMore 1 = .ok (.iconst 2, 1) := by decide +kernel
theorem dX12_notMore_2 : decode cX12_notMore 2 = .ok (.iload_n 2, 1) := by decide +kernel
theorem dX12_notMore_3 : decode cX12_notMore 3 = .ok (.imul, 1) := by decide +kernel
theorem dX12_notMore_4 : decode cX12_notMore 4 = .ok (.iconst 1, 1) := by decide +kernel
theorem dX12_notMore_5 : decode cX12_notMore 5 = .ok (.iadd, 1) := by decide +kernel
theorem dX12_notMore_6 : decode cX12_notMore 6 = .ok (.iconst 2, 1) := by decide +kernel
theorem dX12_notMore_7 : decode cX12_notMore 7 = .ok (.iload_n 1, 1) := by decide +kernel
theorem dX12_notMore_8 : decode cX12_notMore 8 = .ok (.imul, 1) := by decide +kernel
theorem dX12_notMore_9 : decode cX12_notMore 9 = .ok (.lload_n 3, 1) := by decide +kernel
theorem dX12_notMore_10 : decode cX12_notMore 10 = .ok (.invokevirtual 452, 3) := by decide +kernel
theorem dX12_notMore_13 : decode cX12_notMore 13 = .ok (.aload_n 0, 1) := by decide +kernel
theorem dX12_notMore_14 : decode cX12_notMore 14 = .ok (.iconst 2, 1) := by decide +kernel
theorem dX12_notMore_15 : decode cX12_notMore 15 = .ok (.iload_n 1, 1) := by decide +kernel
theorem dX12_notMore_16 : decode cX12_notMore 16 = .ok (.imul, 1) := by decide +kernel
theorem dX12_notMore_17 : decode cX12_notMore 17 = .ok (.iconst 1, 1) := by decide +kernel
theorem dX12_notMore_18 : decode cX12_notMore 18 = .ok (.iadd, 1) := by decide +kernel
theorem dX12_notMore_19 : decode cX12_notMore 19 = .ok (.iconst 2, 1) := by decide +kernel
theorem dX12_notMore_20 : decode cX12_notMore 20 = .ok (.iload_n 2, 1) := by decide +kernel
theorem dX12_notMore_21 : decode cX12_notMore 21 = .ok (.imul, 1) := by decide +kernel
theorem dX12_notMore_22 : decode cX12_notMore 22 = .ok (.lload_n 3, 1) := by decide +kernel
theorem dX12_notMore_23 : decode cX12_notMore 23 = .ok (.invokevirtual 452, 3) := by decide +kernel
theorem dX12_notMore_26 : decode cX12_notMore 26 = .ok (.return_, 1) := by decide +kernel
set_option maxRecDepth 20000 in
theorem ggX12_ends_X12_finds : GoodIn wsX12_ends wsX12_finds := goodIn_r _ [13, 14, 5, 15, 6, 4, 16, 17, 18, 19, 12, 20, 21, 3, 22, 23, 24, 25, 26, 27, 28, 29, 30, 31, 32, 33, 34, 35, 8, 7, 36, 37, 38, 39, 40, 41, 42, 43, 44, 67, 68, 69, 70, 71, 72, 73, 74, 75, 76, 77, 78, 79, 80, 81, 82, 83, 84, 85, 86, 87, 88, 89, 90, 91, 92, 93, 94, 95, 96, 97, 98, 99, 100, 101, 102, 103, 104, 105, 106, 107, 108, 109, 110, 111, 112, 113, 114, 115, 116, 117, 118, 119, 120, 121, 122, 123, 124, 125, 126, 127, 128, 129, 130, 131, 132, 133, 134, 135, 136, 137, 138, 139, 140, 141] rfl (by decide +kernel)
set_option maxRecDepth 20000 in
theorem gX12_ends_X12_finds : GoodIn wsX12_ends (wsV RX12 447 RX12 yX12_finds wsX12_finds) := goodIn_app (goodIn_of _ (by decide +kernel)) ggX12_ends_X12_finds
set_option maxRecDepth 20000 in
theorem ggX12_ends_X12_aloneOf : GoodIn wsX12_ends wsX12_aloneOf := goodIn_r _ [39, 40, 4, 67, 68, 69, 70, 71, 72, 73, 74, 75, 76, 77, 78, 79, 80, 81, 82, 83, 84, 85, 86, 87, 88, 89, 90, 91, 92, 93, 94, 95, 96, 97, 98, 99, 100, 101, 102, 103, 104, 105, 106, 107, 108, 109, 110, 111, 112, 113, 114, 115, 116, 117, 118, 119, 120, 121, 122, 123, 124, 125, 126, 127, 128, 129, 130, 131, 132, 133, 134, 135, 136, 137, 138, 139, 140, 141] rfl (by decide +kernel)
set_option maxRecDepth 20000 in
theorem gX12_ends_X12_aloneOf : GoodIn wsX12_ends (wsV RX12 411 RX12 yX12_aloneOf wsX12_aloneOf) := goodIn_app (goodIn_of _ (by decide +kernel)) ggX12_ends_X12_aloneOf
set_option maxRecDepth 20000 in
theorem ggX12_ends_X12_atLeast : GoodIn wsX12_ends wsX12_atLeast := goodIn_r _ [48, 49, 50, 51, 52, 12, 53, 1, 67, 68, 69, 70, 71, 72, 73, 74, 75, 76, 77, 78, 79, 80, 81, 82, 83, 84, 85, 86, 87, 88, 89, 90, 91, 92, 93, 94, 95, 96, 97, 98, 99, 100, 101, 102, 103, 104, 105, 106, 107, 108, 109, 110, 111, 112, 113, 114, 115, 116, 117, 118, 119, 120, 121, 122, 123, 124, 125, 126, 127, 128, 129, 130, 131, 132, 133, 134, 135, 136, 137, 138, 139, 140, 141] rfl (by decide +kernel)
set_option maxRecDepth 20000 in
theorem gX12_ends_X12_atLeast : GoodIn wsX12_ends (wsV RX12 460 RX12 yX12_atLeast wsX12_atLeast) := goodIn_app (goodIn_of _ (by decide +kernel)) ggX12_ends_X12_atLeast
set_option maxRecDepth 20000 in
theorem ggX12_ends_X12_atMost : GoodIn wsX12_ends wsX12_atMost := goodIn_r _ [57, 58, 50, 51, 52, 12, 53, 1, 67, 68, 69, 70, 71, 72, 73, 74, 75, 76, 77, 78, 79, 80, 81, 82, 83, 84, 85, 86, 87, 88, 89, 90, 91, 92, 93, 94, 95, 96, 97, 98, 99, 100, 101, 102, 103, 104, 105, 106, 107, 108, 109, 110, 111, 112, 113, 114, 115, 116, 117, 118, 119, 120, 121, 122, 123, 124, 125, 126, 127, 128, 129, 130, 131, 132, 133, 134, 135, 136, 137, 138, 139, 140, 141] rfl (by decide +kernel)
set_option maxRecDepth 20000 in
theorem gX12_ends_X12_atMost : GoodIn wsX12_ends (wsV RX12 464 RX12 yX12_atMost wsX12_atMost) := goodIn_app (goodIn_of _ (by decide +kernel)) ggX12_ends_X12_atMost
set_option maxRecDepth 20000 in
theorem ggX12_ends_X12_first : GoodIn wsX12_ends wsX12_first := goodIn_r _ [25, 26, 4, 67, 68, 69, 70, 71, 72, 73, 74, 75, 76, 77, 78, 79, 80, 81, 82, 83, 84, 85, 86, 87, 88, 89, 90, 91, 92, 93, 94, 95, 96, 97, 98, 99, 100, 101, 102, 103, 104, 105, 106, 107, 108, 109, 110, 111, 112, 113, 114, 115, 116, 117, 118, 119, 120, 121, 122, 123, 124, 125, 126, 127, 128, 129, 130, 131, 132, 133, 134, 135, 136, 137, 138, 139, 140, 141] rfl (by decide +kernel)
set_option maxRecDepth 20000 in
theorem gX12_ends_X12_first : GoodIn wsX12_ends (wsV RX12 389 RX12 yX12_first wsX12_first) := goodIn_app (goodIn_of _ (by decide +kernel)) ggX12_ends_X12_first
set_option maxRecDepth 20000 in
theorem ggX12_ends_X12_second : GoodIn wsX12_ends wsX12_second := goodIn_r _ [30, 31, 4, 67, 68, 69, 70, 71, 72, 73, 74, 75, 76, 77, 78, 79, 80, 81, 82, 83, 84, 85, 86, 87, 88, 89, 90, 91, 92, 93, 94, 95, 96, 97, 98, 99, 100, 101, 102, 103, 104, 105, 106, 107, 108, 109, 110, 111, 112, 113, 114, 115, 116, 117, 118, 119, 120, 121, 122, 123, 124, 125, 126, 127, 128, 129, 130, 131, 132, 133, 134, 135, 136, 137, 138, 139, 140, 141] rfl (by decide +kernel)
set_option maxRecDepth 20000 in
theorem gX12_ends_X12_second : GoodIn wsX12_ends (wsV RX12 392 RX12 yX12_second wsX12_second) := goodIn_app (goodIn_of _ (by decide +kernel)) ggX12_ends_X12_second
set_option maxRecDepth 20000 in
theorem ggX12_ends_X12_together : GoodIn wsX12_ends wsX12_together := goodIn_r _ [62, 50, 51, 52, 12, 53, 1, 67, 68, 69, 70, 71, 72, 73, 74, 75, 76, 77, 78, 79, 80, 81, 82, 83, 84, 85, 86, 87, 88, 89, 90, 91, 92, 93, 94, 95, 96, 97, 98, 99, 100, 101, 102, 103, 104, 105, 106, 107, 108, 109, 110, 111, 112, 113, 114, 115, 116, 117, 118, 119, 120, 121, 122, 123, 124, 125, 126, 127, 128, 129, 130, 131, 132, 133, 134, 135, 136, 137, 138, 139, 140, 141] rfl (by decide +kernel)
set_option maxRecDepth 20000 in
theorem gX12_ends_X12_together : GoodIn wsX12_ends (wsV RX12 467 RX12 yX12_together wsX12_together) := goodIn_app (goodIn_of _ (by decide +kernel)) ggX12_ends_X12_together
set_option maxRecDepth 20000 in
theorem ggX12_ends_X12_notMore : GoodIn wsX12_ends wsX12_notMore := goodIn_r _ [66, 50, 51, 52, 12, 53, 1, 67, 68, 69, 70, 71, 72, 73, 74, 75, 76, 77, 78, 79, 80, 81, 82, 83, 84, 85, 86, 87, 88, 89, 90, 91, 92, 93, 94, 95, 96, 97, 98, 99, 100, 101, 102, 103, 104, 105, 106, 107, 108, 109, 110, 111, 112, 113, 114, 115, 116, 117, 118, 119, 120, 121, 122, 123, 124, 125, 126, 127, 128, 129, 130, 131, 132, 133, 134, 135, 136, 137, 138, 139, 140, 141] rfl (by decide +kernel)
set_option maxRecDepth 20000 in
theorem gX12_ends_X12_notMore : GoodIn wsX12_ends (wsV RX12 470 RX12 yX12_notMore wsX12_notMore) := goodIn_app (goodIn_of _ (by decide +kernel)) ggX12_ends_X12_notMore
set_option maxRecDepth 20000 in
theorem ggX12_ends_X12_bound : GoodIn wsX12_ends wsX12_bound := goodIn_r _ [53, 1, 67, 68, 69, 70, 71, 72, 73, 74, 75, 76, 77, 78, 79, 80, 81, 82, 83, 84, 85, 86, 87, 88, 89, 90, 91, 92, 93, 94, 95, 96, 97, 98, 99, 100, 101, 102, 103, 104, 105, 106, 107, 108, 109, 110, 111, 112, 113, 114, 115, 116, 117, 118, 119, 120, 121, 122, 123, 124, 125, 126, 127, 128, 129, 130, 131, 132, 133, 134, 135, 136, 137, 138, 139, 140, 141] rfl (by decide +kernel)
set_option maxRecDepth 20000 in
theorem gX12_ends_X12_bound : GoodIn wsX12_ends (wsV RX12 452 RX12 yX12_bound wsX12_bound) := goodIn_app (goodIn_of _ (by decide +kernel)) ggX12_ends_X12_bound
theorem dX12_ends_0 : decode cX12_ends 0 = .ok (.aload_n 0, 1) := by decide +kernel
theorem dX12_ends_1 : decode cX12_ends 1 = .ok (.invokevirtual 447, 3) := by decide +kernel
theorem dX12_ends_4 : decode cX12_ends 4 = .ok (.iconst 0, 1) := by decide +kernel
theorem dX12_ends_5 : decode cX12_ends 5 = .ok (.istore_n 1, 1) := by decide +kernel
theorem dX12_ends_6 : decode cX12_ends 6 = .ok (.iload_n 1, 1) := by decide +kernel
theorem dX12_ends_7 : decode cX12_ends 7 = .ok (.sipush 576, 3) := by decide +kernel
theorem dX12_ends_10 : decode cX12_ends 10 = .ok (.if_icmp .ge 33, 3) := by decide +kernel
theorem dX12_ends_13 : decode cX12_ends 13 = .ok (.aload_n 0, 1) := by decide +kernel
theorem dX12_ends_14 : decode cX12_ends 14 = .ok (.getfield 192, 3) := by decide +kernel
theorem dX12_ends_17 : decode cX12_ends 17 = .ok (.iload_n 1, 1) := by decide +kernel
theorem dX12_ends_18 : decode cX12_ends 18 = .ok (.iload_n 1, 1) := by decide +kernel
theorem dX12_ends_19 : decode cX12_ends 19 = .ok (.bipush 24, 2) := by decide +kernel
theorem dX12_ends_21 : decode cX12_ends 21 = .ok (.idiv, 1) := by decide +kernel
theorem dX12_ends_22 : decode cX12_ends 22 = .ok (.iload_n 1, 1) := by decide +kernel
theorem dX12_ends_23 : decode cX12_ends 23 = .ok (.bipush 24, 2) := by decide +kernel
theorem dX12_ends_25 : decode cX12_ends 25 = .ok (.irem, 1) := by decide +kernel
theorem dX12_ends_26 : decode cX12_ends 26 = .ok (.if_icmp .ne 7, 3) := by decide +kernel
theorem dX12_ends_29 : decode cX12_ends 29 = .ok (.lconst 0, 1) := by decide +kernel
theorem dX12_ends_30 : decode cX12_ends 30 = .ok (.goto 6, 3) := by decide +kernel
theorem dX12_ends_33 : decode cX12_ends 33 = .ok (.ldc2_w 458, 3) := by decide +kernel
theorem dX12_ends_36 : decode cX12_ends 36 = .ok (.lastore, 1) := by decide +kernel
theorem dX12_ends_37 : decode cX12_ends 37 = .ok (.iinc 1 1, 3) := by decide +kernel
theorem dX12_ends_40 : decode cX12_ends 40 = .ok (.goto (-34), 3) := by decide +kernel
theorem dX12_ends_43 : decode cX12_ends 43 = .ok (.iconst 0, 1) := by decide +kernel
theorem dX12_ends_44 : decode cX12_ends 44 = .ok (.istore_n 1, 1) := by decide +kernel
theorem dX12_ends_45 : decode cX12_ends 45 = .ok (.iload_n 1, 1) := by decide +kernel
theorem dX12_ends_46 : decode cX12_ends 46 = .ok (.aload_n 0, 1) := by decide +kernel
theorem dX12_ends_47 : decode cX12_ends 47 = .ok (.getfield 51, 3) := by decide +kernel
theorem dX12_ends_50 : decode cX12_ends 50 = .ok (.aload_n 0, 1) := by decide +kernel
theorem dX12_ends_51 : decode cX12_ends 51 = .ok (.getfield 48, 3) := by decide +kernel
theorem dX12_ends_54 : decode cX12_ends 54 = .ok (.iaload, 1) := by decide +kernel
theorem dX12_ends_55 : decode cX12_ends 55 = .ok (.if_icmp .ge 41, 3) := by decide +kernel
theorem dX12_ends_58 : decode cX12_ends 58 = .ok (.aload_n 0, 1) := by decide +kernel
theorem dX12_ends_59 : decode cX12_ends 59 = .ok (.iload_n 1, 1) := by decide +kernel
theorem dX12_ends_60 : decode cX12_ends 60 = .ok (.aload_n 0, 1) := by decide +kernel
theorem dX12_ends_61 : decode cX12_ends 61 = .ok (.iload_n 1, 1) := by decide +kernel
theorem dX12_ends_62 : decode cX12_ends 62 = .ok (.invokevirtual 411, 3) := by decide +kernel
theorem dX12_ends_65 : decode cX12_ends 65 = .ok (.i2l, 1) := by decide +kernel
theorem dX12_ends_66 : decode cX12_ends 66 = .ok (.invokevirtual 460, 3) := by decide +kernel
theorem dX12_ends_69 : decode cX12_ends 69 = .ok (.aload_n 0, 1) := by decide +kernel
theorem dX12_ends_70 : decode cX12_ends 70 = .ok (.getfield 189, 3) := by decide +kernel
theorem dX12_ends_73 : decode cX12_ends 73 = .ok (.iload_n 1, 1) := by decide +kernel
theorem dX12_ends_74 : decode cX12_ends 74 = .ok (.iaload, 1) := by decide +kernel
theorem dX12_ends_75 : decode cX12_ends 75 = .ok (.iconst (-1), 1) := by decide +kernel
theorem dX12_ends_76 : decode cX12_ends 76 = .ok (.if_icmp .ne 14, 3) := by decide +kernel
theorem dX12_ends_79 : decode cX12_ends 79 = .ok (.aload_n 0, 1) := by decide +kernel
theorem dX12_ends_80 : decode cX12_ends 80 = .ok (.iload_n 1, 1) := by decide +kernel
theorem dX12_ends_81 : decode cX12_ends 81 = .ok (.aload_n 0, 1) := by decide +kernel
theorem dX12_ends_82 : decode cX12_ends 82 = .ok (.iload_n 1, 1) := by decide +kernel
theorem dX12_ends_83 : decode cX12_ends 83 = .ok (.invokevirtual 411, 3) := by decide +kernel
theorem dX12_ends_86 : decode cX12_ends 86 = .ok (.i2l, 1) := by decide +kernel
theorem dX12_ends_87 : decode cX12_ends 87 = .ok (.invokevirtual 464, 3) := by decide +kernel
theorem dX12_ends_90 : decode cX12_ends 90 = .ok (.iinc 1 1, 3) := by decide +kernel
theorem dX12_ends_93 : decode cX12_ends 93 = .ok (.goto (-48), 3) := by decide +kernel
theorem dX12_ends_96 : decode cX12_ends 96 = .ok (.iconst 0, 1) := by decide +kernel
theorem dX12_ends_97 : decode cX12_ends 97 = .ok (.istore_n 1, 1) := by decide +kernel
theorem dX12_ends_98 : decode cX12_ends 98 = .ok (.iload_n 1, 1) := by decide +kernel
theorem dX12_ends_99 : decode cX12_ends 99 = .ok (.aload_n 0, 1) := by decide +kernel
theorem dX12_ends_100 : decode cX12_ends 100 = .ok (.getfield 54, 3) := by decide +kernel
theorem dX12_ends_103 : decode cX12_ends 103 = .ok (.aload_n 0, 1) := by decide +kernel
theorem dX12_ends_104 : decode cX12_ends 104 = .ok (.getfield 48, 3) := by decide +kernel
theorem dX12_ends_107 : decode cX12_ends 107 = .ok (.iaload, 1) := by decide +kernel
theorem dX12_ends_108 : decode cX12_ends 108 = .ok (.if_icmp .ge 77, 3) := by decide +kernel
theorem dX12_ends_111 : decode cX12_ends 111 = .ok (.aload_n 0, 1) := by decide +kernel
theorem dX12_ends_112 : decode cX12_ends 112 = .ok (.getfield 162, 3) := by decide +kernel
theorem dX12_ends_115 : decode cX12_ends 115 = .ok (.iload_n 1, 1) := by decide +kernel
theorem dX12_ends_116 : decode cX12_ends 116 = .ok (.baload, 1) := by decide +kernel
theorem dX12_ends_117 : decode cX12_ends 117 = .ok (.ifCond .ne 6, 3) := by decide +kernel
theorem dX12_ends_120 : decode cX12_ends 120 = .ok (.goto 59, 3) := by decide +kernel
theorem dX12_ends_123 : decode cX12_ends 123 = .ok (.aload_n 0, 1) := by decide +kernel
theorem dX12_ends_124 : decode cX12_ends 124 = .ok (.aload_n 0, 1) := by decide +kernel
theorem dX12_ends_125 : decode cX12_ends 125 = .ok (.iload_n 1, 1) := by decide +kernel
theorem dX12_ends_126 : decode cX12_ends 126 = .ok (.invokevirtual 389, 3) := by decide +kernel
theorem dX12_ends_129 : decode cX12_ends 129 = .ok (.aload_n 0, 1) := by decide +kernel
theorem dX12_ends_130 : decode cX12_ends 130 = .ok (.iload_n 1, 1) := by decide +kernel
theorem dX12_ends_131 : decode cX12_ends 131 = .ok (.invokevirtual 392, 3) := by decide +kernel
theorem dX12_ends_134 : decode cX12_ends 134 = .ok (.aload_n 0, 1) := by decide +kernel
theorem dX12_ends_135 : decode cX12_ends 135 = .ok (.getfield 165, 3) := by decide +kernel
theorem dX12_ends_138 : decode cX12_ends 138 = .ok (.iload_n 1, 1) := by decide +kernel
theorem dX12_ends_139 : decode cX12_ends 139 = .ok (.iaload, 1) := by decide +kernel
theorem dX12_ends_140 : decode cX12_ends 140 = .ok (.i2l, 1) := by decide +kernel
theorem dX12_ends_141 : decode cX12_ends 141 = .ok (.invokevirtual 467, 3) := by decide +kernel
theorem dX12_ends_144 : decode cX12_ends 144 = .ok (.aload_n 0, 1) := by decide +kernel
theorem dX12_ends_145 : decode cX12_ends 145 = .ok (.getfield 189, 3) := by decide +kernel
theorem dX12_ends_148 : decode cX12_ends 148 = .ok (.aload_n 0, 1) := by decide +kernel
theorem dX12_ends_149 : decode cX12_ends 149 = .ok (.iload_n 1, 1) := by decide +kernel
theorem dX12_ends_150 : decode cX12_ends 150 = .ok (.invokevirtual 389, 3) := by decide +kernel
theorem dX12_ends_153 : decode cX12_ends 153 = .ok (.iaload, 1) := by decide +kernel
theorem dX12_ends_154 : decode cX12_ends 154 = .ok (.iload_n 1, 1) := by decide +kernel
theorem dX12_ends_155 : decode cX12_ends 155 = .ok (.if_icmp .ne 24, 3) := by decide +kernel
theorem dX12_ends_158 : decode cX12_ends 158 = .ok (.aload_n 0, 1) := by decide +kernel
theorem dX12_ends_159 : decode cX12_ends 159 = .ok (.aload_n 0, 1) := by decide +kernel
theorem dX12_ends_160 : decode cX12_ends 160 = .ok (.iload_n 1, 1) := by decide +kernel
theorem dX12_ends_161 : decode cX12_ends 161 = .ok (.invokevirtual 389, 3) := by decide +kernel
theorem dX12_ends_164 : decode cX12_ends 164 = .ok (.aload_n 0, 1) := by decide +kernel
theorem dX12_ends_165 : decode cX12_ends 165 = .ok (.iload_n 1, 1) := by decide +kernel
theorem dX12_ends_166 : decode cX12_ends 166 = .ok (.invokevirtual 392, 3) := by decide +kernel
theorem dX12_ends_169 : decode cX12_ends 169 = .ok (.aload_n 0, 1) := by decide +kernel
theorem dX12_ends_170 : decode cX12_ends 170 = .ok (.getfield 165, 3) := by decide +kernel
theorem dX12_ends_173 : decode cX12_ends 173 = .ok (.iload_n 1, 1) := by decide +kernel
theorem dX12_ends_174 : decode cX12_ends 174 = .ok (.iaload, 1) := by decide +kernel
theorem dX12_ends_175 : decode cX12_ends 175 = .ok (.i2l, 1) := by decide +kernel
theorem dX12_ends_176 : decode cX12_ends 176 = .ok (.invokevirtual 470, 3) := by decide +kernel
theorem dX12_ends_179 : decode cX12_ends 179 = .ok (.iinc 1 1, 3) := by decide +kernel
theorem dX12_ends_182 : decode cX12_ends 182 = .ok (.goto (-84), 3) := by decide +kernel
theorem dX12_ends_185 : decode cX12_ends 185 = .ok (.iconst 0, 1) := by decide +kernel
theorem dX12_ends_186 : decode cX12_ends 186 = .ok (.istore_n 1, 1) := by decide +kernel
theorem dX12_ends_187 : decode cX12_ends 187 = .ok (.iload_n 1, 1) := by decide +kernel
theorem dX12_ends_188 : decode cX12_ends 188 = .ok (.bipush 24, 2) := by decide +kernel
theorem dX12_ends_190 : decode cX12_ends 190 = .ok (.if_icmp .ge 102, 3) := by decide +kernel
theorem dX12_ends_193 : decode cX12_ends 193 = .ok (.iconst 0, 1) := by decide +kernel
theorem dX12_ends_194 : decode cX12_ends 194 = .ok (.istore_n 2, 1) := by decide +kernel
theorem dX12_ends_195 : decode cX12_ends 195 = .ok (.iload_n 2, 1) := by decide +kernel
theorem dX12_ends_196 : decode cX12_ends 196 = .ok (.bipush 24, 2) := by decide +kernel
theorem dX12_ends_198 : decode cX12_ends 198 = .ok (.if_icmp .ge 88, 3) := by decide +kernel
theorem dX12_ends_201 : decode cX12_ends 201 = .ok (.iconst 0, 1) := by decide +kernel
theorem dX12_ends_202 : decode cX12_ends 202 = .ok (.istore_n 3, 1) := by decide +kernel
theorem dX12_ends_203 : decode cX12_ends 203 = .ok (.iload_n 3, 1) := by decide +kernel
theorem dX12_ends_204 : decode cX12_ends 204 = .ok (.bipush 24, 2) := by decide +kernel
theorem dX12_ends_206 : decode cX12_ends 206 = .ok (.if_icmp .ge 74, 3) := by decide +kernel
theorem dX12_ends_209 : decode cX12_ends 209 = .ok (.aload_n 0, 1) := by decide +kernel
theorem dX12_ends_210 : decode cX12_ends 210 = .ok (.getfield 192, 3) := by decide +kernel
theorem dX12_ends_213 : decode cX12_ends 213 = .ok (.bipush 24, 2) := by decide +kernel
theorem dX12_ends_215 : decode cX12_ends 215 = .ok (.iload_n 2, 1) := by decide +kernel
theorem dX12_ends_216 : decode cX12_ends 216 = .ok (.imul, 1) := by decide +kernel
theorem dX12_ends_217 : decode cX12_ends 217 = .ok (.iload_n 1, 1) := by decide +kernel
theorem dX12_ends_218 : decode cX12_ends 218 = .ok (.iadd, 1) := by decide +kernel
theorem dX12_ends_219 : decode cX12_ends 219 = .ok (.laload, 1) := by decide +kernel
theorem dX12_ends_220 : decode cX12_ends 220 = .ok (.ldc2_w 458, 3) := by decide +kernel
theorem dX12_ends_223 : decode cX12_ends 223 = .ok (.lcmp, 1) := by decide +kernel
theorem dX12_ends_224 : decode cX12_ends 224 = .ok (.ifCond .ge 50, 3) := by decide +kernel
theorem dX12_ends_227 : decode cX12_ends 227 = .ok (.aload_n 0, 1) := by decide +kernel
theorem dX12_ends_228 : decode cX12_ends 228 = .ok (.getfield 192, 3) := by decide +kernel
theorem dX12_ends_231 : decode cX12_ends 231 = .ok (.bipush 24, 2) := by decide +kernel
theorem dX12_ends_233 : decode cX12_ends 233 = .ok (.iload_n 1, 1) := by decide +kernel
theorem dX12_ends_234 : decode cX12_ends 234 = .ok (.imul, 1) := by decide +kernel
theorem dX12_ends_235 : decode cX12_ends 235 = .ok (.iload_n 3, 1) := by decide +kernel
theorem dX12_ends_236 : decode cX12_ends 236 = .ok (.iadd, 1) := by decide +kernel
theorem dX12_ends_237 : decode cX12_ends 237 = .ok (.laload, 1) := by decide +kernel
theorem dX12_ends_238 : decode cX12_ends 238 = .ok (.ldc2_w 458, 3) := by decide +kernel
theorem dX12_ends_241 : decode cX12_ends 241 = .ok (.lcmp, 1) := by decide +kernel
theorem dX12_ends_242 : decode cX12_ends 242 = .ok (.ifCond .ge 32, 3) := by decide +kernel
theorem dX12_ends_245 : decode cX12_ends 245 = .ok (.aload_n 0, 1) := by decide +kernel
theorem dX12_ends_246 : decode cX12_ends 246 = .ok (.iload_n 2, 1) := by decide +kernel
theorem dX12_ends_247 : decode cX12_ends 247 = .ok (.iload_n 3, 1) := by decide +kernel
theorem dX12_ends_248 : decode cX12_ends 248 = .ok (.aload_n 0, 1) := by decide +kernel
theorem dX12_ends_249 : decode cX12_ends 249 = .ok (.getfield 192, 3) := by decide +kernel
theorem dX12_ends_252 : decode cX12_ends 252 = .ok (.bipush 24, 2) := by decide +kernel
theorem dX12_ends_254 : decode cX12_ends 254 = .ok (.iload_n 2, 1) := by decide +kernel
theorem dX12_ends_255 : decode cX12_ends 255 = .ok (.imul, 1) := by decide +kernel
theorem dX12_ends_256 : decode cX12_ends 256 = .ok (.iload_n 1, 1) := by decide +kernel
theorem dX12_ends_257 : decode cX12_ends 257 = .ok (.iadd, 1) := by decide +kernel
theorem dX12_ends_258 : decode cX12_ends 258 = .ok (.laload, 1) := by decide +kernel
theorem dX12_ends_259 : decode cX12_ends 259 = .ok (.aload_n 0, 1) := by decide +kernel
theorem dX12_ends_260 : decode cX12_ends 260 = .ok (.getfield 192, 3) := by decide +kernel
theorem dX12_ends_263 : decode cX12_ends 263 = .ok (.bipush 24, 2) := by decide +kernel
theorem dX12_ends_265 : decode cX12_ends 265 = .ok (.iload_n 1, 1) := by decide +kernel
theorem dX12_ends_266 : decode cX12_ends 266 = .ok (.imul, 1) := by decide +kernel
theorem dX12_ends_267 : decode cX12_ends 267 = .ok (.iload_n 3, 1) := by decide +kernel
theorem dX12_ends_268 : decode cX12_ends 268 = .ok (.iadd, 1) := by decide +kernel
theorem dX12_ends_269 : decode cX12_ends 269 = .ok (.laload, 1) := by decide +kernel
theorem dX12_ends_270 : decode cX12_ends 270 = .ok (.ladd, 1) := by decide +kernel
theorem dX12_ends_271 : decode cX12_ends 271 = .ok (.invokevirtual 452, 3) := by decide +kernel
theorem dX12_ends_274 : decode cX12_ends 274 = .ok (.iinc 3 1, 3) := by decide +kernel
theorem dX12_ends_277 : decode cX12_ends 277 = .ok (.goto (-74), 3) := by decide +kernel
theorem dX12_ends_280 : decode cX12_ends 280 = .ok (.iinc 2 1, 3) := by decide +kernel
theorem dX12_ends_283 : decode cX12_ends 283 = .ok (.goto (-88), 3) := by decide +kernel
theorem dX12_ends_286 : decode cX12_ends 286 = .ok (.iinc 1 1, 3) := by decide +kernel
theorem dX12_ends_289 : decode cX12_ends 289 = .ok (.goto (-102), 3) := by decide +kernel
theorem dX12_ends_292 : decode cX12_ends 292 = .ok (.iconst 0, 1) := by decide +kernel
theorem dX12_ends_293 : decode cX12_ends 293 = .ok (.istore_n 1, 1) := by decide +kernel
theorem dX12_ends_294 : decode cX12_ends 294 = .ok (.iload_n 1, 1) := by decide +kernel
theorem dX12_ends_295 : decode cX12_ends 295 = .ok (.bipush 24, 2) := by decide +kernel
theorem dX12_ends_297 : decode cX12_ends 297 = .ok (.if_icmp .ge 25, 3) := by decide +kernel
theorem dX12_ends_300 : decode cX12_ends 300 = .ok (.aload_n 0, 1) := by decide +kernel
theorem dX12_ends_301 : decode cX12_ends 301 = .ok (.getfield 192, 3) := by decide +kernel
theorem dX12_ends_304 : decode cX12_ends 304 = .ok (.bipush 25, 2) := by decide +kernel
theorem dX12_ends_306 : decode cX12_ends 306 = .ok (.iload_n 1, 1) := by decide +kernel
theorem dX12_ends_307 : decode cX12_ends 307 = .ok (.imul, 1) := by decide +kernel
theorem dX12_ends_308 : decode cX12_ends 308 = .ok (.laload, 1) := by decide +kernel
theorem dX12_ends_309 : decode cX12_ends 309 = .ok (.lconst 0, 1) := by decide +kernel
theorem dX12_ends_310 : decode cX12_ends 310 = .ok (.lcmp, 1) := by decide +kernel
theorem dX12_ends_311 : decode cX12_ends 311 = .ok (.ifCond .ge 5, 3) := by decide +kernel
theorem dX12_ends_314 : decode cX12_ends 314 = .ok (.iconst 0, 1) := by decide +kernel
theorem dX12_ends_315 : decode cX12_ends 315 = .ok (.ireturn, 1) := by decide +kernel
theorem dX12_ends_316 : decode cX12_ends 316 = .ok (.iinc 1 1, 3) := by decide +kernel
theorem dX12_ends_319 : decode cX12_ends 319 = .ok (.goto (-25), 3) := by decide +kernel
theorem dX12_ends_322 : decode cX12_ends 322 = .ok (.iconst 1, 1) := by decide +kernel
theorem dX12_ends_323 : decode cX12_ends 323 = .ok (.ireturn, 1) := by decide +kernel
theorem dX12_leastOf_0 : decode cX12_leastOf 0 = .ok (.aload_n 0, 1) := by decide +kernel
theorem dX12_leastOf_1 : decode cX12_leastOf 1 = .ok (.getfield 192, 3) := by decide +kernel
theorem dX12_leastOf_4 : decode cX12_leastOf 4 = .ok (.bipush 24, 2) := by decide +kernel
theorem dX12_leastOf_6 : decode cX12_leastOf 6 = .ok (.iconst 2, 1) := by decide +kernel
theorem dX12_leastOf_7 : decode cX12_leastOf 7 = .ok (.iload_n 1, 1) := by decide +kernel
theorem dX12_leastOf_8 : decode cX12_leastOf 8 = .ok (.imul, 1) := by decide +kernel
theorem dX12_leastOf_9 : decode cX12_leastOf 9 = .ok (.imul, 1) := by decide +kernel
theorem dX12_leastOf_10 : decode cX12_leastOf 10 = .ok (.iconst 2, 1) := by decide +kernel
theorem dX12_leastOf_11 : decode cX12_leastOf 11 = .ok (.iload_n 1, 1) := by decide +kernel
theorem dX12_leastOf_12 : decode cX12_leastOf 12 = .ok (.imul, 1) := by decide +kernel
theorem dX12_leastOf_13 : decode cX12_leastOf 13 = .ok (.iadd, 1) := by decide +kernel
theorem dX12_leastOf_14 : decode cX12_leastOf 14 = .ok (.iconst 1, 1) := by decide +kernel
theorem dX12_leastOf_15 : decode cX12_leastOf 15 = .ok (.iadd, 1) := by decide +kernel
theorem dX12_leastOf_16 : decode cX12_leastOf 16 = .ok (.laload, 1) := by decide +kernel
theorem dX12_leastOf_17 : decode cX12_leastOf 17 = .ok (.lneg, 1) := by decide +kernel
theorem dX12_leastOf_18 : decode cX12_leastOf 18 = .ok (.l2i, 1) := by decide +kernel
theorem dX12_leastOf_19 : decode cX12_leastOf 19 = .ok (.ireturn, 1) := by decide +kernel
theorem dX12_greatestOf_0 : decode cX12_greatestOf 0 = .ok (.aload_n 0, 1) := by decide +kernel
theorem dX12_greatestOf_1 : decode cX12_greatestOf 1 = .ok (.getfield 192, 3) := by decide +kernel
theorem dX12_greatestOf_4 : decode cX12_greatestOf 4 = .ok (.bipush 24, 2) := by decide +kernel
theorem dX12_greatestOf_6 : decode cX12_greatestOf 6 = .ok (.iconst 2, 1) := by decide +kernel
theorem dX12_greatestOf_7 : decode cX12_greatestOf 7 = .ok (.iload_n 1, 1) := by decide +kernel
theorem dX12_greatestOf_8 : decode cX12_greatestOf 8 = .ok (.imul, 1) := by decide +kernel
theorem dX12_greatestOf_9 : decode cX12_greatestOf 9 = .ok (.iconst 1, 1) := by decide +kernel
theorem dX12_greatestOf_10 : decode cX12_greatestOf 10 = .ok (.iadd, 1) := by decide +kernel
theorem dX12_greatestOf_11 : decode cX12_greatestOf 11 = .ok (.imul, 1) := by decide +kernel
theorem dX12_greatestOf_12 : decode cX12_greatestOf 12 = .ok (.iconst 2, 1) := by decide +kernel
theorem dX12_greatestOf_13 : decode cX12_greatestOf 13 = .ok (.iload_n 1, 1) := by decide +kernel
theorem dX12_greatestOf_14 : decode cX12_greatestOf 14 = .ok (.imul, 1) := by decide +kernel
theorem dX12_greatestOf_15 : decode cX12_greatestOf 15 = .ok (.iadd, 1) := by decide +kernel
theorem dX12_greatestOf_16 : decode cX12_greatestOf 16 = .ok (.laload, 1) := by decide +kernel
theorem dX12_greatestOf_17 : decode cX12_greatestOf 17 = .ok (.l2i, 1) := by decide +kernel
theorem dX12_greatestOf_18 : decode cX12_greatestOf 18 = .ok (.ireturn, 1) := by decide +kernel
set_option maxRecDepth 20000 in
theorem ggX12_end__X12_isWho : GoodIn wsX12_end_ wsX12_isWho := goodIn_r _ [5, 6, 7, 8, 9, 4, 10, 134, 135, 136, 137, 138, 139, 140, 141, 142, 143, 144, 145, 146, 147, 148, 149, 150, 151, 152, 153, 154, 155, 156, 157, 158, 159, 160, 161, 162, 163, 164, 165, 166, 167, 168, 169, 170, 171, 172, 173, 174, 175, 176, 177, 178, 179, 180, 181, 182, 183, 184, 185, 186, 187, 188, 189, 190, 191, 192, 193, 194, 195, 196, 197, 198, 199, 200, 201, 202, 203, 204, 205, 206, 207, 208] rfl (by decide +kernel)
set_option maxRecDepth 20000 in
theorem gX12_end__X12_isWho : GoodIn wsX12_end_ (wsV RX12 381 RX12 yX12_isWho wsX12_isWho) := goodIn_app (goodIn_of _ (by decide +kernel)) ggX12_end__X12_isWho
set_option maxRecDepth 20000 in
theorem ggX12_end__X12_lays : GoodIn wsX12_end_ wsX12_lays := goodIn_r _ [14, 15, 16, 7, 17, 18, 19, 20, 21, 22, 4, 23, 24, 25, 26, 27, 28, 29, 30, 31, 32, 33, 34, 35, 36, 37, 38, 39, 40, 41, 42, 43, 44, 45, 46, 47, 48, 49, 50, 51, 52, 53, 54, 55, 56, 57, 58, 59, 60, 61, 62, 63, 64, 65, 66, 67, 68, 69, 70, 71, 72, 73, 74, 75, 76, 77, 78, 79, 80, 134, 135, 136, 137, 138, 139, 140, 141, 142, 143, 144, 145, 146, 147, 148, 149, 150, 151, 152, 153, 154, 155, 156, 157, 158, 159, 160, 161, 162, 163, 164, 165, 166, 167, 168, 169, 170, 171, 172, 173, 174, 175, 176, 177, 178, 179, 180, 181, 182, 183, 184, 185, 186, 187, 188, 189, 190, 191, 192, 193, 194, 195, 196, 197, 198, 199, 200, 201, 202, 203, 204, 205, 206, 207, 208] rfl (by decide +kernel)
set_option maxRecDepth 20000 in
theorem gX12_end__X12_lays : GoodIn wsX12_end_ (wsV RX12 434 RX12 yX12_lays wsX12_lays) := goodIn_app (goodIn_of _ (by decide +kernel)) ggX12_end__X12_lays
set_option maxRecDepth 20000 in
theorem ggX12_end__X12_ends : GoodIn wsX12_end_ wsX12_ends := goodIn_r _ [84, 85, 86, 6, 7, 87, 16, 17, 18, 88, 89, 90, 4, 91, 92, 93, 94, 95, 96, 97, 98, 99, 67, 68, 69, 70, 71, 72, 73, 74, 75, 76, 77, 78, 79, 80, 51, 52, 53, 54, 55, 100, 101, 102, 103, 104, 105, 106, 107, 108, 109, 110, 111, 112, 113, 114, 115, 116, 117, 118, 119, 120, 121, 122, 123, 124, 125, 134, 135, 136, 137, 138, 139, 140, 141, 142, 143, 144, 145, 146, 147, 148, 149, 150, 151, 152, 153, 154, 155, 156, 157, 158, 159, 160, 161, 162, 163, 164, 165, 166, 167, 168, 169, 170, 171, 172, 173, 174, 175, 176, 177, 178, 179, 180, 181, 182, 183, 184, 185, 186, 187, 188, 189, 190, 191, 192, 193, 194, 195, 196, 197, 198, 199, 200, 201, 202, 203, 204, 205, 206, 207, 208] rfl (by decide +kernel)
set_option maxRecDepth 20000 in
theorem gX12_end__X12_ends : GoodIn wsX12_end_ (wsV RX12 473 RX12 yX12_ends wsX12_ends) := goodIn_app (goodIn_of _ (by decide +kernel)) ggX12_end__X12_ends
set_option maxRecDepth 20000 in
theorem ggX12_end__X12_greatestOf : GoodIn wsX12_end_ wsX12_greatestOf := goodIn_r _ [129, 85, 134, 135, 136, 137, 138, 139, 140, 141, 142, 143, 144, 145, 146, 147, 148, 149, 150, 151, 152, 153, 154, 155, 156, 157, 158, 159, 160, 161, 162, 163, 164, 165, 166, 167, 168, 169, 170, 171, 172, 173, 174, 175, 176, 177, 178, 179, 180, 181, 182, 183, 184, 185, 186, 187, 188, 189, 190, 191, 192, 193, 194, 195, 196, 197, 198, 199, 200, 201, 202, 203, 204, 205, 206, 207, 208] rfl (by decide +kernel)
set_option maxRecDepth 20000 in
theorem gX12_end__X12_greatestOf : GoodIn wsX12_end_ (wsV RX12 476 RX12 yX12_greatestOf wsX12_greatestOf) := goodIn_app (goodIn_of _ (by decide +kernel)) ggX12_end__X12_greatestOf
set_option maxRecDepth 20000 in
theorem ggX12_end__X12_leastOf : GoodIn wsX12_end_ wsX12_leastOf := goodIn_r _ [133, 85, 134, 135, 136, 137, 138, 139, 140, 141, 142, 143, 144, 145, 146, 147, 148, 149, 150, 151, 152, 153, 154, 155, 156, 157, 158, 159, 160, 161, 162, 163, 164, 165, 166, 167, 168, 169, 170, 171, 172, 173, 174, 175, 176, 177, 178, 179, 180, 181, 182, 183, 184, 185, 186, 187, 188, 189, 190, 191, 192, 193, 194, 195, 196, 197, 198, 199, 200, 201, 202, 203, 204, 205, 206, 207, 208] rfl (by decide +kernel)
set_option maxRecDepth 20000 in
theorem gX12_end__X12_leastOf : GoodIn wsX12_end_ (wsV RX12 479 RX12 yX12_leastOf wsX12_leastOf) := goodIn_app (goodIn_of _ (by decide +kernel)) ggX12_end__X12_leastOf
theorem dX12_end__0 : decode cX12_end_ 0 = .ok (.aload_n 0, 1) := by decide +kernel
theorem dX12_end__1 : decode cX12_end_ 1 = .ok (.iload_n 1, 1) := by decide +kernel
theorem dX12_end__2 : decode cX12_end_ 2 = .ok (.invokevirtual 381, 3) := by decide +kernel
theorem dX12_end__5 : decode cX12_end_ 5 = .ok (.ifCond .ne 5, 3) := by decide +kernel
theorem dX12_end__8 : decode cX12_end_ 8 = .ok (.iconst (-1), 1) := by decide +kernel
theorem dX12_end__9 : decode cX12_end_ 9 = .ok (.ireturn, 1) := by decide +kernel
theorem dX12_end__10 : decode cX12_end_ 10 = .ok (.aload_n 0, 1) := by decide +kernel
theorem dX12_end__11 : decode cX12_end_ 11 = .ok (.iconst (-1), 1) := by decide +kernel
theorem dX12_end__12 : decode cX12_end_ 12 = .ok (.iconst 0, 1) := by decide +kernel
theorem dX12_end__13 : decode cX12_end_ 13 = .ok (.invokevirtual 434, 3) := by decide +kernel
theorem dX12_end__16 : decode cX12_end_ 16 = .ok (.aload_n 0, 1) := by decide +kernel
theorem dX12_end__17 : decode cX12_end_ 17 = .ok (.invokevirtual 473, 3) := by decide +kernel
theorem dX12_end__20 : decode cX12_end_ 20 = .ok (.ifCond .ne 5, 3) := by decide +kernel
theorem dX12_end__23 : decode cX12_end_ 23 = .ok (.iconst (-1), 1) := by decide +kernel
theorem dX12_end__24 : decode cX12_end_ 24 = .ok (.ireturn, 1) := by decide +kernel
theorem dX12_end__25 : decode cX12_end_ 25 = .ok (.iload_n 2, 1) := by decide +kernel
theorem dX12_end__26 : decode cX12_end_ 26 = .ok (.ifCond .eq 11, 3) := by decide +kernel
theorem dX12_end__29 : decode cX12_end_ 29 = .ok (.aload_n 0, 1) := by decide +kernel
theorem dX12_end__30 : decode cX12_end_ 30 = .ok (.iload_n 1, 1) := by decide +kernel
theorem dX12_end__31 : decode cX12_end_ 31 = .ok (.invokevirtual 476, 3) := by decide +kernel
theorem dX12_end__34 : decode cX12_end_ 34 = .ok (.goto 8, 3) := by decide +kernel
theorem dX12_end__37 : decode cX12_end_ 37 = .ok (.aload_n 0, 1) := by decide +kernel
theorem dX12_end__38 : decode cX12_end_ 38 = .ok (.iload_n 1, 1) := by decide +kernel
theorem dX12_end__39 : decode cX12_end_ 39 = .ok (.invokevirtual 479, 3) := by decide +kernel
theorem dX12_end__42 : decode cX12_end_ 42 = .ok (.ireturn, 1) := by decide +kernel
set_option maxRecDepth 20000 in
theorem ggX12_changes_X12_lays : GoodIn wsX12_changes wsX12_lays := goodIn_r _ [9, 10, 11, 2, 12, 13, 14, 15, 16, 17, 8, 18, 19, 20, 21, 22, 23, 24, 25, 26, 27, 28, 29, 30, 31, 32, 33, 34, 35, 36, 37, 38, 39, 40, 41, 42, 43, 44, 45, 46, 47, 48, 49, 50, 51, 52, 53, 54, 55, 56, 57, 58, 59, 60, 61, 62, 63, 64, 65, 66, 67, 68, 69, 70, 71, 72, 73, 74, 75, 129, 130, 131, 132, 133, 134, 135, 136, 137, 138, 139, 140, 141, 142, 143, 144, 145, 146, 147, 148, 149, 150, 151, 152, 153, 154, 155, 156, 157, 158, 159, 160, 161, 162, 163, 164, 165, 166, 167, 168, 169, 170, 171, 172, 173, 174, 175, 176, 177, 178, 179, 180, 181, 182, 183, 184, 185, 186, 187, 188, 189, 190, 191, 192, 193, 194, 195, 196, 197, 198, 199, 200, 201, 202, 203] rfl (by decide +kernel)
set_option maxRecDepth 20000 in
theorem gX12_changes_X12_lays : GoodIn wsX12_changes (wsV RX12 434 RX12 yX12_lays wsX12_lays) := goodIn_app (goodIn_of _ (by decide +kernel)) ggX12_changes_X12_lays
set_option maxRecDepth 20000 in
theorem ggX12_changes_X12_ends : GoodIn wsX12_changes wsX12_ends := goodIn_r _ [79, 80, 81, 1, 2, 82, 11, 12, 13, 83, 84, 85, 8, 86, 87, 88, 89, 90, 91, 92, 93, 94, 62, 63, 64, 65, 66, 67, 68, 69, 70, 71, 72, 73, 74, 75, 46, 47, 48, 49, 50, 95, 96, 97, 98, 99, 100, 101, 102, 103, 104, 105, 106, 107, 108, 109, 110, 111, 112, 113, 114, 115, 116, 117, 118, 119, 120, 129, 130, 131, 132, 133, 134, 135, 136, 137, 138, 139, 140, 141, 142, 143, 144, 145, 146, 147, 148, 149, 150, 151, 152, 153, 154, 155, 156, 157, 158, 159, 160, 161, 162, 163, 164, 165, 166, 167, 168, 169, 170, 171, 172, 173, 174, 175, 176, 177, 178, 179, 180, 181, 182, 183, 184, 185, 186, 187, 188, 189, 190, 191, 192, 193, 194, 195, 196, 197, 198, 199, 200, 201, 202, 203] rfl (by decide +kernel)
set_option maxRecDepth 20000 in
theorem gX12_changes_X12_ends : GoodIn wsX12_changes (wsV RX12 473 RX12 yX12_ends wsX12_ends) := goodIn_app (goodIn_of _ (by decide +kernel)) ggX12_changes_X12_ends
set_option maxRecDepth 20000 in
theorem ggX12_changes_X12_leastOf : GoodIn wsX12_changes wsX12_leastOf := goodIn_r _ [124, 80, 129, 130, 131, 132, 133, 134, 135, 136, 137, 138, 139, 140, 141, 142, 143, 144, 145, 146, 147, 148, 149, 150, 151, 152, 153, 154, 155, 156, 157, 158, 159, 160, 161, 162, 163, 164, 165, 166, 167, 168, 169, 170, 171, 172, 173, 174, 175, 176, 177, 178, 179, 180, 181, 182, 183, 184, 185, 186, 187, 188, 189, 190, 191, 192, 193, 194, 195, 196, 197, 198, 199, 200, 201, 202, 203] rfl (by decide +kernel)
set_option maxRecDepth 20000 in
theorem gX12_changes_X12_leastOf : GoodIn wsX12_changes (wsV RX12 479 RX12 yX12_leastOf wsX12_leastOf) := goodIn_app (goodIn_of _ (by decide +kernel)) ggX12_changes_X12_leastOf
set_option maxRecDepth 20000 in
theorem ggX12_changes_X12_greatestOf : GoodIn wsX12_changes wsX12_greatestOf := goodIn_r _ [128, 80, 129, 130, 131, 132, 133, 134, 135, 136, 137, 138, 139, 140, 141, 142, 143, 144, 145, 146, 147, 148, 149, 150, 151, 152, 153, 154, 155, 156, 157, 158, 159, 160, 161, 162, 163, 164, 165, 166, 167, 168, 169, 170, 171, 172, 173, 174, 175, 176, 177, 178, 179, 180, 181, 182, 183, 184, 185, 186, 187, 188, 189, 190, 191, 192, 193, 194, 195, 196, 197, 198, 199, 200, 201, 202, 203] rfl (by decide +kernel)
set_option maxRecDepth 20000 in
theorem gX12_changes_X12_greatestOf : GoodIn wsX12_changes (wsV RX12 476 RX12 yX12_greatestOf wsX12_greatestOf) := goodIn_app (goodIn_of _ (by decide +kernel)) ggX12_changes_X12_greatestOf
set_option maxRecDepth 20000 in
theorem ggX12_changes_X12_all : GoodIn wsX12_changes wsX12_all := goodIn_r _ [98, 1, 2, 129, 130, 131, 132, 133, 134, 135, 136, 137, 138, 139, 140, 141, 142, 143, 144, 145, 146, 147, 148, 149, 150, 151, 152, 153, 154, 155, 156, 157, 158, 159, 160, 161, 162, 163, 164, 165, 166, 167, 168, 169, 170, 171, 172, 173, 174, 175, 176, 177, 178, 179, 180, 181, 182, 183, 184, 185, 186, 187, 188, 189, 190, 191, 192, 193, 194, 195, 196, 197, 198, 199, 200, 201, 202, 203] rfl (by decide +kernel)
set_option maxRecDepth 20000 in
theorem gX12_changes_X12_all : GoodIn wsX12_changes (wsV RX12 437 RX12 yX12_all wsX12_all) := goodIn_app (goodIn_of _ (by decide +kernel)) ggX12_changes_X12_all
theorem dX12_changes_0 : decode cX12_changes 0 = .ok (.aload_n 0, 1) := by decide +kernel
theorem dX12_changes_1 : decode cX12_changes 1 = .ok (.iconst (-1), 1) := by decide +kernel
theorem dX12_changes_2 : decode cX12_changes 2 = .ok (.iconst 0, 1) := by decide +kernel
theorem dX12_changes_3 : decode cX12_changes 3 = .ok (.invokevirtual 434, 3) := by decide +kernel
theorem dX12_changes_6 : decode cX12_changes 6 = .ok (.aload_n 0, 1) := by decide +kernel
theorem dX12_changes_7 : decode cX12_changes 7 = .ok (.invokevirtual 473, 3) := by decide +kernel
theorem dX12_changes_10 : decode cX12_changes 10 = .ok (.istore 4, 2) := by decide +kernel
theorem dX12_changes_12 : decode cX12_changes 12 = .ok (.iconst 0, 1) := by decide +kernel
theorem dX12_changes_13 : decode cX12_changes 13 = .ok (.istore 5, 2) := by decide +kernel
theorem dX12_changes_15 : decode cX12_changes 15 = .ok (.iload 5, 2) := by decide +kernel
theorem dX12_changes_17 : decode cX12_changes 17 = .ok (.aload_n 0, 1) := by decide +kernel
theorem dX12_changes_18 : decode cX12_changes 18 = .ok (.getfield 51, 3) := by decide +kernel
theorem dX12_changes_21 : decode cX12_changes 21 = .ok (.aload_n 0, 1) := by decide +kernel
theorem dX12_changes_22 : decode cX12_changes 22 = .ok (.getfield 48, 3) := by decide +kernel
theorem dX12_changes_25 : decode cX12_changes 25 = .ok (.iaload, 1) := by decide +kernel
theorem dX12_changes_26 : decode cX12_changes 26 = .ok (.if_icmp .ge 35, 3) := by decide +kernel
theorem dX12_changes_29 : decode cX12_changes 29 = .ok (.aload_n 0, 1) := by decide +kernel
theorem dX12_changes_30 : decode cX12_changes 30 = .ok (.getfield 195, 3) := by decide +kernel
theorem dX12_changes_33 : decode cX12_changes 33 = .ok (.iload 5, 2) := by decide +kernel
theorem dX12_changes_35 : decode cX12_changes 35 = .ok (.aload_n 0, 1) := by decide +kernel
theorem dX12_changes_36 : decode cX12_changes 36 = .ok (.iload 5, 2) := by decide +kernel
theorem dX12_changes_38 : decode cX12_changes 38 = .ok (.invokevirtual 479, 3) := by decide +kernel
theorem dX12_changes_41 : decode cX12_changes 41 = .ok (.iastore, 1) := by decide +kernel
theorem dX12_changes_42 : decode cX12_changes 42 = .ok (.aload_n 0, 1) := by decide +kernel
theorem dX12_changes_43 : decode cX12_changes 43 = .ok (.getfield 198, 3) := by decide +kernel
theorem dX12_changes_46 : decode cX12_changes 46 = .ok (.iload 5, 2) := by decide +kernel
theorem dX12_changes_48 : decode cX12_changes 48 = .ok (.aload_n 0, 1) := by decide +kernel
theorem dX12_changes_49 : decode cX12_changes 49 = .ok (.iload 5, 2) := by decide +kernel
theorem dX12_changes_51 : decode cX12_changes 51 = .ok (.invokevirtual 476, 3) := by decide +kernel
theorem dX12_changes_54 : decode cX12_changes 54 = .ok (.iastore, 1) := by decide +kernel
theorem dX12_changes_55 : decode cX12_changes 55 = .ok (.iinc 5 1, 3) := by decide +kernel
theorem dX12_changes_58 : decode cX12_changes 58 = .ok (.goto (-43), 3) := by decide +kernel
theorem dX12_changes_61 : decode cX12_changes 61 = .ok (.aload_n 0, 1) := by decide +kernel
theorem dX12_changes_62 : decode cX12_changes 62 = .ok (.iload_n 1, 1) := by decide +kernel
theorem dX12_changes_63 : decode cX12_changes 63 = .ok (.iload_n 2, 1) := by decide +kernel
theorem dX12_changes_64 : decode cX12_changes 64 = .ok (.invokevirtual 434, 3) := by decide +kernel
theorem dX12_changes_67 : decode cX12_changes 67 = .ok (.aload_n 0, 1) := by decide +kernel
theorem dX12_changes_68 : decode cX12_changes 68 = .ok (.invokevirtual 473, 3) := by decide +kernel
theorem dX12_changes_71 : decode cX12_changes 71 = .ok (.istore 5, 2) := by decide +kernel
theorem dX12_changes_73 : decode cX12_changes 73 = .ok (.iload 4, 2) := by decide +kernel
theorem dX12_changes_75 : decode cX12_changes 75 = .ok (.ifCond .eq 8, 3) := by decide +kernel
theorem dX12_changes_78 : decode cX12_changes 78 = .ok (.iload 5, 2) := by decide +kernel
theorem dX12_changes_80 : decode cX12_changes 80 = .ok (.ifCond .ne 23, 3) := by decide +kernel
theorem dX12_changes_83 : decode cX12_changes 83 = .ok (.iload_n 3, 1) := by decide +kernel
theorem dX12_changes_84 : decode cX12_changes 84 = .ok (.ifCond .ne 10, 3) := by decide +kernel
theorem dX12_changes_87 : decode cX12_changes 87 = .ok (.iload 4, 2) := by decide +kernel
theorem dX12_changes_89 : decode cX12_changes 89 = .ok (.iload 5, 2) := by decide +kernel
theorem dX12_changes_91 : decode cX12_changes 91 = .ok (.if_icmp .ne 7, 3) := by decide +kernel
theorem dX12_changes_94 : decode cX12_changes 94 = .ok (.iconst 0, 1) := by decide +kernel
theorem dX12_changes_95 : decode cX12_changes 95 = .ok (.goto 7, 3) := by decide +kernel
theorem dX12_changes_98 : decode cX12_changes 98 = .ok (.aload_n 0, 1) := by decide +kernel
theorem dX12_changes_99 : decode cX12_changes 99 = .ok (.invokevirtual 437, 3) := by decide +kernel
theorem dX12_changes_102 : decode cX12_changes 102 = .ok (.ireturn, 1) := by decide +kernel
theorem dX12_changes_103 : decode cX12_changes 103 = .ok (.iconst 0, 1) := by decide +kernel
theorem dX12_changes_104 : decode cX12_changes 104 = .ok (.istore 6, 2) := by decide +kernel
theorem dX12_changes_106 : decode cX12_changes 106 = .ok (.iconst 0, 1) := by decide +kernel
theorem dX12_changes_107 : decode cX12_changes 107 = .ok (.istore 7, 2) := by decide +kernel
theorem dX12_changes_109 : decode cX12_changes 109 = .ok (.iload 7, 2) := by decide +kernel
theorem dX12_changes_111 : decode cX12_changes 111 = .ok (.aload_n 0, 1) := by decide +kernel
theorem dX12_changes_112 : decode cX12_changes 112 = .ok (.getfield 51, 3) := by decide +kernel
theorem dX12_changes_115 : decode cX12_changes 115 = .ok (.aload_n 0, 1) := by decide +kernel
theorem dX12_changes_116 : decode cX12_changes 116 = .ok (.getfield 48, 3) := by decide +kernel
theorem dX12_changes_119 : decode cX12_changes 119 = .ok (.iaload, 1) := by decide +kernel
theorem dX12_changes_120 : decode cX12_changes 120 = .ok (.if_icmp .ge 94, 3) := by decide +kernel
theorem dX12_changes_123 : decode cX12_changes 123 = .ok (.iload_n 3, 1) := by decide +kernel
theorem dX12_changes_124 : decode cX12_changes 124 = .ok (.ifCond .eq 27, 3) := by decide +kernel
theorem dX12_changes_127 : decode cX12_changes 127 = .ok (.aload_n 0, 1) := by decide +kernel
theorem dX12_changes_128 : decode cX12_changes 128 = .ok (.iload 7, 2) := by decide +kernel
theorem dX12_changes_130 : decode cX12_changes 130 = .ok (.invokevirtual 479, 3) := by decide +kernel
theorem dX12_changes_133 : decode cX12_changes 133 = .ok (.aload_n 0, 1) := by decide +kernel
theorem dX12_changes_134 : decode cX12_changes 134 = .ok (.getfield 195, 3) := by decide +kernel
theorem dX12_changes_137 : decode cX12_changes 137 = .ok (.iload 7, 2) := by decide +kernel
theorem dX12_changes_139 : decode cX12_changes 139 = .ok (.iaload, 1) := by decide +kernel
theorem dX12_changes_140 : decode cX12_changes 140 = .ok (.if_icmp .le 7, 3) := by decide +kernel
theorem dX12_changes_143 : decode cX12_changes 143 = .ok (.iconst 1, 1) := by decide +kernel
theorem dX12_changes_144 : decode cX12_changes 144 = .ok (.goto 44, 3) := by decide +kernel
theorem dX12_changes_147 : decode cX12_changes 147 = .ok (.iconst 0, 1) := by decide +kernel
theorem dX12_changes_148 : decode cX12_changes 148 = .ok (.goto 40, 3) := by decide +kernel
theorem dX12_changes_151 : decode cX12_changes 151 = .ok (.aload_n 0, 1) := by decide +kernel
theorem dX12_changes_152 : decode cX12_changes 152 = .ok (.iload 7, 2) := by decide +kernel
theorem dX12_changes_154 : decode cX12_changes 154 = .ok (.invokevirtual 479, 3) := by decide +kernel
theorem dX12_changes_157 : decode cX12_changes 157 = .ok (.aload_n 0, 1) := by decide +kernel
theorem dX12_changes_158 : decode cX12_changes 158 = .ok (.getfield 195, 3) := by decide +kernel
theorem dX12_changes_161 : decode cX12_changes 161 = .ok (.iload 7, 2) := by decide +kernel
theorem dX12_changes_163 : decode cX12_changes 163 = .ok (.iaload, 1) := by decide +kernel
theorem dX12_changes_164 : decode cX12_changes 164 = .ok (.if_icmp .ne 19, 3) := by decide +kernel
theorem dX12_changes_167 : decode cX12_changes 167 = .ok (.aload_n 0, 1) := by decide +kernel
theorem dX12_changes_168 : decode cX12_changes 168 = .ok (.iload 7, 2) := by decide +kernel
theorem dX12_changes_170 : decode cX12_changes 170 = .ok (.invokevirtual 476, 3) := by decide +kernel
theorem dX12_changes_173 : decode cX12_changes 173 = .ok (.aload_n 0, 1) := by decide +kernel
theorem dX12_changes_174 : decode cX12_changes 174 = .ok (.getfield 198, 3) := by decide +kernel
theorem dX12_changes_177 : decode cX12_changes 177 = .ok (.iload 7, 2) := by decide +kernel
theorem dX12_changes_179 : decode cX12_changes 179 = .ok (.iaload, 1) := by decide +kernel
theorem dX12_changes_180 : decode cX12_changes 180 = .ok (.if_icmp .eq 7, 3) := by decide +kernel
theorem dX12_changes_183 : decode cX12_changes 183 = .ok (.iconst 1, 1) := by decide +kernel
theorem dX12_changes_184 : decode cX12_changes 184 = .ok (.goto 4, 3) := by decide +kernel
theorem dX12_changes_187 : decode cX12_changes 187 = .ok (.iconst 0, 1) := by decide +kernel
theorem dX12_changes_188 : decode cX12_changes 188 = .ok (.istore 8, 2) := by decide +kernel
theorem dX12_changes_190 : decode cX12_changes 190 = .ok (.iload 6, 2) := by decide +kernel
theorem dX12_changes_192 : decode cX12_changes 192 = .ok (.iload 8, 2) := by decide +kernel
theorem dX12_changes_194 : decode cX12_changes 194 = .ok (.ifCond .eq 10, 3) := by decide +kernel
theorem dX12_changes_197 : decode cX12_changes 197 = .ok (.iconst 1, 1) := by decide +kernel
theorem dX12_changes_198 : decode cX12_changes 198 = .ok (.iload 7, 2) := by decide +kernel
theorem dX12_changes_200 : decode cX12_changes 200 = .ok (.ishl, 1) := by decide +kernel
theorem dX12_changes_201 : decode cX12_changes 201 = .ok (.goto 4, 3) := by decide +kernel
theorem dX12_changes_204 : decode cX12_changes 204 = .ok (.iconst 0, 1) := by decide +kernel
theorem dX12_changes_205 : decode cX12_changes 205 = .ok (.ior, 1) := by decide +kernel
theorem dX12_changes_206 : decode cX12_changes 206 = .ok (.istore 6, 2) := by decide +kernel
theorem dX12_changes_208 : decode cX12_changes 208 = .ok (.iinc 7 1, 3) := by decide +kernel
theorem dX12_changes_211 : decode cX12_changes 211 = .ok (.goto (-102), 3) := by decide +kernel
theorem dX12_changes_214 : decode cX12_changes 214 = .ok (.iload 6, 2) := by decide +kernel
theorem dX12_changes_216 : decode cX12_changes 216 = .ok (.ireturn, 1) := by decide +kernel
set_option maxRecDepth 20000 in
theorem ggX12_moves_X12_isRoad : GoodIn wsX12_moves wsX12_isRoad := goodIn_r _ [6, 7, 8, 9, 10, 5, 11, 140, 141, 142, 143, 144, 145, 146, 147, 148, 149, 150, 151, 152, 153, 154, 155, 156, 157, 158, 159, 160, 161, 162, 163, 164, 165, 166, 167, 168, 169, 170, 171, 172, 173, 174, 175, 176, 177, 178, 179, 180, 181, 182, 183, 184, 185, 186, 187, 188, 189, 190, 191, 192, 193, 194, 195, 196, 197, 198, 199, 200, 201, 202, 203, 204, 205, 206, 207, 208, 209, 210, 211, 212, 213, 214] rfl (by decide +kernel)
set_option maxRecDepth 20000 in
theorem gX12_moves_X12_isRoad : GoodIn wsX12_moves (wsV RX12 386 RX12 yX12_isRoad wsX12_isRoad) := goodIn_app (goodIn_of _ (by decide +kernel)) ggX12_moves_X12_isRoad
set_option maxRecDepth 20000 in
theorem ggX12_moves_X12_is : GoodIn wsX12_moves wsX12_is := goodIn_r _ [11] (by decide +kernel) (by decide +kernel)
set_option maxRecDepth 20000 in
theorem gX12_moves_X12_is : GoodIn wsX12_moves (va_wsS RX12 377 yX12_is wsX12_is) := goodIn_app (goodIn_of _ (by decide +kernel)) ggX12_moves_X12_is
set_option maxRecDepth 20000 in
theorem ggX12_moves_X12_changes : GoodIn wsX12_moves wsX12_changes := goodIn_r _ [15, 16, 8, 17, 18, 19, 20, 21, 5, 22, 23, 7, 24, 25, 26, 27, 28, 29, 30, 31, 32, 33, 34, 35, 36, 37, 38, 1, 39, 40, 41, 42, 43, 44, 45, 46, 47, 48, 49, 50, 51, 52, 53, 54, 55, 56, 57, 58, 59, 60, 61, 62, 63, 64, 65, 66, 67, 68, 69, 70, 71, 72, 73, 74, 75, 76, 77, 78, 79, 80, 81, 82, 83, 84, 85, 86, 87, 88, 89, 90, 91, 92, 93, 94, 95, 96, 97, 98, 99, 100, 101, 102, 103, 104, 105, 106, 107, 108, 109, 110, 111, 112, 113, 114, 115, 116, 117, 118, 119, 120, 121, 122, 123, 124, 125, 126, 127, 128, 129, 130, 131, 132, 133, 134, 135, 136, 137, 138, 139, 140, 141, 142, 143, 144, 145, 146, 147, 148, 149, 150, 151, 152, 153, 154, 155, 156, 157, 158, 159, 160, 161, 162, 163, 164, 165, 166, 167, 168, 169, 170, 171, 172, 173, 174, 175, 176, 177, 178, 179, 180, 181, 182, 183, 184, 185, 186, 187, 188, 189, 190, 191, 192, 193, 194, 195, 196, 197, 198, 199, 200, 201, 202, 203, 204, 205, 206, 207, 208, 209, 210, 211, 212, 213, 214] rfl (by decide +kernel)
set_option maxRecDepth 20000 in
theorem gX12_moves_X12_changes : GoodIn wsX12_moves (wsV RX12 482 RX12 yX12_changes wsX12_changes) := goodIn_app (goodIn_of _ (by decide +kernel)) ggX12_moves_X12_changes
theorem dX12_moves_0 : decode cX12_moves 0 = .ok (.aload_n 0, 1) := by decide +kernel
theorem dX12_moves_1 : decode cX12_moves 1 = .ok (.iload_n 1, 1) := by decide +kernel
theorem dX12_moves_2 : decode cX12_moves 2 = .ok (.invokevirtual 386, 3) := by decide +kernel
theorem dX12_moves_5 : decode cX12_moves 5 = .ok (.ifCond .eq 24, 3) := by decide +kernel
theorem dX12_moves_8 : decode cX12_moves 8 = .ok (.iload_n 2, 1) := by decide +kernel
theorem dX12_moves_9 : decode cX12_moves 9 = .ok (.iconst (-1), 1) := by decide +kernel
theorem dX12_moves_10 : decode cX12_moves 10 = .ok (.ldc_w 395, 3) := by decide +kernel
theorem dX12_moves_13 : decode cX12_moves 13 = .ok (.invokestatic 377, 3) := by decide +kernel
theorem dX12_moves_16 : decode cX12_moves 16 = .ok (.ifCond .eq 13, 3) := by decide +kernel
theorem dX12_moves_19 : decode cX12_moves 19 = .ok (.aload_n 0, 1) := by decide +kernel
theorem dX12_moves_20 : decode cX12_moves 20 = .ok (.iload_n 1, 1) := by decide +kernel
theorem dX12_moves_21 : decode cX12_moves 21 = .ok (.iload_n 2, 1) := by decide +kernel
theorem dX12_moves_22 : decode cX12_moves 22 = .ok (.iconst 0, 1) := by decide +kernel
theorem dX12_moves_23 : decode cX12_moves 23 = .ok (.invokevirtual 482, 3) := by decide +kernel
theorem dX12_moves_26 : decode cX12_moves 26 = .ok (.goto 4, 3) := by decide +kernel
theorem dX12_moves_29 : decode cX12_moves 29 = .ok (.iconst (-1), 1) := by decide +kernel
theorem dX12_moves_30 : decode cX12_moves 30 = .ok (.ireturn, 1) := by decide +kernel
set_option maxRecDepth 20000 in
theorem ggX12_pays_X12_isRoad : GoodIn wsX12_pays wsX12_isRoad := goodIn_r _ [5, 6, 7, 8, 9, 4, 10, 140, 141, 142, 143, 144, 145, 146, 147, 148, 149, 150, 151, 152, 153, 154, 155, 156, 157, 158, 159, 160, 161, 162, 163, 164, 165, 166, 167, 168, 169, 170, 171, 172, 173, 174, 175, 176, 177, 178, 179, 180, 181, 182, 183, 184, 185, 186, 187, 188, 189, 190, 191, 192, 193, 194, 195, 196, 197, 198, 199, 200, 201, 202, 203, 204, 205, 206, 207, 208, 209, 210, 211, 212, 213, 214] rfl (by decide +kernel)
set_option maxRecDepth 20000 in
theorem gX12_pays_X12_isRoad : GoodIn wsX12_pays (wsV RX12 386 RX12 yX12_isRoad wsX12_isRoad) := goodIn_app (goodIn_of _ (by decide +kernel)) ggX12_pays_X12_isRoad
set_option maxRecDepth 20000 in
theorem ggX12_pays_X12_changes : GoodIn wsX12_pays wsX12_changes := goodIn_r _ [14, 15, 7, 16, 17, 18, 19, 20, 4, 21, 22, 6, 23, 24, 25, 26, 27, 28, 29, 30, 31, 32, 33, 34, 35, 36, 37, 38, 39, 40, 41, 42, 43, 44, 45, 46, 47, 48, 49, 50, 51, 52, 53, 54, 55, 56, 57, 58, 59, 60, 61, 62, 63, 64, 65, 66, 67, 68, 69, 70, 71, 72, 73, 74, 75, 76, 77, 78, 79, 80, 81, 82, 83, 84, 85, 86, 87, 88, 89, 90, 91, 92, 93, 94, 95, 96, 97, 98, 99, 100, 101, 102, 103, 104, 105, 106, 107, 108, 109, 110, 111, 112, 113, 114, 115, 116, 117, 118, 119, 120, 121, 122, 123, 124, 125, 126, 127, 128, 129, 130, 131, 132, 133, 134, 135, 136, 137, 138, 139, 140, 141, 142, 143, 144, 145, 146, 147, 148, 149, 150, 151, 152, 153, 154, 155, 156, 157, 158, 159, 160, 161, 162, 163, 164, 165, 166, 167, 168, 169, 170, 171, 172, 173, 174, 175, 176, 177, 178, 179, 180, 181, 182, 183, 184, 185, 186, 187, 188, 189, 190, 191, 192, 193, 194, 195, 196, 197, 198, 199, 200, 201, 202, 203, 204, 205, 206, 207, 208, 209, 210, 211, 212, 213, 214] rfl (by decide +kernel)
set_option maxRecDepth 20000 in
theorem gX12_pays_X12_changes : GoodIn wsX12_pays (wsV RX12 482 RX12 yX12_changes wsX12_changes) := goodIn_app (goodIn_of _ (by decide +kernel)) ggX12_pays_X12_changes
theorem dX12_pays_0 : decode cX12_pays 0 = .ok (.aload_n 0, 1) := by decide +kernel
theorem dX12_pays_1 : decode cX12_pays 1 = .ok (.iload_n 1, 1) := by decide +kernel
theorem dX12_pays_2 : decode cX12_pays 2 = .ok (.invokevirtual 386, 3) := by decide +kernel
theorem dX12_pays_5 : decode cX12_pays 5 = .ok (.ifCond .eq 13, 3) := by decide +kernel
theorem dX12_pays_8 : decode cX12_pays 8 = .ok (.aload_n 0, 1) := by decide +kernel
theorem dX12_pays_9 : decode cX12_pays 9 = .ok (.iload_n 1, 1) := by decide +kernel
theorem dX12_pays_10 : decode cX12_pays 10 = .ok (.iconst (-1), 1) := by decide +kernel
theorem dX12_pays_11 : decode cX12_pays 11 = .ok (.iconst 1, 1) := by decide +kernel
theorem dX12_pays_12 : decode cX12_pays 12 = .ok (.invokevirtual 482, 3) := by decide +kernel
theorem dX12_pays_15 : decode cX12_pays 15 = .ok (.goto 4, 3) := by decide +kernel
theorem dX12_pays_18 : decode cX12_pays 18 = .ok (.iconst (-1), 1) := by decide +kernel
theorem dX12_pays_19 : decode cX12_pays 19 = .ok (.ireturn, 1) := by decide +kernel
theorem dX12_apart_0 : decode cX12_apart 0 = .ok (.aload_n 0, 1) := by decide +kernel
theorem dX12_apart_1 : decode cX12_apart 1 = .ok (.getfield 192, 3) := by decide +kernel
theorem dX12_apart_4 : decode cX12_apart 4 = .ok (.bipush 24, 2) := by decide +kernel
theorem dX12_apart_6 : decode cX12_apart 6 = .ok (.iload_n 1, 1) := by decide +kernel
theorem dX12_apart_7 : decode cX12_apart 7 = .ok (.imul, 1) := by decide +kernel
theorem dX12_apart_8 : decode cX12_apart 8 = .ok (.iload_n 2, 1) := by decide +kernel
theorem dX12_apart_9 : decode cX12_apart 9 = .ok (.iadd, 1) := by decide +kernel
theorem dX12_apart_10 : decode cX12_apart 10 = .ok (.laload, 1) := by decide +kernel
theorem dX12_apart_11 : decode cX12_apart 11 = .ok (.ldc2_w 458, 3) := by decide +kernel
theorem dX12_apart_14 : decode cX12_apart 14 = .ok (.lcmp, 1) := by decide +kernel
theorem dX12_apart_15 : decode cX12_apart 15 = .ok (.ifCond .ge 21, 3) := by decide +kernel
theorem dX12_apart_18 : decode cX12_apart 18 = .ok (.ldc2_w 456, 3) := by decide +kernel
theorem dX12_apart_21 : decode cX12_apart 21 = .ok (.aload_n 0, 1) := by decide +kernel
theorem dX12_apart_22 : decode cX12_apart 22 = .ok (.getfield 192, 3) := by decide +kernel
theorem dX12_apart_25 : decode cX12_apart 25 = .ok (.bipush 24, 2) := by decide +kernel
theorem dX12_apart_27 : decode cX12_apart 27 = .ok (.iload_n 1, 1) := by decide +kernel
theorem dX12_apart_28 : decode cX12_apart 28 = .ok (.imul, 1) := by decide +kernel
theorem dX12_apart_29 : decode cX12_apart 29 = .ok (.iload_n 2, 1) := by decide +kernel
theorem dX12_apart_30 : decode cX12_apart 30 = .ok (.iadd, 1) := by decide +kernel
theorem dX12_apart_31 : decode cX12_apart 31 = .ok (.laload, 1) := by decide +kernel
theorem dX12_apart_32 : decode cX12_apart 32 = .ok (.lmul, 1) := by decide +kernel
theorem dX12_apart_33 : decode cX12_apart 33 = .ok (.goto 6, 3) := by decide +kernel
theorem dX12_apart_36 : decode cX12_apart 36 = .ok (.ldc2_w 458, 3) := by decide +kernel
theorem dX12_apart_39 : decode cX12_apart 39 = .ok (.lstore_n 3, 1) := by decide +kernel
theorem dX12_apart_40 : decode cX12_apart 40 = .ok (.aload_n 0, 1) := by decide +kernel
theorem dX12_apart_41 : decode cX12_apart 41 = .ok (.getfield 192, 3) := by decide +kernel
theorem dX12_apart_44 : decode cX12_apart 44 = .ok (.bipush 24, 2) := by decide +kernel
theorem dX12_apart_46 : decode cX12_apart 46 = .ok (.iload_n 2, 1) := by decide +kernel
theorem dX12_apart_47 : decode cX12_apart 47 = .ok (.iconst 2, 1) := by decide +kernel
theorem dX12_apart_48 : decode cX12_apart 48 = .ok (.idiv, 1) := by decide +kernel
theorem dX12_apart_49 : decode cX12_apart 49 = .ok (.iconst 2, 1) := by decide +kernel
theorem dX12_apart_50 : decode cX12_apart 50 = .ok (.imul, 1) := by decide +kernel
theorem dX12_apart_51 : decode cX12_apart 51 = .ok (.iconst 1, 1) := by decide +kernel
theorem dX12_apart_52 : decode cX12_apart 52 = .ok (.iadd, 1) := by decide +kernel
theorem dX12_apart_53 : decode cX12_apart 53 = .ok (.iload_n 2, 1) := by decide +kernel
theorem dX12_apart_54 : decode cX12_apart 54 = .ok (.iconst 2, 1) := by decide +kernel
theorem dX12_apart_55 : decode cX12_apart 55 = .ok (.irem, 1) := by decide +kernel
theorem dX12_apart_56 : decode cX12_apart 56 = .ok (.isub, 1) := by decide +kernel
theorem dX12_apart_57 : decode cX12_apart 57 = .ok (.imul, 1) := by decide +kernel
theorem dX12_apart_58 : decode cX12_apart 58 = .ok (.iload_n 2, 1) := by decide +kernel
theorem dX12_apart_59 : decode cX12_apart 59 = .ok (.iadd, 1) := by decide +kernel
theorem dX12_apart_60 : decode cX12_apart 60 = .ok (.laload, 1) := by decide +kernel
theorem dX12_apart_61 : decode cX12_apart 61 = .ok (.lstore 5, 2) := by decide +kernel
theorem dX12_apart_63 : decode cX12_apart 63 = .ok (.aload_n 0, 1) := by decide +kernel
theorem dX12_apart_64 : decode cX12_apart 64 = .ok (.getfield 192, 3) := by decide +kernel
theorem dX12_apart_67 : decode cX12_apart 67 = .ok (.bipush 24, 2) := by decide +kernel
theorem dX12_apart_69 : decode cX12_apart 69 = .ok (.iload_n 1, 1) := by decide +kernel
theorem dX12_apart_70 : decode cX12_apart 70 = .ok (.imul, 1) := by decide +kernel
theorem dX12_apart_71 : decode cX12_apart 71 = .ok (.iload_n 1, 1) := by decide +kernel
theorem dX12_apart_72 : decode cX12_apart 72 = .ok (.iconst 2, 1) := by decide +kernel
theorem dX12_apart_73 : decode cX12_apart 73 = .ok (.idiv, 1) := by decide +kernel
theorem dX12_apart_74 : decode cX12_apart 74 = .ok (.iconst 2, 1) := by decide +kernel
theorem dX12_apart_75 : decode cX12_apart 75 = .ok (.imul, 1) := by decide +kernel
theorem dX12_apart_76 : decode cX12_apart 76 = .ok (.iadd, 1) := by decide +kernel
theorem dX12_apart_77 : decode cX12_apart 77 = .ok (.iconst 1, 1) := by decide +kernel
theorem dX12_apart_78 : decode cX12_apart 78 = .ok (.iadd, 1) := by decide +kernel
theorem dX12_apart_79 : decode cX12_apart 79 = .ok (.iload_n 1, 1) := by decide +kernel
theorem dX12_apart_80 : decode cX12_apart 80 = .ok (.iconst 2, 1) := by decide +kernel
theorem dX12_apart_81 : decode cX12_apart 81 = .ok (.irem, 1) := by decide +kernel
theorem dX12_apart_82 : decode cX12_apart 82 = .ok (.isub, 1) := by decide +kernel
theorem dX12_apart_83 : decode cX12_apart 83 = .ok (.laload, 1) := by decide +kernel
theorem dX12_apart_84 : decode cX12_apart 84 = .ok (.lstore 7, 2) := by decide +kernel
theorem dX12_apart_86 : decode cX12_apart 86 = .ok (.lload 5, 2) := by decide +kernel
theorem dX12_apart_88 : decode cX12_apart 88 = .ok (.ldc2_w 458, 3) := by decide +kernel
theorem dX12_apart_91 : decode cX12_apart 91 = .ok (.lcmp, 1) := by decide +kernel
theorem dX12_apart_92 : decode cX12_apart 92 = .ok (.ifCond .ge 20, 3) := by decide +kernel
theorem dX12_apart_95 : decode cX12_apart 95 = .ok (.lload 7, 2) := by decide +kernel
theorem dX12_apart_97 : decode cX12_apart 97 = .ok (.ldc2_w 458, 3) := by decide +kernel
theorem dX12_apart_100 : decode cX12_apart 100 = .ok (.lcmp, 1) := by decide +kernel
theorem dX12_apart_101 : decode cX12_apart 101 = .ok (.ifCond .ge 11, 3) := by decide +kernel
theorem dX12_apart_104 : decode cX12_apart 104 = .ok (.lload 5, 2) := by decide +kernel
theorem dX12_apart_106 : decode cX12_apart 106 = .ok (.lload 7, 2) := by decide +kernel
theorem dX12_apart_108 : decode cX12_apart 108 = .ok (.ladd, 1) := by decide +kernel
theorem dX12_apart_109 : decode cX12_apart 109 = .ok (.goto 6, 3) := by decide +kernel
theorem dX12_apart_112 : decode cX12_apart 112 = .ok (.ldc2_w 458, 3) := by decide +kernel
theorem dX12_apart_115 : decode cX12_apart 115 = .ok (.lstore 9, 2) := by decide +kernel
theorem dX12_apart_117 : decode cX12_apart 117 = .ok (.lload 9, 2) := by decide +kernel
theorem dX12_apart_119 : decode cX12_apart 119 = .ok (.lload_n 3, 1) := by decide +kernel
theorem dX12_apart_120 : decode cX12_apart 120 = .ok (.lcmp, 1) := by decide +kernel
theorem dX12_apart_121 : decode cX12_apart 121 = .ok (.ifCond .ge 8, 3) := by decide +kernel
theorem dX12_apart_124 : decode cX12_apart 124 = .ok (.lload 9, 2) := by decide +kernel
theorem dX12_apart_126 : decode cX12_apart 126 = .ok (.goto 4, 3) := by decide +kernel
theorem dX12_apart_129 : decode cX12_apart 129 = .ok (.lload_n 3, 1) := by decide +kernel
theorem dX12_apart_130 : decode cX12_apart 130 = .ok (.lreturn, 1) := by decide +kernel
set_option maxRecDepth 20000 in
theorem ggX12_two_X12_isWho : GoodIn wsX12_two wsX12_isWho := goodIn_r _ [6, 7, 8, 9, 10, 5, 11, 131, 132, 133, 134, 135, 136, 137, 138, 139, 140, 141, 142, 143, 144, 145, 146, 147, 148, 149, 150, 151, 152, 153, 154, 155, 156, 157, 158, 159, 160, 161, 162, 163, 164, 165, 166, 167, 168, 169, 170, 171, 172, 173, 174, 175, 176, 177, 178, 179, 180, 181, 182, 183, 184, 185, 186, 187, 188, 189, 190, 191, 192, 193, 194, 195, 196, 197, 198, 199, 200, 201, 202, 203, 204, 205] rfl (by decide +kernel)
set_option maxRecDepth 20000 in
theorem gX12_two_X12_isWho : GoodIn wsX12_two (wsV RX12 381 RX12 yX12_isWho wsX12_isWho) := goodIn_app (goodIn_of _ (by decide +kernel)) ggX12_two_X12_isWho
set_option maxRecDepth 20000 in
theorem ggX12_two_X12_lays : GoodIn wsX12_two wsX12_lays := goodIn_r _ [15, 16, 17, 8, 18, 19, 20, 21, 22, 23, 5, 24, 25, 26, 27, 28, 29, 30, 31, 32, 33, 34, 35, 36, 37, 38, 39, 40, 41, 42, 43, 44, 45, 46, 47, 48, 49, 50, 51, 52, 53, 54, 55, 56, 57, 58, 59, 60, 61, 62, 63, 64, 65, 66, 67, 68, 69, 70, 71, 72, 73, 74, 75, 76, 77, 78, 79, 80, 81, 131, 132, 133, 134, 135, 136, 137, 138, 139, 140, 141, 142, 143, 144, 145, 146, 147, 148, 149, 150, 151, 152, 153, 154, 155, 156, 157, 158, 159, 160, 161, 162, 163, 164, 165, 166, 167, 168, 169, 170, 171, 172, 173, 174, 175, 176, 177, 178, 179, 180, 181, 182, 183, 184, 185, 186, 187, 188, 189, 190, 191, 192, 193, 194, 195, 196, 197, 198, 199, 200, 201, 202, 203, 204, 205] rfl (by decide +kernel)
set_option maxRecDepth 20000 in
theorem gX12_two_X12_lays : GoodIn wsX12_two (wsV RX12 434 RX12 yX12_lays wsX12_lays) := goodIn_app (goodIn_of _ (by decide +kernel)) ggX12_two_X12_lays
set_option maxRecDepth 20000 in
theorem ggX12_two_X12_ends : GoodIn wsX12_two wsX12_ends := goodIn_r _ [85, 86, 87, 7, 8, 88, 17, 18, 19, 89, 90, 91, 5, 92, 93, 94, 95, 96, 97, 98, 99, 100, 68, 69, 70, 71, 72, 73, 74, 75, 76, 77, 78, 79, 80, 81, 52, 53, 54, 55, 56, 101, 102, 103, 104, 105, 106, 107, 108, 109, 110, 111, 112, 113, 114, 115, 116, 117, 118, 119, 120, 121, 122, 123, 124, 125, 126, 131, 132, 133, 134, 135, 136, 137, 138, 139, 140, 141, 142, 143, 144, 145, 146, 147, 148, 149, 150, 151, 152, 153, 154, 155, 156, 157, 158, 159, 160, 161, 162, 163, 164, 165, 166, 167, 168, 169, 170, 171, 172, 173, 174, 175, 176, 177, 178, 179, 180, 181, 182, 183, 184, 185, 186, 187, 188, 189, 190, 191, 192, 193, 194, 195, 196, 197, 198, 199, 200, 201, 202, 203, 204, 205] rfl (by decide +kernel)
set_option maxRecDepth 20000 in
theorem gX12_two_X12_ends : GoodIn wsX12_two (wsV RX12 473 RX12 yX12_ends wsX12_ends) := goodIn_app (goodIn_of _ (by decide +kernel)) ggX12_two_X12_ends
set_option maxRecDepth 20000 in
theorem ggX12_two_X12_apart : GoodIn wsX12_two wsX12_apart := goodIn_r _ [130, 86, 87, 118, 131, 132, 133, 134, 135, 136, 137, 138, 139, 140, 141, 142, 143, 144, 145, 146, 147, 148, 149, 150, 151, 152, 153, 154, 155, 156, 157, 158, 159, 160, 161, 162, 163, 164, 165, 166, 167, 168, 169, 170, 171, 172, 173, 174, 175, 176, 177, 178, 179, 180, 181, 182, 183, 184, 185, 186, 187, 188, 189, 190, 191, 192, 193, 194, 195, 196, 197, 198, 199, 200, 201, 202, 203, 204, 205] rfl (by decide +kernel)
set_option maxRecDepth 20000 in
theorem gX12_two_X12_apart : GoodIn wsX12_two (wsV RX12 486 RX12 yX12_apart wsX12_apart) := goodIn_app (goodIn_of _ (by decide +kernel)) ggX12_two_X12_apart
theorem dX12_two_0 : decode cX12_two 0 = .ok (.aload_n 0, 1) := by decide +kernel
theorem dX12_two_1 : decode cX12_two 1 = .ok (.iload_n 1, 1) := by decide +kernel
theorem dX12_two_2 : decode cX12_two 2 = .ok (.invokevirtual 381, 3) := by decide +kernel
theorem dX12_two_5 : decode cX12_two 5 = .ok (.ifCond .eq 16, 3) := by decide +kernel
theorem dX12_two_8 : decode cX12_two 8 = .ok (.aload_n 0, 1) := by decide +kernel
theorem dX12_two_9 : decode cX12_two 9 = .ok (.iload_n 2, 1) := by decide +kernel
theorem dX12_two_10 : decode cX12_two 10 = .ok (.invokevirtual 381, 3) := by decide +kernel
theorem dX12_two_13 : decode cX12_two 13 = .ok (.ifCond .eq 8, 3) := by decide +kernel
theorem dX12_two_16 : decode cX12_two 16 = .ok (.iload_n 1, 1) := by decide +kernel
theorem dX12_two_17 : decode cX12_two 17 = .ok (.iload_n 2, 1) := by decide +kernel
theorem dX12_two_18 : decode cX12_two 18 = .ok (.if_icmp .ne 7, 3) := by decide +kernel
theorem dX12_two_21 : decode cX12_two 21 = .ok (.ldc_w 433, 3) := by decide +kernel
theorem dX12_two_24 : decode cX12_two 24 = .ok (.ireturn, 1) := by decide +kernel
theorem dX12_two_25 : decode cX12_two 25 = .ok (.aload_n 0, 1) := by decide +kernel
theorem dX12_two_26 : decode cX12_two 26 = .ok (.iconst (-1), 1) := by decide +kernel
theorem dX12_two_27 : decode cX12_two 27 = .ok (.iconst 0, 1) := by decide +kernel
theorem dX12_two_28 : decode cX12_two 28 = .ok (.invokevirtual 434, 3) := by decide +kernel
theorem dX12_two_31 : decode cX12_two 31 = .ok (.aload_n 0, 1) := by decide +kernel
theorem dX12_two_32 : decode cX12_two 32 = .ok (.invokevirtual 473, 3) := by decide +kernel
theorem dX12_two_35 : decode cX12_two 35 = .ok (.ifCond .ne 7, 3) := by decide +kernel
theorem dX12_two_38 : decode cX12_two 38 = .ok (.ldc_w 433, 3) := by decide +kernel
theorem dX12_two_41 : decode cX12_two 41 = .ok (.ireturn, 1) := by decide +kernel
theorem dX12_two_42 : decode cX12_two 42 = .ok (.iload_n 3, 1) := by decide +kernel
theorem dX12_two_43 : decode cX12_two 43 = .ok (.ifCond .eq 9, 3) := by decide +kernel
theorem dX12_two_46 : decode cX12_two 46 = .ok (.iconst 2, 1) := by decide +kernel
theorem dX12_two_47 : decode cX12_two 47 = .ok (.iload_n 2, 1) := by decide +kernel
theorem dX12_two_48 : decode cX12_two 48 = .ok (.imul, 1) := by decide +kernel
theorem dX12_two_49 : decode cX12_two 49 = .ok (.goto 8, 3) := by decide +kernel
theorem dX12_two_52 : decode cX12_two 52 = .ok (.iconst 2, 1) := by decide +kernel
theorem dX12_two_53 : decode cX12_two 53 = .ok (.iload_n 2, 1) := by decide +kernel
theorem dX12_two_54 : decode cX12_two 54 = .ok (.imul, 1) := by decide +kernel
theorem dX12_two_55 : decode cX12_two 55 = .ok (.iconst 1, 1) := by decide +kernel
theorem dX12_two_56 : decode cX12_two 56 = .ok (.iadd, 1) := by decide +kernel
theorem dX12_two_57 : decode cX12_two 57 = .ok (.istore 5, 2) := by decide +kernel
theorem dX12_two_59 : decode cX12_two 59 = .ok (.iload 4, 2) := by decide +kernel
theorem dX12_two_61 : decode cX12_two 61 = .ok (.ifCond .eq 15, 3) := by decide +kernel
theorem dX12_two_64 : decode cX12_two 64 = .ok (.aload_n 0, 1) := by decide +kernel
theorem dX12_two_65 : decode cX12_two 65 = .ok (.iload 5, 2) := by decide +kernel
theorem dX12_two_67 : decode cX12_two 67 = .ok (.iconst 2, 1) := by decide +kernel
theorem dX12_two_68 : decode cX12_two 68 = .ok (.iload_n 1, 1) := by decide +kernel
theorem dX12_two_69 : decode cX12_two 69 = .ok (.imul, 1) := by decide +kernel
theorem dX12_two_70 : decode cX12_two 70 = .ok (.invokevirtual 486, 3) := by decide +kernel
theorem dX12_two_73 : decode cX12_two 73 = .ok (.goto 13, 3) := by decide +kernel
theorem dX12_two_76 : decode cX12_two 76 = .ok (.aload_n 0, 1) := by decide +kernel
theorem dX12_two_77 : decode cX12_two 77 = .ok (.iconst 2, 1) := by decide +kernel
theorem dX12_two_78 : decode cX12_two 78 = .ok (.iload_n 1, 1) := by decide +kernel
theorem dX12_two_79 : decode cX12_two 79 = .ok (.imul, 1) := by decide +kernel
theorem dX12_two_80 : decode cX12_two 80 = .ok (.iload 5, 2) := by decide +kernel
theorem dX12_two_82 : decode cX12_two 82 = .ok (.invokevirtual 486, 3) := by decide +kernel
theorem dX12_two_85 : decode cX12_two 85 = .ok (.lneg, 1) := by decide +kernel
theorem dX12_two_86 : decode cX12_two 86 = .ok (.l2i, 1) := by decide +kernel
theorem dX12_two_87 : decode cX12_two 87 = .ok (.ireturn, 1) := by decide +kernel
set_option maxRecDepth 20000 in
theorem ggX12_price_X12_isRoad : GoodIn wsX12_price wsX12_isRoad := goodIn_r _ [8, 9, 3, 10, 11, 7, 12, 91, 92, 93, 94, 95, 96, 97, 98, 99, 100, 101, 102, 103, 104, 105, 106, 107, 108, 109, 110, 111, 112, 113, 114, 115, 116, 117, 118, 119, 120, 121, 122, 123, 124, 125, 126, 127, 128, 129, 130, 131, 132, 133, 134, 135, 136, 137, 138, 139, 140, 141, 142, 143, 144, 145, 146, 147, 148, 149, 150, 151, 152, 153, 154, 155, 156, 157, 158, 159, 160, 161, 162, 163, 164, 165] rfl (by decide +kernel)
set_option maxRecDepth 20000 in
theorem gX12_price_X12_isRoad : GoodIn wsX12_price (wsV RX12 386 RX12 yX12_isRoad wsX12_isRoad) := goodIn_app (goodIn_of _ (by decide +kernel)) ggX12_price_X12_isRoad
set_option maxRecDepth 20000 in
theorem ggX12_price_X12_lays : GoodIn wsX12_price wsX12_lays := goodIn_r _ [16, 17, 9, 3, 18, 19, 2, 20, 21, 22, 7, 23, 24, 25, 26, 27, 28, 29, 30, 31, 32, 33, 34, 35, 36, 37, 38, 39, 40, 41, 42, 43, 44, 45, 46, 47, 48, 49, 50, 51, 52, 53, 54, 55, 56, 57, 58, 59, 60, 61, 62, 63, 64, 65, 66, 67, 68, 69, 70, 71, 72, 73, 74, 75, 76, 77, 78, 79, 80, 91, 92, 93, 94, 95, 96, 97, 98, 99, 100, 101, 102, 103, 104, 105, 106, 107, 108, 109, 110, 111, 112, 113, 114, 115, 116, 117, 118, 119, 120, 121, 122, 123, 124, 125, 126, 127, 128, 129, 130, 131, 132, 133, 134, 135, 136, 137, 138, 139, 140, 141, 142, 143, 144, 145, 146, 147, 148, 149, 150, 151, 152, 153, 154, 155, 156, 157, 158, 159, 160, 161, 162, 163, 164, 165] rfl (by decide +kernel)
set_option maxRecDepth 20000 in
theorem gX12_price_X12_lays : GoodIn wsX12_price (wsV RX12 434 RX12 yX12_lays wsX12_lays) := goodIn_app (goodIn_of _ (by decide +kernel)) ggX12_price_X12_lays
set_option maxRecDepth 20000 in
theorem ggX12_price_X12_mosts : GoodIn wsX12_price wsX12_mosts := goodIn_r _ [84, 85, 9, 3, 1, 86, 67, 68, 69, 7, 70, 71, 72, 73, 74, 75, 76, 77, 78, 79, 80, 19, 18, 51, 52, 53, 54, 55, 91, 92, 93, 94, 95, 96, 97, 98, 99, 100, 101, 102, 103, 104, 105, 106, 107, 108, 109, 110, 111, 112, 113, 114, 115, 116, 117, 118, 119, 120, 121, 122, 123, 124, 125, 126, 127, 128, 129, 130, 131, 132, 133, 134, 135, 136, 137, 138, 139, 140, 141, 142, 143, 144, 145, 146, 147, 148, 149, 150, 151, 152, 153, 154, 155, 156, 157, 158, 159, 160, 161, 162, 163, 164, 165] rfl (by decide +kernel)
set_option maxRecDepth 20000 in
theorem gX12_price_X12_mosts : GoodIn wsX12_price (wsV RX12 444 RX12 yX12_mosts wsX12_mosts) := goodIn_app (goodIn_of _ (by decide +kernel)) ggX12_price_X12_mosts
set_option maxRecDepth 20000 in
theorem ggX12_price_X12_first : GoodIn wsX12_price wsX12_first := goodIn_r _ [70, 71, 3, 91, 92, 93, 94, 95, 96, 97, 98, 99, 100, 101, 102, 103, 104, 105, 106, 107, 108, 109, 110, 111, 112, 113, 114, 115, 116, 117, 118, 119, 120, 121, 122, 123, 124, 125, 126, 127, 128, 129, 130, 131, 132, 133, 134, 135, 136, 137, 138, 139, 140, 141, 142, 143, 144, 145, 146, 147, 148, 149, 150, 151, 152, 153, 154, 155, 156, 157, 158, 159, 160, 161, 162, 163, 164, 165] rfl (by decide +kernel)
set_option maxRecDepth 20000 in
theorem gX12_price_X12_first : GoodIn wsX12_price (wsV RX12 389 RX12 yX12_first wsX12_first) := goodIn_app (goodIn_of _ (by decide +kernel)) ggX12_price_X12_first
set_option maxRecDepth 20000 in
theorem ggX12_price_X12_second : GoodIn wsX12_price wsX12_second := goodIn_r _ [75, 76, 3, 91, 92, 93, 94, 95, 96, 97, 98, 99, 100, 101, 102, 103, 104, 105, 106, 107, 108, 109, 110, 111, 112, 113, 114, 115, 116, 117, 118, 119, 120, 121, 122, 123, 124, 125, 126, 127, 128, 129, 130, 131, 132, 133, 134, 135, 136, 137, 138, 139, 140, 141, 142, 143, 144, 145, 146, 147, 148, 149, 150, 151, 152, 153, 154, 155, 156, 157, 158, 159, 160, 161, 162, 163, 164, 165] rfl (by decide +kernel)
set_option maxRecDepth 20000 in
theorem gX12_price_X12_second : GoodIn wsX12_price (wsV RX12 392 RX12 yX12_second wsX12_second) := goodIn_app (goodIn_of _ (by decide +kernel)) ggX12_price_X12_second
set_option maxRecDepth 20000 in
theorem ggX12_price_X12_all : GoodIn wsX12_price wsX12_all := goodIn_r _ [90, 86, 3, 91, 92, 93, 94, 95, 96, 97, 98, 99, 100, 101, 102, 103, 104, 105, 106, 107, 108, 109, 110, 111, 112, 113, 114, 115, 116, 117, 118, 119, 120, 121, 122, 123, 124, 125, 126, 127, 128, 129, 130, 131, 132, 133, 134, 135, 136, 137, 138, 139, 140, 141, 142, 143, 144, 145, 146, 147, 148, 149, 150, 151, 152, 153, 154, 155, 156, 157, 158, 159, 160, 161, 162, 163, 164, 165] rfl (by decide +kernel)
set_option maxRecDepth 20000 in
theorem gX12_price_X12_all : GoodIn wsX12_price (wsV RX12 437 RX12 yX12_all wsX12_all) := goodIn_app (goodIn_of _ (by decide +kernel)) ggX12_price_X12_all
set_option maxRecDepth 20000 in
theorem ggX12_price_X12_aloneOf : GoodIn wsX12_price wsX12_aloneOf := goodIn_r _ [54, 55, 3, 91, 92, 93, 94, 95, 96, 97, 98, 99, 100, 101, 102, 103, 104, 105, 106, 107, 108, 109, 110, 111, 112, 113, 114, 115, 116, 117, 118, 119, 120, 121, 122, 123, 124, 125, 126, 127, 128, 129, 130, 131, 132, 133, 134, 135, 136, 137, 138, 139, 140, 141, 142, 143, 144, 145, 146, 147, 148, 149, 150, 151, 152, 153, 154, 155, 156, 157, 158, 159, 160, 161, 162, 163, 164, 165] rfl (by decide +kernel)
set_option maxRecDepth 20000 in
theorem gX12_price_X12_aloneOf : GoodIn wsX12_price (wsV RX12 411 RX12 yX12_aloneOf wsX12_aloneOf) := goodIn_app (goodIn_of _ (by decide +kernel)) ggX12_price_X12_aloneOf
theorem dX12_price_0 : decode cX12_price 0 = .ok (.aload_n 0, 1) := by decide +kernel
theorem dX12_price_1 : decode cX12_price 1 = .ok (.iload_n 1, 1) := by decide +kernel
theorem dX12_price_2 : decode cX12_price 2 = .ok (.invokevirtual 386, 3) := by decide +kernel
theorem dX12_price_5 : decode cX12_price 5 = .ok (.ifCond .ne 5, 3) := by decide +kernel
theorem dX12_price_8 : decode cX12_price 8 = .ok (.iconst (-1), 1) := by decide +kernel
theorem dX12_price_9 : decode cX12_price 9 = .ok (.ireturn, 1) := by decide +kernel
theorem dX12_price_10 : decode cX12_price 10 = .ok (.aload_n 0, 1) := by decide +kernel
theorem dX12_price_11 : decode cX12_price 11 = .ok (.iload_n 1, 1) := by decide +kernel
theorem dX12_price_12 : decode cX12_price 12 = .ok (.iconst (-1), 1) := by decide +kernel
theorem dX12_price_13 : decode cX12_price 13 = .ok (.invokevirtual 434, 3) := by decide +kernel
theorem dX12_price_16 : decode cX12_price 16 = .ok (.aload_n 0, 1) := by decide +kernel
theorem dX12_price_17 : decode cX12_price 17 = .ok (.iconst (-1), 1) := by decide +kernel
theorem dX12_price_18 : decode cX12_price 18 = .ok (.invokevirtual 444, 3) := by decide +kernel
theorem dX12_price_21 : decode cX12_price 21 = .ok (.aload_n 0, 1) := by decide +kernel

