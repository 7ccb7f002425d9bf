theorem dX11_moves_0 : decode cX11_moves 0 = .ok (.aload_n 0, 1) := by decide +kernel
theorem dX11_moves_1 : decode cX11_moves 1 = .ok (.iload_n 1, 1) := by decide +kernel
theorem dX11_moves_2 : decode cX11_moves 2 = .ok (.invokevirtual 170, 3) := by decide +kernel
theorem dX11_moves_5 : decode cX11_moves 5 = .ok (.ifCond .eq 14, 3) := by decide +kernel
theorem dX11_moves_8 : decode cX11_moves 8 = .ok (.iload_n 2, 1) := by decide +kernel
theorem dX11_moves_9 : decode cX11_moves 9 = .ok (.iconst (-1), 1) := by decide +kernel
theorem dX11_moves_10 : decode cX11_moves 10 = .ok (.if_icmp .lt 9, 3) := by decide +kernel
theorem dX11_moves_13 : decode cX11_moves 13 = .ok (.iload_n 2, 1) := by decide +kernel
theorem dX11_moves_14 : decode cX11_moves 14 = .ok (.ldc 179, 2) := by decide +kernel
theorem dX11_moves_16 : decode cX11_moves 16 = .ok (.if_icmp .le 5, 3) := by decide +kernel
theorem dX11_moves_19 : decode cX11_moves 19 = .ok (.iconst (-1), 1) := by decide +kernel
theorem dX11_moves_20 : decode cX11_moves 20 = .ok (.ireturn, 1) := by decide +kernel
theorem dX11_moves_21 : decode cX11_moves 21 = .ok (.aload_n 0, 1) := by decide +kernel
theorem dX11_moves_22 : decode cX11_moves 22 = .ok (.invokevirtual 206, 3) := by decide +kernel
theorem dX11_moves_25 : decode cX11_moves 25 = .ok (.astore_n 3, 1) := by decide +kernel
theorem dX11_moves_26 : decode cX11_moves 26 = .ok (.aload_n 0, 1) := by decide +kernel
theorem dX11_moves_27 : decode cX11_moves 27 = .ok (.getfield 66, 3) := by decide +kernel
theorem dX11_moves_30 : decode cX11_moves 30 = .ok (.iload_n 1, 1) := by decide +kernel
theorem dX11_moves_31 : decode cX11_moves 31 = .ok (.iload_n 2, 1) := by decide +kernel
theorem dX11_moves_32 : decode cX11_moves 32 = .ok (.invokevirtual 232, 3) := by decide +kernel
theorem dX11_moves_35 : decode cX11_moves 35 = .ok (.aload_n 3, 1) := by decide +kernel
theorem dX11_moves_36 : decode cX11_moves 36 = .ok (.invokevirtual 225, 3) := by decide +kernel
theorem dX11_moves_39 : decode cX11_moves 39 = .ok (.aload_n 0, 1) := by decide +kernel
theorem dX11_moves_40 : decode cX11_moves 40 = .ok (.getfield 66, 3) := by decide +kernel
theorem dX11_moves_43 : decode cX11_moves 43 = .ok (.invokevirtual 225, 3) := by decide +kernel
theorem dX11_moves_46 : decode cX11_moves 46 = .ok (.if_icmp .eq 11, 3) := by decide +kernel
theorem dX11_moves_49 : decode cX11_moves 49 = .ok (.aload_n 0, 1) := by decide +kernel
theorem dX11_moves_50 : decode cX11_moves 50 = .ok (.getfield 37, 3) := by decide +kernel
theorem dX11_moves_53 : decode cX11_moves 53 = .ok (.invokevirtual 213, 3) := by decide +kernel
theorem dX11_moves_56 : decode cX11_moves 56 = .ok (.ireturn, 1) := by decide +kernel
theorem dX11_moves_57 : decode cX11_moves 57 = .ok (.aload_n 3, 1) := by decide +kernel
theorem dX11_moves_58 : decode cX11_moves 58 = .ok (.invokevirtual 225, 3) := by decide +kernel
theorem dX11_moves_61 : decode cX11_moves 61 = .ok (.ifCond .eq 14, 3) := by decide +kernel
theorem dX11_moves_64 : decode cX11_moves 64 = .ok (.aload_n 3, 1) := by decide +kernel
theorem dX11_moves_65 : decode cX11_moves 65 = .ok (.aload_n 0, 1) := by decide +kernel
theorem dX11_moves_66 : decode cX11_moves 66 = .ok (.getfield 66, 3) := by decide +kernel
theorem dX11_moves_69 : decode cX11_moves 69 = .ok (.invokestatic 236, 3) := by decide +kernel
theorem dX11_moves_72 : decode cX11_moves 72 = .ok (.goto 4, 3) := by decide +kernel
theorem dX11_moves_75 : decode cX11_moves 75 = .ok (.iconst 0, 1) := by decide +kernel
theorem dX11_moves_76 : decode cX11_moves 76 = .ok (.ireturn, 1) := by decide +kernel
set_option maxRecDepth 20000 in
theorem ggX11_pays_X11_isRoad : GoodIn wsX11_pays wsX11_isRoad := goodIn_r _ [8, 2, 9, 183, 184, 185, 186, 187, 188, 189, 190, 191, 192, 193, 194, 195, 196, 197, 198, 199, 200, 201, 202, 203, 204, 205, 206, 207, 208, 209, 210, 211, 212, 213, 214, 215, 216, 217, 218, 219] (by decide +kernel) (by decide +kernel)
set_option maxRecDepth 20000 in
theorem gX11_pays_X11_isRoad : GoodIn wsX11_pays (wsV RX11 170 RX11 yX11_isRoad wsX11_isRoad) := goodIn_app (goodIn_of _ (by decide +kernel)) ggX11_pays_X11_isRoad
set_option maxRecDepth 20000 in
theorem ggX11_pays_X11_planNow : GoodIn wsX11_pays wsX11_planNow := goodIn_r _ [13, 14, 15, 16, 17, 18, 19, 20, 21, 22, 23, 24, 25, 26, 27, 28, 29, 30, 31, 32, 33, 34, 35, 36, 37, 38, 39, 40, 41, 42, 43, 44, 45, 46, 47, 48, 49, 50, 51, 52, 53, 54, 55, 56, 57, 58, 59, 60, 61, 62, 63, 64, 65, 66, 67, 68, 69, 70, 71, 72, 73, 74, 75, 76, 77, 78, 79, 80, 81, 82, 83, 84, 85, 183, 184, 185, 186, 187, 188, 189, 190, 191, 192, 193, 194, 195, 196, 197, 198, 199, 220, 221, 222, 223, 224, 225, 226, 227, 228, 229, 230, 231, 232, 233, 200, 201, 202, 203, 204, 205, 206, 207, 208, 209, 210, 211, 212, 213, 214, 215, 216, 217, 218, 219] rfl (by decide +kernel)
set_option maxRecDepth 20000 in
theorem gX11_pays_X11_planNow : GoodIn wsX11_pays (wsV RX11 206 RX11 yX11_planNow wsX11_planNow) := goodIn_app (goodIn_of _ (by decide +kernel)) ggX11_pays_X11_planNow
set_option maxRecDepth 20000 in
theorem ggX11_pays_X7_take : GoodIn wsX11_pays wsX7_take := goodIn_r _ [20, 21, 22, 23, 24, 25, 26, 27, 28, 29, 30, 31, 32, 33, 34, 35, 36, 37, 38, 39, 40, 41, 42, 43, 44, 45, 46, 47, 48, 49, 50, 51, 52, 53, 54, 55, 56, 57, 58, 59, 19, 60, 61, 62, 63, 64, 65, 66, 67, 68, 69, 70, 71, 72, 73, 74, 75, 76, 77, 78, 79, 80, 81, 82, 83, 84, 85, 220, 221, 222, 223, 224, 225, 226, 227, 228, 229, 230, 231, 232, 233, 200, 201, 202, 203, 204, 205, 206, 207, 208, 209, 210, 211, 212, 213, 214, 215, 216, 217, 218, 219] rfl (by decide +kernel)
set_option maxRecDepth 20000 in
theorem gX11_pays_X7_take : GoodIn wsX11_pays (wsV RX11 232 RX7 yX7_take wsX7_take) := goodIn_app (goodIn_of _ (by decide +kernel)) ggX11_pays_X7_take
set_option maxRecDepth 20000 in
theorem ggX11_pays_X7_hasEnds : GoodIn wsX11_pays wsX7_hasEnds := goodIn_r _ [89, 61, 23, 77, 78, 79, 47, 80, 81, 90, 91, 92, 19, 93, 32, 94, 31, 24, 95, 96, 26, 97, 98, 99, 100, 101, 102, 103, 104, 29, 105, 106, 107, 108, 109, 110, 111, 112, 113, 114, 115, 116, 117, 118, 119, 120, 121, 122, 123, 124, 125, 126, 127, 128, 129, 130, 131, 132, 133, 134, 135, 136, 137, 138, 220, 221, 222, 223, 224, 225, 226, 227, 228, 229, 230, 200, 201, 202, 203, 204, 205, 206, 207, 208, 209, 210, 211, 212, 213, 214, 215, 216, 217, 218, 219, 234, 235, 236, 237, 238, 239, 240, 241] rfl (by decide +kernel)
set_option maxRecDepth 20000 in
theorem gX11_pays_X7_hasEnds : GoodIn wsX11_pays (wsV RX11 225 RX7 yX7_hasEnds wsX7_hasEnds) := goodIn_app (goodIn_of _ (by decide +kernel)) ggX11_pays_X7_hasEnds
set_option maxRecDepth 20000 in
theorem ggX11_pays_X7_endOf : GoodIn wsX11_pays wsX7_endOf := goodIn_r _ [142, 143, 23, 144, 145, 146, 147, 19, 148, 33, 31, 24, 26, 95, 96, 75, 76, 149, 150, 151, 152, 153, 154, 104, 29, 105, 155, 156, 157, 158, 109, 110, 111, 77, 78, 79, 47, 80, 81, 159, 160, 161, 162, 163, 164, 165, 166, 82, 83, 84, 85, 50, 51, 167, 168, 169, 170, 171, 172, 173, 174, 175, 176, 177, 178, 179, 180, 181, 182, 220, 221, 222, 223, 224, 225, 226, 227, 228, 229, 230, 200, 201, 202, 203, 204, 205, 206, 207, 208, 209, 210, 211, 212, 213, 214, 215, 216, 217, 218, 219, 242, 243] rfl (by decide +kernel)
set_option maxRecDepth 20000 in
theorem gX11_pays_X7_endOf : GoodIn wsX11_pays (wsV RX11 228 RX7 yX7_endOf wsX7_endOf) := goodIn_app (goodIn_of _ (by decide +kernel)) ggX11_pays_X7_endOf
theorem dX11_pays_0 : decode cX11_pays 0 = .ok (.aload_n 0, 1) := by decide +kernel
theorem dX11_pays_1 : decode cX11_pays 1 = .ok (.iload_n 1, 1) := by decide +kernel
theorem dX11_pays_2 : decode cX11_pays 2 = .ok (.invokevirtual 170, 3) := by decide +kernel
theorem dX11_pays_5 : decode cX11_pays 5 = .ok (.ifCond .ne 5, 3) := by decide +kernel
theorem dX11_pays_8 : decode cX11_pays 8 = .ok (.iconst (-1), 1) := by decide +kernel
theorem dX11_pays_9 : decode cX11_pays 9 = .ok (.ireturn, 1) := by decide +kernel
theorem dX11_pays_10 : decode cX11_pays 10 = .ok (.aload_n 0, 1) := by decide +kernel
theorem dX11_pays_11 : decode cX11_pays 11 = .ok (.invokevirtual 206, 3) := by decide +kernel
theorem dX11_pays_14 : decode cX11_pays 14 = .ok (.astore_n 2, 1) := by decide +kernel
theorem dX11_pays_15 : decode cX11_pays 15 = .ok (.aload_n 0, 1) := by decide +kernel
theorem dX11_pays_16 : decode cX11_pays 16 = .ok (.getfield 66, 3) := by decide +kernel
theorem dX11_pays_19 : decode cX11_pays 19 = .ok (.iload_n 1, 1) := by decide +kernel
theorem dX11_pays_20 : decode cX11_pays 20 = .ok (.iconst (-1), 1) := by decide +kernel
theorem dX11_pays_21 : decode cX11_pays 21 = .ok (.invokevirtual 232, 3) := by decide +kernel
theorem dX11_pays_24 : decode cX11_pays 24 = .ok (.aload_n 2, 1) := by decide +kernel
theorem dX11_pays_25 : decode cX11_pays 25 = .ok (.invokevirtual 225, 3) := by decide +kernel
theorem dX11_pays_28 : decode cX11_pays 28 = .ok (.ifCond .eq 13, 3) := by decide +kernel
theorem dX11_pays_31 : decode cX11_pays 31 = .ok (.aload_n 0, 1) := by decide +kernel
theorem dX11_pays_32 : decode cX11_pays 32 = .ok (.getfield 66, 3) := by decide +kernel
theorem dX11_pays_35 : decode cX11_pays 35 = .ok (.invokevirtual 225, 3) := by decide +kernel
theorem dX11_pays_38 : decode cX11_pays 38 = .ok (.ifCond .ne 5, 3) := by decide +kernel
theorem dX11_pays_41 : decode cX11_pays 41 = .ok (.iconst 0, 1) := by decide +kernel
theorem dX11_pays_42 : decode cX11_pays 42 = .ok (.ireturn, 1) := by decide +kernel
theorem dX11_pays_43 : decode cX11_pays 43 = .ok (.iconst 0, 1) := by decide +kernel
theorem dX11_pays_44 : decode cX11_pays 44 = .ok (.istore_n 3, 1) := by decide +kernel
theorem dX11_pays_45 : decode cX11_pays 45 = .ok (.iconst 0, 1) := by decide +kernel
theorem dX11_pays_46 : decode cX11_pays 46 = .ok (.istore 4, 2) := by decide +kernel
theorem dX11_pays_48 : decode cX11_pays 48 = .ok (.iload 4, 2) := by decide +kernel
theorem dX11_pays_50 : decode cX11_pays 50 = .ok (.aload_n 0, 1) := by decide +kernel
theorem dX11_pays_51 : decode cX11_pays 51 = .ok (.getfield 37, 3) := by decide +kernel
theorem dX11_pays_54 : decode cX11_pays 54 = .ok (.getfield 144, 3) := by decide +kernel
theorem dX11_pays_57 : decode cX11_pays 57 = .ok (.if_icmp .ge 36, 3) := by decide +kernel
theorem dX11_pays_60 : decode cX11_pays 60 = .ok (.aload_n 0, 1) := by decide +kernel
theorem dX11_pays_61 : decode cX11_pays 61 = .ok (.getfield 66, 3) := by decide +kernel
theorem dX11_pays_64 : decode cX11_pays 64 = .ok (.iload 4, 2) := by decide +kernel
theorem dX11_pays_66 : decode cX11_pays 66 = .ok (.iconst 0, 1) := by decide +kernel
theorem dX11_pays_67 : decode cX11_pays 67 = .ok (.invokevirtual 228, 3) := by decide +kernel
theorem dX11_pays_70 : decode cX11_pays 70 = .ok (.aload_n 2, 1) := by decide +kernel
theorem dX11_pays_71 : decode cX11_pays 71 = .ok (.iload 4, 2) := by decide +kernel
theorem dX11_pays_73 : decode cX11_pays 73 = .ok (.iconst 0, 1) := by decide +kernel
theorem dX11_pays_74 : decode cX11_pays 74 = .ok (.invokevirtual 228, 3) := by decide +kernel
theorem dX11_pays_77 : decode cX11_pays 77 = .ok (.if_icmp .le 10, 3) := by decide +kernel
theorem dX11_pays_80 : decode cX11_pays 80 = .ok (.iload_n 3, 1) := by decide +kernel
theorem dX11_pays_81 : decode cX11_pays 81 = .ok (.iconst 1, 1) := by decide +kernel
theorem dX11_pays_82 : decode cX11_pays 82 = .ok (.iload 4, 2) := by decide +kernel
theorem dX11_pays_84 : decode cX11_pays 84 = .ok (.ishl, 1) := by decide +kernel
theorem dX11_pays_85 : decode cX11_pays 85 = .ok (.ior, 1) := by decide +kernel
theorem dX11_pays_86 : decode cX11_pays 86 = .ok (.istore_n 3, 1) := by decide +kernel
theorem dX11_pays_87 : decode cX11_pays 87 = .ok (.iinc 4 1, 3) := by decide +kernel
theorem dX11_pays_90 : decode cX11_pays 90 = .ok (.goto (-42), 3) := by decide +kernel
theorem dX11_pays_93 : decode cX11_pays 93 = .ok (.iload_n 3, 1) := by decide +kernel
theorem dX11_pays_94 : decode cX11_pays 94 = .ok (.ireturn, 1) := by decide +kernel
set_option maxRecDepth 20000 in
theorem ggX11_two_X11_isSomebody : GoodIn wsX11_two wsX11_isSomebody := goodIn_r _ [6, 7, 8, 201, 202, 203, 204, 205, 206, 207, 208, 209, 210, 211, 212, 213, 214, 215, 216, 217, 218, 219, 220, 221, 222, 223, 224, 225, 226, 227, 228, 229, 230, 231, 232, 233, 234, 235, 236, 237] (by decide +kernel) (by decide +kernel)
set_option maxRecDepth 20000 in
theorem gX11_two_X11_isSomebody : GoodIn wsX11_two (wsV RX11 163 RX11 yX11_isSomebody wsX11_isSomebody) := goodIn_app (goodIn_of _ (by decide +kernel)) ggX11_two_X11_isSomebody
set_option maxRecDepth 20000 in
theorem ggX11_two_X11_planNow : GoodIn wsX11_two wsX11_planNow := goodIn_r _ [12, 13, 14, 15, 16, 17, 18, 19, 20, 21, 22, 23, 24, 25, 26, 27, 28, 29, 30, 31, 32, 33, 34, 35, 36, 37, 38, 39, 40, 41, 42, 43, 44, 45, 46, 47, 48, 49, 50, 51, 52, 53, 54, 55, 56, 57, 58, 59, 60, 61, 62, 63, 64, 65, 66, 67, 68, 69, 70, 71, 72, 73, 74, 75, 76, 77, 78, 79, 80, 81, 82, 83, 84, 201, 202, 203, 204, 205, 206, 207, 208, 209, 210, 211, 212, 213, 214, 215, 216, 217, 238, 239, 240, 241, 242, 243, 244, 245, 246, 247, 248, 249, 250, 251, 218, 219, 220, 221, 222, 223, 224, 225, 226, 227, 228, 229, 230, 231, 232, 233, 234, 235, 236, 237] rfl (by decide +kernel)
set_option maxRecDepth 20000 in
theorem gX11_two_X11_planNow : GoodIn wsX11_two (wsV RX11 206 RX11 yX11_planNow wsX11_planNow) := goodIn_app (goodIn_of _ (by decide +kernel)) ggX11_two_X11_planNow
set_option maxRecDepth 20000 in
theorem ggX11_two_X7_hasEnds : GoodIn wsX11_two wsX7_hasEnds := goodIn_r _ [88, 60, 22, 76, 77, 78, 46, 79, 80, 89, 90, 91, 18, 92, 31, 93, 30, 23, 94, 95, 25, 96, 97, 98, 99, 100, 101, 102, 103, 28, 104, 105, 106, 107, 108, 109, 110, 111, 112, 113, 114, 115, 116, 117, 118, 119, 120, 121, 122, 123, 124, 125, 126, 127, 128, 129, 130, 131, 132, 133, 134, 135, 136, 137, 238, 239, 240, 241, 242, 243, 244, 245, 246, 247, 248, 218, 219, 220, 221, 222, 223, 224, 225, 226, 227, 228, 229, 230, 231, 232, 233, 234, 235, 236, 237, 252, 253, 254, 255, 256, 257, 258, 259] rfl (by decide +kernel)
set_option maxRecDepth 20000 in
theorem gX11_two_X7_hasEnds : GoodIn wsX11_two (wsV RX11 225 RX7 yX7_hasEnds wsX7_hasEnds) := goodIn_app (goodIn_of _ (by decide +kernel)) ggX11_two_X7_hasEnds
set_option maxRecDepth 20000 in
theorem ggX11_two_X7_aheadEnd : GoodIn wsX11_two wsX7_aheadEnd := goodIn_r _ [141, 142, 22, 143, 144, 145, 146, 18, 147, 32, 30, 23, 25, 94, 95, 74, 75, 148, 149, 150, 151, 152, 153, 103, 28, 104, 154, 155, 156, 157, 108, 109, 110, 76, 77, 78, 46, 79, 80, 158, 159, 160, 161, 162, 163, 164, 165, 81, 82, 83, 84, 49, 50, 166, 167, 168, 169, 170, 171, 172, 173, 174, 175, 176, 177, 178, 179, 180, 181, 182, 183, 184, 185, 186, 187, 188, 238, 239, 240, 241, 242, 243, 244, 245, 246, 247, 248, 218, 219, 220, 221, 222, 223, 224, 225, 226, 227, 228, 229, 230, 231, 232, 233, 234, 235, 236, 237, 260, 261] rfl (by decide +kernel)
set_option maxRecDepth 20000 in
theorem gX11_two_X7_aheadEnd : GoodIn wsX11_two (wsV RX11 240 RX7 yX7_aheadEnd wsX7_aheadEnd) := goodIn_app (goodIn_of _ (by decide +kernel)) ggX11_two_X7_aheadEnd
set_option maxRecDepth 20000 in
theorem ggX11_two_X7_bothEnd : GoodIn wsX11_two wsX7_bothEnd := goodIn_r _ [192, 142, 22, 143, 144, 145, 146, 18, 147, 32, 30, 23, 25, 94, 95, 74, 75, 148, 149, 150, 151, 152, 153, 103, 28, 104, 154, 155, 156, 157, 108, 109, 110, 76, 77, 78, 46, 79, 80, 158, 159, 160, 161, 162, 163, 164, 165, 81, 82, 83, 84, 49, 50, 166, 167, 168, 169, 170, 171, 172, 173, 193, 194, 195, 196, 178, 179, 180, 181, 186, 187, 188, 197, 198, 199, 200, 182, 183, 184, 185, 238, 239, 240, 241, 242, 243, 244, 245, 246, 247, 248, 218, 219, 220, 221, 222, 223, 224, 225, 226, 227, 228, 229, 230, 231, 232, 233, 234, 235, 236, 237, 260, 261] rfl (by decide +kernel)
set_option maxRecDepth 20000 in
theorem gX11_two_X7_bothEnd : GoodIn wsX11_two (wsV RX11 244 RX7 yX7_bothEnd wsX7_bothEnd) := goodIn_app (goodIn_of _ (by decide +kernel)) ggX11_two_X7_bothEnd
theorem dX11_two_0 : decode cX11_two 0 = .ok (.aload_n 0, 1) := by decide +kernel
theorem dX11_two_1 : decode cX11_two 1 = .ok (.iload_n 1, 1) := by decide +kernel
theorem dX11_two_2 : decode cX11_two 2 = .ok (.invokevirtual 163, 3) := by decide +kernel
theorem dX11_two_5 : decode cX11_two 5 = .ok (.ifCond .eq 16, 3) := by decide +kernel
theorem dX11_two_8 : decode cX11_two 8 = .ok (.aload_n 0, 1) := by decide +kernel
theorem dX11_two_9 : decode cX11_two 9 = .ok (.iload_n 2, 1) := by decide +kernel
theorem dX11_two_10 : decode cX11_two 10 = .ok (.invokevirtual 163, 3) := by decide +kernel
theorem dX11_two_13 : decode cX11_two 13 = .ok (.ifCond .eq 8, 3) := by decide +kernel
theorem dX11_two_16 : decode cX11_two 16 = .ok (.iload_n 1, 1) := by decide +kernel
theorem dX11_two_17 : decode cX11_two 17 = .ok (.iload_n 2, 1) := by decide +kernel
theorem dX11_two_18 : decode cX11_two 18 = .ok (.if_icmp .ne 6, 3) := by decide +kernel
theorem dX11_two_21 : decode cX11_two 21 = .ok (.ldc 191, 2) := by decide +kernel
theorem dX11_two_23 : decode cX11_two 23 = .ok (.ireturn, 1) := by decide +kernel
theorem dX11_two_24 : decode cX11_two 24 = .ok (.aload_n 0, 1) := by decide +kernel
theorem dX11_two_25 : decode cX11_two 25 = .ok (.invokevirtual 206, 3) := by decide +kernel
theorem dX11_two_28 : decode cX11_two 28 = .ok (.astore 5, 2) := by decide +kernel
theorem dX11_two_30 : decode cX11_two 30 = .ok (.aload 5, 2) := by decide +kernel
theorem dX11_two_32 : decode cX11_two 32 = .ok (.invokevirtual 225, 3) := by decide +kernel
theorem dX11_two_35 : decode cX11_two 35 = .ok (.ifCond .ne 6, 3) := by decide +kernel
theorem dX11_two_38 : decode cX11_two 38 = .ok (.ldc 191, 2) := by decide +kernel
theorem dX11_two_40 : decode cX11_two 40 = .ok (.ireturn, 1) := by decide +kernel
theorem dX11_two_41 : decode cX11_two 41 = .ok (.iload_n 3, 1) := by decide +kernel
theorem dX11_two_42 : decode cX11_two 42 = .ok (.ifCond .eq 15, 3) := by decide +kernel
theorem dX11_two_45 : decode cX11_two 45 = .ok (.aload 5, 2) := by decide +kernel
theorem dX11_two_47 : decode cX11_two 47 = .ok (.iload_n 1, 1) := by decide +kernel
theorem dX11_two_48 : decode cX11_two 48 = .ok (.iload_n 2, 1) := by decide +kernel
theorem dX11_two_49 : decode cX11_two 49 = .ok (.iload 4, 2) := by decide +kernel
theorem dX11_two_51 : decode cX11_two 51 = .ok (.invokevirtual 240, 3) := by decide +kernel
theorem dX11_two_54 : decode cX11_two 54 = .ok (.goto 12, 3) := by decide +kernel
theorem dX11_two_57 : decode cX11_two 57 = .ok (.aload 5, 2) := by decide +kernel
theorem dX11_two_59 : decode cX11_two 59 = .ok (.iload_n 1, 1) := by decide +kernel
theorem dX11_two_60 : decode cX11_two 60 = .ok (.iload_n 2, 1) := by decide +kernel
theorem dX11_two_61 : decode cX11_two 61 = .ok (.iload 4, 2) := by decide +kernel
theorem dX11_two_63 : decode cX11_two 63 = .ok (.invokevirtual 244, 3) := by decide +kernel
theorem dX11_two_66 : decode cX11_two 66 = .ok (.ireturn, 1) := by decide +kernel
set_option maxRecDepth 20000 in
theorem ggX11_price_X11_isRoad : GoodIn wsX11_price wsX11_isRoad := goodIn_r _ [11, 2, 12, 87, 88, 89, 90, 91, 92, 93, 94, 95, 96, 97, 98, 99, 100, 101, 102, 103, 104, 105, 106, 107, 108, 109, 110, 111, 112, 113, 114, 115, 116, 117, 118, 119, 120, 121, 122, 123] (by decide +kernel) (by decide +kernel)
set_option maxRecDepth 20000 in
theorem gX11_price_X11_isRoad : GoodIn wsX11_price (wsV RX11 170 RX11 yX11_isRoad wsX11_isRoad) := goodIn_app (goodIn_of _ (by decide +kernel)) ggX11_price_X11_isRoad
set_option maxRecDepth 20000 in
theorem ggX11_price_X7_take : GoodIn wsX11_price wsX7_take := goodIn_r _ [17, 18, 19, 20, 21, 22, 23, 24, 4, 5, 6, 25, 26, 27, 28, 29, 30, 31, 32, 33, 34, 35, 36, 37, 38, 39, 40, 41, 42, 43, 44, 45, 46, 47, 48, 49, 50, 51, 52, 53, 16, 54, 55, 56, 57, 58, 59, 60, 61, 62, 63, 64, 65, 66, 67, 68, 69, 70, 71, 72, 73, 74, 75, 76, 77, 78, 79, 124, 125, 126, 127, 128, 129, 130, 131, 132, 133, 134, 135, 136, 137, 104, 105, 106, 107, 108, 109, 110, 111, 112, 113, 114, 115, 116, 117, 118, 119, 120, 121, 122, 123] rfl (by decide +kernel)
set_option maxRecDepth 20000 in
theorem gX11_price_X7_take : GoodIn wsX11_price (wsV RX11 232 RX7 yX7_take wsX7_take) := goodIn_app (goodIn_of _ (by decide +kernel)) ggX11_price_X7_take
set_option maxRecDepth 20000 in
theorem ggX11_price_X6_everybody : GoodIn wsX11_price wsX6_everybody := goodIn_r _ [74, 75, 104, 105, 106, 107, 108, 109, 110, 111, 112, 113, 114, 115, 116, 117, 118, 119, 120, 121, 122, 123] (by decide +kernel) (by decide +kernel)
set_option maxRecDepth 20000 in
theorem gX11_price_X6_everybody : GoodIn wsX11_price (wsV RX11 213 RX6 yX6_everybody wsX6_everybody) := goodIn_app (goodIn_of _ (by decide +kernel)) ggX11_price_X6_everybody
set_option maxRecDepth 20000 in
theorem ggX11_price_X6_pairOf : GoodIn wsX11_price wsX6_pairOf := goodIn_r _ [79, 44, 45, 104, 105, 106, 107, 108, 109, 110, 111, 112, 113, 114, 115, 116, 117, 118, 119, 120, 121, 122, 123] (by decide +kernel) (by decide +kernel)
set_option maxRecDepth 20000 in
theorem gX11_price_X6_pairOf : GoodIn wsX11_price (wsV RX11 247 RX6 yX6_pairOf wsX6_pairOf) := goodIn_app (goodIn_of _ (by decide +kernel)) ggX11_price_X6_pairOf
set_option maxRecDepth 20000 in
theorem ggX11_price_X7_mostOf : GoodIn wsX11_price wsX7_mostOf := goodIn_r _ [85, 55, 124, 125, 126, 127, 128, 129, 130, 131, 132, 133, 134] (by decide +kernel) (by decide +kernel)
set_option maxRecDepth 20000 in
theorem gX11_price_X7_mostOf : GoodIn wsX11_price (wsV RX11 216 RX7 yX7_mostOf wsX7_mostOf) := goodIn_app (goodIn_of _ (by decide +kernel)) ggX11_price_X7_mostOf
set_option maxRecDepth 20000 in
theorem ggX11_price_X6_gainWith : GoodIn wsX11_price wsX6_gainWith := goodIn_r _ [42, 43, 44, 45, 46, 47, 48, 41, 49, 50, 104, 105, 106, 107, 108, 109, 110, 111, 112, 113, 114, 115, 116, 117, 118, 119, 120, 121, 122, 123] (by decide +kernel) (by decide +kernel)
set_option maxRecDepth 20000 in
theorem gX11_price_X6_gainWith : GoodIn wsX11_price (wsV RX11 250 RX6 yX6_gainWith wsX6_gainWith) := goodIn_app (goodIn_of _ (by decide +kernel)) ggX11_price_X6_gainWith
theorem dX11_price_0 : decode cX11_price 0 = .ok (.aload_n 0, 1) := by decide +kernel
theorem dX11_price_1 : decode cX11_price 1 = .ok (.iload_n 1, 1) := by decide +kernel
theorem dX11_price_2 : decode cX11_price 2 = .ok (.invokevirtual 170, 3) := by decide +kernel
theorem dX11_price_5 : decode cX11_price 5 = .ok (.ifCond .ne 5, 3) := by decide +kernel
theorem dX11_price_8 : decode cX11_price 8 = .ok (.iconst (-1), 1) := by decide +kernel
theorem dX11_price_9 : decode cX11_price 9 = .ok (.ireturn, 1) := by decide +kernel
theorem dX11_price_10 : decode cX11_price 10 = .ok (.aload_n 0, 1) := by decide +kernel
theorem dX11_price_11 : decode cX11_price 11 = .ok (.getfield 66, 3) := by decide +kernel
theorem dX11_price_14 : decode cX11_price 14 = .ok (.iload_n 1, 1) := by decide +kernel
theorem dX11_price_15 : decode cX11_price 15 = .ok (.iconst (-1), 1) := by decide +kernel
theorem dX11_price_16 : decode cX11_price 16 = .ok (.invokevirtual 232, 3) := by decide +kernel
theorem dX11_price_19 : decode cX11_price 19 = .ok (.aload_n 0, 1) := by decide +kernel
theorem dX11_price_20 : decode cX11_price 20 = .ok (.getfield 37, 3) := by decide +kernel
theorem dX11_price_23 : decode cX11_price 23 = .ok (.invokevirtual 213, 3) := by decide +kernel
theorem dX11_price_26 : decode cX11_price 26 = .ok (.istore_n 2, 1) := by decide +kernel
theorem dX11_price_27 : decode cX11_price 27 = .ok (.iload_n 2, 1) := by decide +kernel
theorem dX11_price_28 : decode cX11_price 28 = .ok (.aload_n 0, 1) := by decide +kernel
theorem dX11_price_29 : decode cX11_price 29 = .ok (.getfield 37, 3) := by decide +kernel
theorem dX11_price_32 : decode cX11_price 32 = .ok (.iload_n 1, 1) := by decide +kernel
theorem dX11_price_33 : decode cX11_price 33 = .ok (.invokevirtual 247, 3) := by decide +kernel
theorem dX11_price_36 : decode cX11_price 36 = .ok (.iconst (-1), 1) := by decide +kernel
theorem dX11_price_37 : decode cX11_price 37 = .ok (.ixor, 1) := by decide +kernel
theorem dX11_price_38 : decode cX11_price 38 = .ok (.iand, 1) := by decide +kernel
theorem dX11_price_39 : decode cX11_price 39 = .ok (.istore_n 3, 1) := by decide +kernel
theorem dX11_price_40 : decode cX11_price 40 = .ok (.aload_n 0, 1) := by decide +kernel
theorem dX11_price_41 : decode cX11_price 41 = .ok (.getfield 66, 3) := by decide +kernel
theorem dX11_price_44 : decode cX11_price 44 = .ok (.iload_n 2, 1) := by decide +kernel
theorem dX11_price_45 : decode cX11_price 45 = .ok (.invokevirtual 216, 3) := by decide +kernel
theorem dX11_price_48 : decode cX11_price 48 = .ok (.aload_n 0, 1) := by decide +kernel
theorem dX11_price_49 : decode cX11_price 49 = .ok (.getfield 66, 3) := by decide +kernel
theorem dX11_price_52 : decode cX11_price 52 = .ok (.iload_n 3, 1) := by decide +kernel
theorem dX11_price_53 : decode cX11_price 53 = .ok (.invokevirtual 216, 3) := by decide +kernel
theorem dX11_price_56 : decode cX11_price 56 = .ok (.isub, 1) := by decide +kernel
theorem dX11_price_57 : decode cX11_price 57 = .ok (.istore 4, 2) := by decide +kernel
theorem dX11_price_59 : decode cX11_price 59 = .ok (.iconst 0, 1) := by decide +kernel
theorem dX11_price_60 : decode cX11_price 60 = .ok (.iload 4, 2) := by decide +kernel
theorem dX11_price_62 : decode cX11_price 62 = .ok (.aload_n 0, 1) := by decide +kernel
theorem dX11_price_63 : decode cX11_price 63 = .ok (.getfield 37, 3) := by decide +kernel
theorem dX11_price_66 : decode cX11_price 66 = .ok (.iload_n 1, 1) := by decide +kernel
theorem dX11_price_67 : decode cX11_price 67 = .ok (.iconst 0, 1) := by decide +kernel
theorem dX11_price_68 : decode cX11_price 68 = .ok (.invokevirtual 250, 3) := by decide +kernel
theorem dX11_price_71 : decode cX11_price 71 = .ok (.isub, 1) := by decide +kernel
theorem dX11_price_72 : decode cX11_price 72 = .ok (.invokestatic 198, 3) := by decide +kernel
theorem dX11_price_75 : decode cX11_price 75 = .ok (.ireturn, 1) := by decide +kernel
set_option maxRecDepth 20000 in
theorem ggX11_ways_X11_planNow : GoodIn wsX11_ways wsX11_planNow := goodIn_r _ [6, 7, 8, 9, 10, 11, 12, 13, 14, 15, 16, 17, 18, 19, 20, 21, 22, 23, 24, 25, 26, 27, 28, 29, 30, 31, 32, 33, 34, 35, 36, 37, 38, 39, 40, 41, 42, 43, 44, 45, 46, 47, 48, 49, 50, 51, 52, 53, 54, 55, 56, 57, 58, 59, 60, 61, 62, 63, 64, 65, 66, 67, 68, 69, 70, 71, 72, 73, 74, 75, 76, 77, 78, 91, 92, 93, 94, 95, 96, 97, 98, 99, 100, 101, 102, 103, 104, 105, 106, 107, 108, 109, 110, 111, 112, 113, 114, 115, 116, 117, 118, 119, 120, 121, 122, 123, 124, 125, 126, 127, 128, 129, 130, 131, 132, 133, 134, 135, 136, 137, 138, 139, 140, 141] rfl (by decide +kernel)
set_option maxRecDepth 20000 in
theorem gX11_ways_X11_planNow : GoodIn wsX11_ways (wsV RX11 206 RX11 yX11_planNow wsX11_planNow) := goodIn_app (goodIn_of _ (by decide +kernel)) ggX11_ways_X11_planNow
set_option maxRecDepth 20000 in
theorem ggX11_ways_X7_countWays : GoodIn wsX11_ways wsX7_countWays := goodIn_r _ [82, 16, 24, 54, 83, 84, 85, 12, 86, 87, 88, 89, 22, 90, 59, 60, 61, 62, 63, 19, 70, 71, 72, 40, 73, 74, 108, 109, 110, 111, 112, 113, 114, 115, 116, 117, 118, 122, 123, 124, 125, 126, 127, 128, 129, 130, 131, 132, 133, 134, 135, 136, 137, 138, 139, 140, 141] (by decide +kernel) (by decide +kernel)
set_option maxRecDepth 20000 in
theorem gX11_ways_X7_countWays : GoodIn wsX11_ways (wsV RX11 253 RX7 yX7_countWays wsX7_countWays) := goodIn_app (goodIn_of _ (by decide +kernel)) ggX11_ways_X7_countWays
theorem dX11_ways_0 : decode cX11_ways 0 = .ok (.aload_n 0, 1) := by decide +kernel
theorem dX11_ways_1 : decode cX11_ways 1 = .ok (.invokevirtual 206, 3) := by decide +kernel
theorem dX11_ways_4 : decode cX11_ways 4 = .ok (.aload_n 0, 1) := by decide +kernel
theorem dX11_ways_5 : decode cX11_ways 5 = .ok (.getfield 69, 3) := by decide +kernel
theorem dX11_ways_8 : decode cX11_ways 8 = .ok (.invokevirtual 253, 3) := by decide +kernel
theorem dX11_ways_11 : decode cX11_ways 11 = .ok (.ireturn, 1) := by decide +kernel
set_option maxRecDepth 20000 in
theorem ggX11_deal_X11_isRoad : GoodIn wsX11_deal wsX11_isRoad := goodIn_r _ [12, 6, 13, 34, 35, 36, 37, 38, 39, 40, 41, 42, 43, 44, 45, 46, 47, 48, 49, 50, 65, 66, 67, 68, 69, 70, 71, 72, 73, 74, 75, 76, 77, 78, 79, 80, 81, 82, 83, 84] (by decide +kernel) (by decide +kernel)
set_option maxRecDepth 20000 in
theorem gX11_deal_X11_isRoad : GoodIn wsX11_deal (wsV RX11 170 RX11 yX11_isRoad wsX11_isRoad) := goodIn_app (goodIn_of _ (by decide +kernel)) ggX11_deal_X11_isRoad
set_option maxRecDepth 20000 in
theorem ggX11_deal_X3_tell : GoodIn wsX11_deal wsX3_tell := goodIn_r _ [18, 19, 20, 21, 22, 23, 24, 25, 26, 27, 28, 29, 30, 17, 31, 32, 33, 65, 66, 67, 68, 69, 70, 71, 72, 73, 74, 75, 76, 77, 78, 79, 80, 81, 82, 83, 84, 54, 55, 56, 57, 58, 59, 60, 61, 62, 63, 64] (by decide +kernel) (by decide +kernel)
set_option maxRecDepth 20000 in
theorem gX11_deal_X3_tell : GoodIn wsX11_deal (wsV RX11 259 RX3 yX3_tell wsX3_tell) := goodIn_app (goodIn_of _ (by decide +kernel)) ggX11_deal_X3_tell
theorem dX11_deal_0 : decode cX11_deal 0 = .ok (.aload_n 0, 1) := by decide +kernel
theorem dX11_deal_1 : decode cX11_deal 1 = .ok (.iload_n 1, 1) := by decide +kernel
theorem dX11_deal_2 : decode cX11_deal 2 = .ok (.invokevirtual 170, 3) := by decide +kernel
theorem dX11_deal_5 : decode cX11_deal 5 = .ok (.ifCond .eq 29, 3) := by decide +kernel
theorem dX11_deal_8 : decode cX11_deal 8 = .ok (.iload_n 2, 1) := by decide +kernel
theorem dX11_deal_9 : decode cX11_deal 9 = .ok (.ldc_w 257, 3) := by decide +kernel
theorem dX11_deal_12 : decode cX11_deal 12 = .ok (.if_icmp .lt 22, 3) := by decide +kernel
theorem dX11_deal_15 : decode cX11_deal 15 = .ok (.iload_n 2, 1) := by decide +kernel
theorem dX11_deal_16 : decode cX11_deal 16 = .ok (.ldc_w 258, 3) := by decide +kernel
theorem dX11_deal_19 : decode cX11_deal 19 = .ok (.if_icmp .gt 15, 3) := by decide +kernel
theorem dX11_deal_22 : decode cX11_deal 22 = .ok (.aload_n 0, 1) := by decide +kernel
theorem dX11_deal_23 : decode cX11_deal 23 = .ok (.getfield 46, 3) := by decide +kernel
theorem dX11_deal_26 : decode cX11_deal 26 = .ok (.getfield 187, 3) := by decide +kernel
theorem dX11_deal_29 : decode cX11_deal 29 = .ok (.iload_n 1, 1) := by decide +kernel
theorem dX11_deal_30 : decode cX11_deal 30 = .ok (.baload, 1) := by decide +kernel
theorem dX11_deal_31 : decode cX11_deal 31 = .ok (.ifCond .ne 5, 3) := by decide +kernel
theorem dX11_deal_34 : decode cX11_deal 34 = .ok (.iconst (-1), 1) := by decide +kernel
theorem dX11_deal_35 : decode cX11_deal 35 = .ok (.ireturn, 1) := by decide +kernel
theorem dX11_deal_36 : decode cX11_deal 36 = .ok (.aload_n 0, 1) := by decide +kernel
theorem dX11_deal_37 : decode cX11_deal 37 = .ok (.getfield 78, 3) := by decide +kernel
theorem dX11_deal_40 : decode cX11_deal 40 = .ok (.aload_n 0, 1) := by decide +kernel
theorem dX11_deal_41 : decode cX11_deal 41 = .ok (.getfield 37, 3) := by decide +kernel
theorem dX11_deal_44 : decode cX11_deal 44 = .ok (.iload_n 1, 1) := by decide +kernel
theorem dX11_deal_45 : decode cX11_deal 45 = .ok (.iload_n 2, 1) := by decide +kernel
theorem dX11_deal_46 : decode cX11_deal 46 = .ok (.invokevirtual 259, 3) := by decide +kernel
theorem dX11_deal_49 : decode cX11_deal 49 = .ok (.ifCond .eq 13, 3) := by decide +kernel
theorem dX11_deal_52 : decode cX11_deal 52 = .ok (.aload_n 0, 1) := by decide +kernel
theorem dX11_deal_53 : decode cX11_deal 53 = .ok (.getfield 78, 3) := by decide +kernel
theorem dX11_deal_56 : decode cX11_deal 56 = .ok (.getfield 159, 3) := by decide +kernel
theorem dX11_deal_59 : decode cX11_deal 59 = .ok (.goto 4, 3) := by decide +kernel
theorem dX11_deal_62 : decode cX11_deal 62 = .ok (.iconst (-1), 1) := by decide +kernel
theorem dX11_deal_63 : decode cX11_deal 63 = .ok (.ireturn, 1) := by decide +kernel
set_option maxRecDepth 20000 in
theorem ggX11_undeal_X11_isRoad : GoodIn wsX11_undeal wsX11_isRoad := goodIn_r _ [7, 8, 9, 17, 18, 19, 20, 21, 22, 23, 24, 25, 26, 27, 28, 29, 30, 31, 32, 33, 45, 46, 47, 48, 49, 50, 51, 52, 53, 54, 55, 56, 57, 58, 59, 60, 61, 62, 63, 64] (by decide +kernel) (by decide +kernel)
set_option maxRecDepth 20000 in
theorem gX11_undeal_X11_isRoad : GoodIn wsX11_undeal (wsV RX11 170 RX11 yX11_isRoad wsX11_isRoad) := goodIn_app (goodIn_of _ (by decide +kernel)) ggX11_undeal_X11_isRoad
set_option maxRecDepth 20000 in
theorem ggX11_undeal_X3_drop : GoodIn wsX11_undeal wsX3_drop := goodIn_r _ [14, 15, 16, 34, 35, 36, 37, 38, 39, 40, 41, 42, 43, 44] (by decide +kernel) (by decide +kernel)
set_option maxRecDepth 20000 in
theorem gX11_undeal_X3_drop : GoodIn wsX11_undeal (wsV RX11 263 RX3 yX3_drop wsX3_drop) := goodIn_app (goodIn_of _ (by decide +kernel)) ggX11_undeal_X3_drop
theorem dX11_undeal_0 : decode cX11_undeal 0 = .ok (.aload_n 0, 1) := by decide +kernel
theorem dX11_undeal_1 : decode cX11_undeal 1 = .ok (.iload_n 1, 1) := by decide +kernel
theorem dX11_undeal_2 : decode cX11_undeal 2 = .ok (.invokevirtual 170, 3) := by decide +kernel
theorem dX11_undeal_5 : decode cX11_undeal 5 = .ok (.ifCond .eq 24, 3) := by decide +kernel
theorem dX11_undeal_8 : decode cX11_undeal 8 = .ok (.aload_n 0, 1) := by decide +kernel
theorem dX11_undeal_9 : decode cX11_undeal 9 = .ok (.getfield 78, 3) := by decide +kernel
theorem dX11_undeal_12 : decode cX11_undeal 12 = .ok (.iload_n 1, 1) := by decide +kernel
theorem dX11_undeal_13 : decode cX11_undeal 13 = .ok (.invokevirtual 263, 3) := by decide +kernel
theorem dX11_undeal_16 : decode cX11_undeal 16 = .ok (.ifCond .eq 13, 3) := by decide +kernel
theorem dX11_undeal_19 : decode cX11_undeal 19 = .ok (.aload_n 0, 1) := by decide +kernel
theorem dX11_undeal_20 : decode cX11_undeal 20 = .ok (.getfield 78, 3) := by decide +kernel
theorem dX11_undeal_23 : decode cX11_undeal 23 = .ok (.getfield 159, 3) := by decide +kernel
theorem dX11_undeal_26 : decode cX11_undeal 26 = .ok (.goto 4, 3) := by decide +kernel
theorem dX11_undeal_29 : decode cX11_undeal 29 = .ok (.iconst (-1), 1) := by decide +kernel
theorem dX11_undeal_30 : decode cX11_undeal 30 = .ok (.ireturn, 1) := by decide +kernel
set_option maxRecDepth 20000 in
theorem ggX11_dealRow_X11_planNow : GoodIn wsX11_dealRow wsX11_planNow := goodIn_r _ [13, 14, 15, 16, 17, 18, 19, 20, 21, 22, 23, 24, 25, 26, 27, 28, 29, 30, 31, 32, 33, 34, 35, 36, 37, 38, 39, 40, 41, 42, 43, 44, 45, 46, 47, 48, 49, 50, 51, 52, 53, 54, 55, 56, 57, 58, 59, 60, 61, 62, 63, 64, 65, 66, 67, 68, 69, 70, 71, 72, 73, 74, 75, 76, 77, 78, 79, 80, 81, 82, 83, 84, 85, 104, 105, 106, 107, 108, 109, 110, 111, 112, 113, 114, 115, 116, 117, 118, 119, 120, 121, 122, 123, 124, 125, 126, 127, 128, 129, 130, 131, 163, 164, 165, 132, 133, 134, 135, 136, 137, 138, 139, 140, 141, 142, 143, 144, 145, 146, 147, 148, 149, 150, 151] rfl (by decide +kernel)
set_option maxRecDepth 20000 in
theorem gX11_dealRow_X11_planNow : GoodIn wsX11_dealRow (wsV RX11 206 RX11 yX11_planNow wsX11_planNow) := goodIn_app (goodIn_of _ (by decide +kernel)) ggX11_dealRow_X11_planNow
set_option maxRecDepth 20000 in
theorem ggX11_dealRow_X3_clear : GoodIn wsX11_dealRow wsX3_clear := goodIn_r _ [90, 91, 92, 152, 153, 154, 155, 156, 157, 158, 159, 160, 161, 162] (by decide +kernel) (by decide +kernel)
set_option maxRecDepth 20000 in
theorem gX11_dealRow_X3_clear : GoodIn wsX11_dealRow (wsV RX11 137 RX3 yX3_clear wsX3_clear) := goodIn_app (goodIn_of _ (by decide +kernel)) ggX11_dealRow_X3_clear
set_option maxRecDepth 20000 in
theorem ggX11_dealRow_X3_tell : GoodIn wsX11_dealRow wsX3_tell := goodIn_r _ [96, 97, 91, 98, 83, 84, 47, 85, 50, 51, 99, 100, 101, 89, 102, 92, 103, 132, 133, 134, 135, 136, 137, 138, 139, 140, 141, 142, 143, 144, 145, 146, 147, 148, 149, 150, 151, 152, 153, 154, 155, 156, 157, 158, 159, 160, 161, 162] (by decide +kernel) (by decide +kernel)
set_option maxRecDepth 20000 in
theorem gX11_dealRow_X3_tell : GoodIn wsX11_dealRow (wsV RX11 259 RX3 yX3_tell wsX3_tell) := goodIn_app (goodIn_of _ (by decide +kernel)) ggX11_dealRow_X3_tell
theorem dX11_dealRow_0 : decode cX11_dealRow 0 = .ok (.aload_n 0, 1) := by decide +kernel
theorem dX11_dealRow_1 : decode cX11_dealRow 1 = .ok (.invokevirtual 206, 3) := by decide +kernel
theorem dX11_dealRow_4 : decode cX11_dealRow 4 = .ok (.astore_n 1, 1) := by decide +kernel
theorem dX11_dealRow_5 : decode cX11_dealRow 5 = .ok (.aload_n 0, 1) := by decide +kernel
theorem dX11_dealRow_6 : decode cX11_dealRow 6 = .ok (.getfield 78, 3) := by decide +kernel
theorem dX11_dealRow_9 : decode cX11_dealRow 9 = .ok (.invokevirtual 137, 3) := by decide +kernel
theorem dX11_dealRow_12 : decode cX11_dealRow 12 = .ok (.iconst 0, 1) := by decide +kernel
theorem dX11_dealRow_13 : decode cX11_dealRow 13 = .ok (.istore_n 2, 1) := by decide +kernel
theorem dX11_dealRow_14 : decode cX11_dealRow 14 = .ok (.iload_n 2, 1) := by decide +kernel
theorem dX11_dealRow_15 : decode cX11_dealRow 15 = .ok (.aload_n 1, 1) := by decide +kernel
theorem dX11_dealRow_16 : decode cX11_dealRow 16 = .ok (.getfield 219, 3) := by decide +kernel
theorem dX11_dealRow_19 : decode cX11_dealRow 19 = .ok (.if_icmp .ge 55, 3) := by decide +kernel
theorem dX11_dealRow_22 : decode cX11_dealRow 22 = .ok (.aload_n 1, 1) := by decide +kernel
theorem dX11_dealRow_23 : decode cX11_dealRow 23 = .ok (.getfield 222, 3) := by decide +kernel
theorem dX11_dealRow_26 : decode cX11_dealRow 26 = .ok (.iload_n 2, 1) := by decide +kernel
theorem dX11_dealRow_27 : decode cX11_dealRow 27 = .ok (.iaload, 1) := by decide +kernel
theorem dX11_dealRow_28 : decode cX11_dealRow 28 = .ok (.istore_n 3, 1) := by decide +kernel
theorem dX11_dealRow_29 : decode cX11_dealRow 29 = .ok (.aload_n 0, 1) := by decide +kernel
theorem dX11_dealRow_30 : decode cX11_dealRow 30 = .ok (.getfield 78, 3) := by decide +kernel
theorem dX11_dealRow_33 : decode cX11_dealRow 33 = .ok (.aload_n 0, 1) := by decide +kernel
theorem dX11_dealRow_34 : decode cX11_dealRow 34 = .ok (.getfield 37, 3) := by decide +kernel
theorem dX11_dealRow_37 : decode cX11_dealRow 37 = .ok (.iload_n 3, 1) := by decide +kernel
theorem dX11_dealRow_38 : decode cX11_dealRow 38 = .ok (.aload_n 0, 1) := by decide +kernel
theorem dX11_dealRow_39 : decode cX11_dealRow 39 = .ok (.getfield 37, 3) := by decide +kernel
theorem dX11_dealRow_42 : decode cX11_dealRow 42 = .ok (.getfield 266, 3) := by decide +kernel
theorem dX11_dealRow_45 : decode cX11_dealRow 45 = .ok (.aload_n 0, 1) := by decide +kernel
theorem dX11_dealRow_46 : decode cX11_dealRow 46 = .ok (.getfield 37, 3) := by decide +kernel
theorem dX11_dealRow_49 : decode cX11_dealRow 49 = .ok (.getfield 173, 3) := by decide +kernel
theorem dX11_dealRow_52 : decode cX11_dealRow 52 = .ok (.iload_n 3, 1) := by decide +kernel
theorem dX11_dealRow_53 : decode cX11_dealRow 53 = .ok (.iaload, 1) := by decide +kernel
theorem dX11_dealRow_54 : decode cX11_dealRow 54 = .ok (.iaload, 1) := by decide +kernel
theorem dX11_dealRow_55 : decode cX11_dealRow 55 = .ok (.aload_n 1, 1) := by decide +kernel
theorem dX11_dealRow_56 : decode cX11_dealRow 56 = .ok (.getfield 269, 3) := by decide +kernel
theorem dX11_dealRow_59 : decode cX11_dealRow 59 = .ok (.iload_n 3, 1) := by decide +kernel
theorem dX11_dealRow_60 : decode cX11_dealRow 60 = .ok (.iaload, 1) := by decide +kernel
theorem dX11_dealRow_61 : decode cX11_dealRow 61 = .ok (.iconst 2, 1) := by decide +kernel
theorem dX11_dealRow_62 : decode cX11_dealRow 62 = .ok (.idiv, 1) := by decide +kernel
theorem dX11_dealRow_63 : decode cX11_dealRow 63 = .ok (.iadd, 1) := by decide +kernel
theorem dX11_dealRow_64 : decode cX11_dealRow 64 = .ok (.invokevirtual 259, 3) := by decide +kernel
theorem dX11_dealRow_67 : decode cX11_dealRow 67 = .ok (.pop, 1) := by decide +kernel
theorem dX11_dealRow_68 : decode cX11_dealRow 68 = .ok (.iinc 2 1, 3) := by decide +kernel
theorem dX11_dealRow_71 : decode cX11_dealRow 71 = .ok (.goto (-57), 3) := by decide +kernel
theorem dX11_dealRow_74 : decode cX11_dealRow 74 = .ok (.aload_n 0, 1) := by decide +kernel
theorem dX11_dealRow_75 : decode cX11_dealRow 75 = .ok (.getfield 78, 3) := by decide +kernel
theorem dX11_dealRow_78 : decode cX11_dealRow 78 = .ok (.getfield 159, 3) := by decide +kernel
theorem dX11_dealRow_81 : decode cX11_dealRow 81 = .ok (.ireturn, 1) := by decide +kernel
set_option maxRecDepth 20000 in
theorem ggX11_share_X11_isSomebody : GoodIn wsX11_share wsX11_isSomebody := goodIn_r _ [7, 8, 9, 51, 52, 53, 54, 55, 56, 57, 58, 59, 60, 61, 62, 63, 64, 65, 66, 67, 68, 69, 70, 71, 72, 73, 74, 75, 76, 77, 78, 79, 80, 81, 82, 83, 84, 85, 86, 87] (by decide +kernel) (by decide +kernel)
set_option maxRecDepth 20000 in
theorem gX11_share_X11_isSomebody : GoodIn wsX11_share (wsV RX11 163 RX11 yX11_isSomebody wsX11_isSomebody) := goodIn_app (goodIn_of _ (by decide +kernel)) ggX11_share_X11_isSomebody
set_option maxRecDepth 20000 in
theorem ggX11_share_X11_dealsNow : GoodIn wsX11_share wsX11_dealsNow := goodIn_r _ [13, 14, 15, 16, 17, 18, 19, 20, 21, 22, 23, 24, 25, 26, 27, 28, 29, 30, 31, 32, 33, 34, 35, 36, 37, 38, 39, 51, 52, 53, 54, 55, 56, 57, 58, 59, 60, 61, 62, 63, 64, 65, 66, 67, 40, 41, 42, 43, 44, 45, 46, 47, 48, 49, 50, 88, 89, 90, 68, 69, 70, 71, 72, 73, 74, 75, 76, 77, 78, 79, 80, 81, 82, 83, 84, 85, 86, 87] rfl (by decide +kernel)
set_option maxRecDepth 20000 in
theorem gX11_share_X11_dealsNow : GoodIn wsX11_share (wsV RX11 272 RX11 yX11_dealsNow wsX11_dealsNow) := goodIn_app (goodIn_of _ (by decide +kernel)) ggX11_share_X11_dealsNow
theorem dX11_share_0 : decode cX11_share 0 = .ok (.aload_n 0, 1) := by decide +kernel
theorem dX11_share_1 : decode cX11_share 1 = .ok (.iload_n 1, 1) := by decide +kernel
theorem dX11_share_2 : decode cX11_share 2 = .ok (.invokevirtual 163, 3) := by decide +kernel
theorem dX11_share_5 : decode cX11_share 5 = .ok (.ifCond .eq 15, 3) := by decide +kernel
theorem dX11_share_8 : decode cX11_share 8 = .ok (.aload_n 0, 1) := by decide +kernel
theorem dX11_share_9 : decode cX11_share 9 = .ok (.invokevirtual 272, 3) := by decide +kernel
theorem dX11_share_12 : decode cX11_share 12 = .ok (.getfield 276, 3) := by decide +kernel
theorem dX11_share_15 : decode cX11_share 15 = .ok (.iload_n 1, 1) := by decide +kernel
theorem dX11_share_16 : decode cX11_share 16 = .ok (.iaload, 1) := by decide +kernel
theorem dX11_share_17 : decode cX11_share 17 = .ok (.goto 5, 3) := by decide +kernel
theorem dX11_share_20 : decode cX11_share 20 = .ok (.ldc 191, 2) := by decide +kernel
theorem dX11_share_22 : decode cX11_share 22 = .ok (.ireturn, 1) := by decide +kernel
set_option maxRecDepth 20000 in
theorem ggX11_money_X11_isSomebody : GoodIn wsX11_money wsX11_isSomebody := goodIn_r _ [6, 7, 8, 44, 45, 46, 47, 48, 49, 50, 51, 52, 53, 54, 55, 56, 57, 58, 59, 60, 61, 62, 63, 64, 65, 66, 67, 68, 69, 70, 71, 72, 73, 74, 75, 76, 77, 78, 79, 80] (by decide +kernel) (by decide +kernel)
set_option maxRecDepth 20000 in
theorem gX11_money_X11_isSomebody : GoodIn wsX11_money (wsV RX11 163 RX11 yX11_isSomebody wsX11_isSomebody) := goodIn_app (goodIn_of _ (by decide +kernel)) ggX11_money_X11_isSomebody
set_option maxRecDepth 20000 in
theorem ggX11_money_X11_dealsNow : GoodIn wsX11_money wsX11_dealsNow := goodIn_r _ [12, 13, 14, 15, 16, 17, 18, 19, 20, 21, 22, 23, 24, 25, 26, 27, 28, 29, 30, 31, 32, 33, 34, 35, 36, 37, 38, 44, 45, 46, 47, 48, 49, 50, 51, 52, 53, 54, 55, 56, 57, 58, 59, 60, 81, 82, 83, 84, 85, 86, 87, 88, 89, 90, 91, 92, 93, 94, 61, 62, 63, 64, 65, 66, 67, 68, 69, 70, 71, 72, 73, 74, 75, 76, 77, 78, 79, 80] rfl (by decide +kernel)
set_option maxRecDepth 20000 in
theorem gX11_money_X11_dealsNow : GoodIn wsX11_money (wsV RX11 272 RX11 yX11_dealsNow wsX11_dealsNow) := goodIn_app (goodIn_of _ (by decide +kernel)) ggX11_money_X11_dealsNow
set_option maxRecDepth 20000 in
theorem ggX11_money_X3_moneyOf : GoodIn wsX11_money wsX3_moneyOf := goodIn_r _ [42, 24, 25, 21, 30, 31, 43, 81, 82, 83, 84, 85, 86, 87, 88, 89, 90, 91, 61, 62, 63, 64, 65, 66, 67, 68, 69, 70, 71, 72, 73, 74, 75, 76, 77, 78, 79, 80] (by decide +kernel) (by decide +kernel)
set_option maxRecDepth 20000 in
theorem gX11_money_X3_moneyOf : GoodIn wsX11_money (wsV RX11 279 RX3 yX3_moneyOf wsX3_moneyOf) := goodIn_app (goodIn_of _ (by decide +kernel)) ggX11_money_X3_moneyOf
theorem dX11_money_0 : decode cX11_money 0 = .ok (.aload_n 0, 1) := by decide +kernel
theorem dX11_money_1 : decode cX11_money 1 = .ok (.iload_n 1, 1) := by decide +kernel
theorem dX11_money_2 : decode cX11_money 2 = .ok (.invokevirtual 163, 3) := by decide +kernel
theorem dX11_money_5 : decode cX11_money 5 = .ok (.ifCond .eq 14, 3) := by decide +kernel
theorem dX11_money_8 : decode cX11_money 8 = .ok (.aload_n 0, 1) := by decide +kernel
theorem dX11_money_9 : decode cX11_money 9 = .ok (.invokevirtual 272, 3) := by decide +kernel
theorem dX11_money_12 : decode cX11_money 12 = .ok (.iload_n 1, 1) := by decide +kernel
theorem dX11_money_13 : decode cX11_money 13 = .ok (.invokevirtual 279, 3) := by decide +kernel
theorem dX11_money_16 : decode cX11_money 16 = .ok (.goto 5, 3) := by decide +kernel
theorem dX11_money_19 : decode cX11_money 19 = .ok (.ldc 191, 2) := by decide +kernel
theorem dX11_money_21 : decode cX11_money 21 = .ok (.ireturn, 1) := by decide +kernel
set_option maxRecDepth 20000 in
theorem ggX11_other_X11_isSomebody : GoodIn wsX11_other wsX11_isSomebody := goodIn_r _ [6, 7, 8, 57, 58, 59, 60, 61, 62, 63, 64, 65, 66, 67, 68, 69, 70, 71, 72, 73, 74, 75, 76, 77, 78, 79, 80, 81, 82, 83, 84, 85, 86, 87, 88, 89, 90, 91, 92, 93] (by decide +kernel) (by decide +kernel)
set_option maxRecDepth 20000 in
theorem gX11_other_X11_isSomebody : GoodIn wsX11_other (wsV RX11 163 RX11 yX11_isSomebody wsX11_isSomebody) := goodIn_app (goodIn_of _ (by decide +kernel)) ggX11_other_X11_isSomebody
set_option maxRecDepth 20000 in
theorem ggX11_other_X11_dealsNow : GoodIn wsX11_other wsX11_dealsNow := goodIn_r _ [12, 13, 14, 15, 16, 17, 18, 19, 20, 21, 22, 23, 24, 25, 26, 27, 28, 29, 30, 31, 32, 33, 34, 35, 36, 37, 38, 57, 58, 59, 60, 61, 62, 63, 64, 65, 66, 67, 68, 69, 70, 71, 72, 73, 94, 95, 96, 97, 98, 99, 100, 101, 102, 103, 104, 105, 106, 107, 74, 75, 76, 77, 78, 79, 80, 81, 82, 83, 84, 85, 86, 87, 88, 89, 90, 91, 92, 93] rfl (by decide +kernel)
set_option maxRecDepth 20000 in
theorem gX11_other_X11_dealsNow : GoodIn wsX11_other (wsV RX11 272 RX11 yX11_dealsNow wsX11_dealsNow) := goodIn_app (goodIn_of _ (by decide +kernel)) ggX11_other_X11_dealsNow
set_option maxRecDepth 20000 in
theorem ggX11_other_X3_turnsTo : GoodIn wsX11_other wsX3_turnsTo := goodIn_r _ [42, 21, 26, 23, 43, 44, 45, 17, 46, 47, 24, 19, 29, 48, 38, 25, 94, 95, 96, 97, 98, 99, 100, 101, 102, 103, 104, 74, 75, 76, 77, 78, 79, 80, 81, 82, 83, 84, 85, 86, 87, 88, 89, 90, 91, 92, 93, 105, 106, 107] (by decide +kernel) (by decide +kernel)
set_option maxRecDepth 20000 in
theorem gX11_other_X3_turnsTo : GoodIn wsX11_other (wsV RX11 282 RX3 yX3_turnsTo wsX3_turnsTo) := goodIn_app (goodIn_of _ (by decide +kernel)) ggX11_other_X3_turnsTo
set_option maxRecDepth 20000 in
theorem ggX11_other_X3_elseOf : GoodIn wsX11_other wsX3_elseOf := goodIn_r _ [52, 21, 26, 23, 53, 54, 55, 56, 43, 44, 45, 17, 46, 47, 24, 19, 29, 48, 38, 25, 94, 95, 96, 97, 98, 99, 100, 101, 102, 103, 104, 74, 75, 76, 77, 78, 79, 80, 81, 82, 83, 84, 85, 86, 87, 88, 89, 90, 91, 92, 93, 105, 106, 107] (by decide +kernel) (by decide +kernel)
set_option maxRecDepth 20000 in
theorem gX11_other_X3_elseOf : GoodIn wsX11_other (wsV RX11 285 RX3 yX3_elseOf wsX3_elseOf) := goodIn_app (goodIn_of _ (by decide +kernel)) ggX11_other_X3_elseOf
theorem dX11_other_0 : decode cX11_other 0 = .ok (.aload_n 0, 1) := by decide +kernel
theorem dX11_other_1 : decode cX11_other 1 = .ok (.iload_n 1, 1) := by decide +kernel
theorem dX11_other_2 : decode cX11_other 2 = .ok (.invokevirtual 163, 3) := by decide +kernel
theorem dX11_other_5 : decode cX11_other 5 = .ok (.ifCond .ne 6, 3) := by decide +kernel
theorem dX11_other_8 : decode cX11_other 8 = .ok (.ldc 191, 2) := by decide +kernel
theorem dX11_other_10 : decode cX11_other 10 = .ok (.ireturn, 1) := by decide +kernel
theorem dX11_other_11 : decode cX11_other 11 = .ok (.iload_n 2, 1) := by decide +kernel
theorem dX11_other_12 : decode cX11_other 12 = .ok (.ifCond .eq 14, 3) := by decide +kernel
theorem dX11_other_15 : decode cX11_other 15 = .ok (.aload_n 0, 1) := by decide +kernel
theorem dX11_other_16 : decode cX11_other 16 = .ok (.invokevirtual 272, 3) := by decide +kernel
theorem dX11_other_19 : decode cX11_other 19 = .ok (.iload_n 1, 1) := by decide +kernel
theorem dX11_other_20 : decode cX11_other 20 = .ok (.invokevirtual 282, 3) := by decide +kernel
theorem dX11_other_23 : decode cX11_other 23 = .ok (.goto 11, 3) := by decide +kernel
theorem dX11_other_26 : decode cX11_other 26 = .ok (.aload_n 0, 1) := by decide +kernel
theorem dX11_other_27 : decode cX11_other 27 = .ok (.invokevirtual 272, 3) := by decide +kernel
theorem dX11_other_30 : decode cX11_other 30 = .ok (.iload_n 1, 1) := by decide +kernel
theorem dX11_other_31 : decode cX11_other 31 = .ok (.invokevirtual 285, 3) := by decide +kernel
theorem dX11_other_34 : decode cX11_other 34 = .ok (.ireturn, 1) := by decide +kernel
set_option maxRecDepth 20000 in
theorem ggX11_chain_X11_isSomebody : GoodIn wsX11_chain wsX11_isSomebody := goodIn_r _ [5, 6, 7, 52, 53, 54, 55, 56, 57, 58, 59, 60, 61, 62, 63, 64, 65, 66, 67, 68, 69, 70, 71, 72, 73, 74, 75, 76, 77, 78, 79, 80, 81, 82, 83, 84, 85, 86, 87, 88] (by decide +kernel) (by decide +kernel)
set_option maxRecDepth 20000 in
theorem gX11_chain_X11_isSomebody : GoodIn wsX11_chain (wsV RX11 163 RX11 yX11_isSomebody wsX11_isSomebody) := goodIn_app (goodIn_of _ (by decide +kernel)) ggX11_chain_X11_isSomebody
set_option maxRecDepth 20000 in
theorem ggX11_chain_X11_dealsNow : GoodIn wsX11_chain wsX11_dealsNow := goodIn_r _ [11, 12, 13, 14, 15, 16, 17, 18, 19, 20, 21, 22, 23, 24, 25, 26, 27, 28, 29, 30, 31, 32, 33, 34, 35, 36, 37, 52, 53, 54, 55, 56, 57, 58, 59, 60, 61, 62, 63, 64, 65, 66, 67, 68, 89, 90, 91, 92, 93, 94, 95, 96, 97, 98, 99, 100, 101, 102, 69, 70, 71, 72, 73, 74, 75, 76, 77, 78, 79, 80, 81, 82, 83, 84, 85, 86, 87, 88] rfl (by decide +kernel)
set_option maxRecDepth 20000 in
theorem gX11_chain_X11_dealsNow : GoodIn wsX11_chain (wsV RX11 272 RX11 yX11_dealsNow wsX11_dealsNow) := goodIn_app (goodIn_of _ (by decide +kernel)) ggX11_chain_X11_dealsNow
set_option maxRecDepth 20000 in
theorem ggX11_chain_X3_chainOf : GoodIn wsX11_chain wsX3_chainOf := goodIn_r _ [41, 20, 22, 42, 43, 44, 16, 45, 25, 46, 47, 48, 49, 50, 23, 18, 28, 51, 37, 24, 89, 90, 91, 92, 93, 94, 95, 96, 97, 98, 99, 69, 70, 71, 72, 73, 74, 75, 76, 77, 78, 79, 80, 81, 82, 83, 84, 85, 86, 87, 88, 100, 101, 102] (by decide +kernel) (by decide +kernel)
set_option maxRecDepth 20000 in
theorem gX11_chain_X3_chainOf : GoodIn wsX11_chain (wsV RX11 288 RX3 yX3_chainOf wsX3_chainOf) := goodIn_app (goodIn_of _ (by decide +kernel)) ggX11_chain_X3_chainOf
theorem dX11_chain_0 : decode cX11_chain 0 = .ok (.aload_n 0, 1) := by decide +kernel
theorem dX11_chain_1 : decode cX11_chain 1 = .ok (.iload_n 1, 1) := by decide +kernel
theorem dX11_chain_2 : decode cX11_chain 2 = .ok (.invokevirtual 163, 3) := by decide +kernel
theorem dX11_chain_5 : decode cX11_chain 5 = .ok (.ifCond .eq 19, 3) := by decide +kernel
theorem dX11_chain_8 : decode cX11_chain 8 = .ok (.iload_n 2, 1) := by decide +kernel
theorem dX11_chain_9 : decode cX11_chain 9 = .ok (.ifCond .lt 15, 3) := by decide +kernel
theorem dX11_chain_12 : decode cX11_chain 12 = .ok (.aload_n 0, 1) := by decide +kernel
theorem dX11_chain_13 : decode cX11_chain 13 = .ok (.invokevirtual 272, 3) := by decide +kernel
theorem dX11_chain_16 : decode cX11_chain 16 = .ok (.iload_n 1, 1) := by decide +kernel
theorem dX11_chain_17 : decode cX11_chain 17 = .ok (.iload_n 2, 1) := by decide +kernel
theorem dX11_chain_18 : decode cX11_chain 18 = .ok (.invokevirtual 288, 3) := by decide +kernel
theorem dX11_chain_21 : decode cX11_chain 21 = .ok (.goto 4, 3) := by decide +kernel
theorem dX11_chain_24 : decode cX11_chain 24 = .ok (.iconst (-1), 1) := by decide +kernel
theorem dX11_chain_25 : decode cX11_chain 25 = .ok (.ireturn, 1) := by decide +kernel
set_option maxRecDepth 20000 in
theorem ggX11_breaks_X11_dealsNow : GoodIn wsX11_breaks wsX11_dealsNow := goodIn_r _ [6, 1, 7, 8, 9, 10, 11, 12, 13, 14, 15, 16, 17, 18, 19, 20, 21, 22, 23, 24, 25, 26, 27, 28, 29, 30, 31, 41, 42, 43, 44, 45, 46, 47, 48, 49, 50, 51, 52, 53, 54, 55, 56, 57, 58, 59, 60, 61, 62, 63, 64, 65, 66, 67, 68, 69, 70, 71, 72, 73, 74, 75, 76, 77, 78, 79, 80, 81, 82, 83, 84, 85, 86, 87, 88, 89, 90, 91] rfl (by decide +kernel)
set_option maxRecDepth 20000 in
theorem gX11_breaks_X11_dealsNow : GoodIn wsX11_breaks (wsV RX11 272 RX11 yX11_dealsNow wsX11_dealsNow) := goodIn_app (goodIn_of _ (by decide +kernel)) ggX11_breaks_X11_dealsNow
set_option maxRecDepth 20000 in
theorem ggX11_breaks_X3_firstLone : GoodIn wsX11_breaks wsX3_firstLone := goodIn_r _ [35, 14, 16, 18, 19, 58, 59, 60, 61, 62, 63, 64, 65, 66, 67, 68, 72, 73, 74, 75, 76, 77, 78, 79, 80, 81, 82, 83, 84, 85, 86, 87, 88, 89, 90, 91] (by decide +kernel) (by decide +kernel)
set_option maxRecDepth 20000 in
theorem gX11_breaks_X3_firstLone : GoodIn wsX11_breaks (wsV RX11 291 RX3 yX3_firstLone wsX3_firstLone) := goodIn_app (goodIn_of _ (by decide +kernel)) ggX11_breaks_X3_firstLone
set_option maxRecDepth 20000 in
theorem ggX11_breaks_X3_firstShort : GoodIn wsX11_breaks wsX3_firstShort := goodIn_r _ [39, 14, 20, 23, 12, 31, 40, 17, 22, 18, 24, 58, 59, 60, 61, 62, 63, 64, 65, 66, 67, 68, 72, 73, 74, 75, 76, 77, 78, 79, 80, 81, 82, 83, 84, 85, 86, 87, 88, 89, 90, 91, 69, 70, 71] (by decide +kernel) (by decide +kernel)
set_option maxRecDepth 20000 in
theorem gX11_breaks_X3_firstShort : GoodIn wsX11_breaks (wsV RX11 294 RX3 yX3_firstShort wsX3_firstShort) := goodIn_app (goodIn_of _ (by decide +kernel)) ggX11_breaks_X3_firstShort
theorem dX11_breaks_0 : decode cX11_breaks 0 = .ok (.aload_n 0, 1) := by decide +kernel
theorem dX11_breaks_1 : decode cX11_breaks 1 = .ok (.invokevirtual 272, 3) := by decide +kernel
theorem dX11_breaks_4 : decode cX11_breaks 4 = .ok (.invokevirtual 291, 3) := by decide +kernel
theorem dX11_breaks_7 : decode cX11_breaks 7 = .ok (.istore_n 1, 1) := by decide +kernel
theorem dX11_breaks_8 : decode cX11_breaks 8 = .ok (.iload_n 1, 1) := by decide +kernel
theorem dX11_breaks_9 : decode cX11_breaks 9 = .ok (.iconst (-1), 1) := by decide +kernel
theorem dX11_breaks_10 : decode cX11_breaks 10 = .ok (.if_icmp .eq 10, 3) := by decide +kernel
theorem dX11_breaks_13 : decode cX11_breaks 13 = .ok (.bipush 100, 2) := by decide +kernel
theorem dX11_breaks_15 : decode cX11_breaks 15 = .ok (.iload_n 1, 1) := by decide +kernel
theorem dX11_breaks_16 : decode cX11_breaks 16 = .ok (.iadd, 1) := by decide +kernel
theorem dX11_breaks_17 : decode cX11_breaks 17 = .ok (.goto 11, 3) := by decide +kernel
theorem dX11_breaks_20 : decode cX11_breaks 20 = .ok (.aload_n 0, 1) := by decide +kernel
theorem dX11_breaks_21 : decode cX11_breaks 21 = .ok (.getfield 78, 3) := by decide +kernel
theorem dX11_breaks_24 : decode cX11_breaks 24 = .ok (.iconst 0, 1) := by decide +kernel
theorem dX11_breaks_25 : decode cX11_breaks 25 = .ok (.invokevirtual 294, 3) := by decide +kernel
theorem dX11_breaks_28 : decode cX11_breaks 28 = .ok (.ireturn, 1) := by decide +kernel
set_option maxRecDepth 20000 in
theorem ggX11_away_X11_dealsNow : GoodIn wsX11_away wsX11_dealsNow := goodIn_r _ [5, 6, 7, 8, 9, 10, 11, 12, 13, 14, 15, 16, 17, 18, 19, 20, 21, 22, 23, 24, 25, 26, 27, 28, 29, 30, 31, 117, 118, 119, 120, 121, 122, 123, 124, 125, 126, 127, 128, 129, 130, 131, 132, 133, 134, 135, 136, 137, 138, 139, 140, 141, 142, 143, 144, 145, 146, 147, 148, 149, 150, 151, 152, 153, 154, 155, 156, 157, 158, 159, 160, 161, 162, 163, 164, 165, 166, 167] rfl (by decide +kernel)
set_option maxRecDepth 20000 in
theorem gX11_away_X11_dealsNow : GoodIn wsX11_away (wsV RX11 272 RX11 yX11_dealsNow wsX11_dealsNow) := goodIn_app (goodIn_of _ (by decide +kernel)) ggX11_away_X11_dealsNow
set_option maxRecDepth 20000 in
theorem ggX11_away_X11_planNow : GoodIn wsX11_away wsX11_planNow := goodIn_r _ [35, 36, 37, 38, 39, 40, 41, 42, 43, 44, 45, 46, 47, 48, 49, 50, 51, 52, 53, 54, 55, 56, 57, 58, 59, 60, 61, 62, 63, 64, 65, 66, 67, 68, 69, 70, 71, 72, 73, 74, 75, 76, 77, 78, 79, 80, 81, 82, 83, 84, 85, 86, 87, 88, 89, 90, 91, 92, 93, 94, 95, 96, 97, 98, 99, 100, 101, 102, 103, 104, 105, 106, 107, 117, 118, 119, 120, 121, 122, 123, 124, 125, 126, 127, 128, 129, 130, 131, 132, 133, 168, 169, 170, 171, 172, 173, 174, 175, 176, 177, 178, 145, 146, 147, 148, 149, 150, 151, 152, 153, 154, 155, 156, 157, 158, 159, 160, 161, 162, 163, 164, 165, 166, 167] rfl (by decide +kernel)
set_option maxRecDepth 20000 in
theorem gX11_away_X11_planNow : GoodIn wsX11_away (wsV RX11 206 RX11 yX11_planNow wsX11_planNow) := goodIn_app (goodIn_of _ (by decide +kernel)) ggX11_away_X11_planNow
set_option maxRecDepth 20000 in
theorem ggX11_away_X3_leastAway : GoodIn wsX11_away wsX3_leastAway := goodIn_r _ [111, 14, 16, 19, 18, 112, 100, 101, 69, 102, 103, 113, 114, 115, 41, 116, 83, 134, 135, 136, 137, 138, 139, 140, 141, 142, 143, 144, 148, 149, 150, 151, 152, 153, 154, 155, 156, 157, 158, 159, 160, 161, 162, 163, 164, 165, 166, 167, 168, 169, 170, 171, 172, 173, 174, 175, 176, 177, 178] (by decide +kernel) (by decide +kernel)
set_option maxRecDepth 20000 in
theorem gX11_away_X3_leastAway : GoodIn wsX11_away (wsV RX11 297 RX3 yX3_leastAway wsX3_leastAway) := goodIn_app (goodIn_of _ (by decide +kernel)) ggX11_away_X3_leastAway
theorem dX11_away_0 : decode cX11_away 0 = .ok (.aload_n 0, 1) := by decide +kernel
theorem dX11_away_1 : decode cX11_away 1 = .ok (.invokevirtual 272, 3) := by decide +kernel
theorem dX11_away_4 : decode cX11_away 4 = .ok (.aload_n 0, 1) := by decide +kernel
theorem dX11_away_5 : decode cX11_away 5 = .ok (.invokevirtual 206, 3) := by decide +kernel
theorem dX11_away_8 : decode cX11_away 8 = .ok (.invokevirtual 297, 3) := by decide +kernel
theorem dX11_away_11 : decode cX11_away 11 = .ok (.ireturn, 1) := by decide +kernel
set_option maxRecDepth 20000 in
theorem ggX11_uneven_X11_dealsNow : GoodIn wsX11_uneven wsX11_dealsNow := goodIn_r _ [5, 6, 7, 8, 9, 10, 11, 12, 13, 14, 15, 16, 17, 18, 19, 20, 21, 22, 23, 24, 25, 26, 27, 28, 29, 30, 31, 58, 59, 60, 61, 62, 63, 64, 65, 66, 67, 68, 69, 70, 71, 72, 73, 74, 75, 76, 77, 78, 79, 80, 81, 82, 83, 84, 85, 86, 87, 88, 89, 90, 91, 92, 93, 94, 95, 96, 97, 98, 99, 100, 101, 102, 103, 104, 105, 106, 107, 108] rfl (by decide +kernel)
set_option maxRecDepth 20000 in
theorem gX11_uneven_X11_dealsNow : GoodIn wsX11_uneven (wsV RX11 272 RX11 yX11_dealsNow wsX11_dealsNow) := goodIn_app (goodIn_of _ (by decide +kernel)) ggX11_uneven_X11_dealsNow
set_option maxRecDepth 20000 in
theorem ggX11_uneven_X3_firstUneven : GoodIn wsX11_uneven wsX3_firstUneven := goodIn_r _ [35, 15, 25, 26, 36, 37, 38, 10, 39, 14, 23, 12, 31, 24, 40, 41, 42, 43, 19, 16, 44, 45, 46, 47, 48, 49, 50, 51, 52, 17, 22, 53, 18, 54, 55, 56, 57, 75, 76, 77, 78, 79, 80, 81, 82, 83, 84, 85, 89, 90, 91, 92, 93, 94, 95, 96, 97, 98, 99, 100, 101, 102, 103, 104, 105, 106, 107, 108, 86, 87, 88] rfl (by decide +kernel)
set_option maxRecDepth 20000 in
theorem gX11_uneven_X3_firstUneven : GoodIn wsX11_uneven (wsV RX11 301 RX3 yX3_firstUneven wsX3_firstUneven) := goodIn_app (goodIn_of _ (by decide +kernel)) ggX11_uneven_X3_firstUneven
theorem dX11_uneven_0 : decode cX11_uneven 0 = .ok (.aload_n 0, 1) := by decide +kernel
theorem dX11_uneven_1 : decode cX11_uneven 1 = .ok (.invokevirtual 272, 3) := by decide +kernel
theorem dX11_uneven_4 : decode cX11_uneven 4 = .ok (.invokevirtual 301, 3) := by decide +kernel
theorem dX11_uneven_7 : decode cX11_uneven 7 = .ok (.ireturn, 1) := by decide +kernel
set_option maxRecDepth 20000 in
theorem ggX11_haggle_X11_dealsNow : GoodIn wsX11_haggle wsX11_dealsNow := goodIn_r _ [8, 1, 9, 10, 11, 12, 13, 14, 15, 16, 17, 18, 19, 20, 21, 22, 23, 24, 25, 26, 27, 28, 29, 30, 31, 32, 33, 79, 80, 81, 82, 83, 84, 85, 86, 87, 88, 89, 90, 91, 92, 93, 94, 95, 96, 97, 98, 99, 100, 101, 102, 103, 104, 105, 106, 107, 108, 109, 110, 111, 112, 113, 114, 115, 116, 117, 118, 119, 120, 121, 122, 123, 124, 125, 126, 127, 128, 129] rfl (by decide +kernel)
set_option maxRecDepth 20000 in
theorem gX11_haggle_X11_dealsNow : GoodIn wsX11_haggle (wsV RX11 272 RX11 yX11_dealsNow wsX11_dealsNow) := goodIn_app (goodIn_of _ (by decide +kernel)) ggX11_haggle_X11_dealsNow
set_option maxRecDepth 20000 in
theorem ggX11_haggle_X3_turnRounds : GoodIn wsX11_haggle wsX3_turnRounds := goodIn_r _ [37, 38, 39, 40, 41, 12, 42, 17, 43, 27, 28, 44, 45, 46, 47, 48, 49, 50, 51, 52, 53, 54, 55, 56, 57, 58, 59, 60, 16, 25, 14, 33, 26, 61, 62, 63, 64, 21, 18, 65, 66, 67, 68, 69, 19, 24, 70, 20, 71, 72, 73, 74, 29, 30, 31, 32, 75, 76, 77, 78, 96, 97, 98, 99, 100, 101, 102, 103, 104, 105, 106, 110, 111, 112, 113, 114, 115, 116, 117, 118, 119, 120, 121, 122, 123, 124, 125, 126, 127, 128, 129, 107, 108, 109] rfl (by decide +kernel)
set_option maxRecDepth 20000 in
theorem gX11_haggle_X3_turnRounds : GoodIn wsX11_haggle (wsV RX11 304 RX3 yX3_turnRounds wsX3_turnRounds) := goodIn_app (goodIn_of _ (by decide +kernel)) ggX11_haggle_X3_turnRounds
theorem dX11_haggle_0 : decode cX11_haggle 0 = .ok (.iload_n 1, 1) := by decide +kernel
theorem dX11_haggle_1 : decode cX11_haggle 1 = .ok (.iconst 1, 1) := by decide +kernel
theorem dX11_haggle_2 : decode cX11_haggle 2 = .ok (.if_icmp .lt 10, 3) := by decide +kernel
theorem dX11_haggle_5 : decode cX11_haggle 5 = .ok (.iload_n 1, 1) := by decide +kernel
theorem dX11_haggle_6 : decode cX11_haggle 6 = .ok (.sipush 1000, 3) := by decide +kernel
theorem dX11_haggle_9 : decode cX11_haggle 9 = .ok (.if_icmp .le 5, 3) := by decide +kernel
theorem dX11_haggle_12 : decode cX11_haggle 12 = .ok (.iconst (-1), 1) := by decide +kernel
theorem dX11_haggle_13 : decode cX11_haggle 13 = .ok (.ireturn, 1) := by decide +kernel
theorem dX11_haggle_14 : decode cX11_haggle 14 = .ok (.aload_n 0, 1) := by decide +kernel
theorem dX11_haggle_15 : decode cX11_haggle 15 = .ok (.invokevirtual 272, 3) := by decide +kernel
theorem dX11_haggle_18 : decode cX11_haggle 18 = .ok (.iload_n 1, 1) := by decide +kernel
theorem dX11_haggle_19 : decode cX11_haggle 19 = .ok (.invokevirtual 304, 3) := by decide +kernel
theorem dX11_haggle_22 : decode cX11_haggle 22 = .ok (.istore_n 2, 1) := by decide +kernel
theorem dX11_haggle_23 : decode cX11_haggle 23 = .ok (.aload_n 0, 1) := by decide +kernel
theorem dX11_haggle_24 : decode cX11_haggle 24 = .ok (.aload_n 0, 1) := by decide +kernel
theorem dX11_haggle_25 : decode cX11_haggle 25 = .ok (.getfield 78, 3) := by decide +kernel
theorem dX11_haggle_28 : decode cX11_haggle 28 = .ok (.getfield 307, 3) := by decide +kernel
theorem dX11_haggle_31 : decode cX11_haggle 31 = .ok (.putfield 96, 3) := by decide +kernel
theorem dX11_haggle_34 : decode cX11_haggle 34 = .ok (.aload_n 0, 1) := by decide +kernel
theorem dX11_haggle_35 : decode cX11_haggle 35 = .ok (.getfield 96, 3) := by decide +kernel
theorem dX11_haggle_38 : decode cX11_haggle 38 = .ok (.iconst 2, 1) := by decide +kernel
theorem dX11_haggle_39 : decode cX11_haggle 39 = .ok (.if_icmp .ne 10, 3) := by decide +kernel
theorem dX11_haggle_42 : decode cX11_haggle 42 = .ok (.bipush (-2), 2) := by decide +kernel
theorem dX11_haggle_44 : decode cX11_haggle 44 = .ok (.iload_n 2, 1) := by decide +kernel
theorem dX11_haggle_45 : decode cX11_haggle 45 = .ok (.isub, 1) := by decide +kernel
theorem dX11_haggle_46 : decode cX11_haggle 46 = .ok (.goto 4, 3) := by decide +kernel
theorem dX11_haggle_49 : decode cX11_haggle 49 = .ok (.iload_n 2, 1) := by decide +kernel
theorem dX11_haggle_50 : decode cX11_haggle 50 = .ok (.ireturn, 1) := by decide +kernel
theorem dX11_ended_0 : decode cX11_ended 0 = .ok (.aload_n 0, 1) := by decide +kernel
theorem dX11_ended_1 : decode cX11_ended 1 = .ok (.getfield 96, 3) := by decide +kernel
theorem dX11_ended_4 : decode cX11_ended 4 = .ok (.ireturn, 1) := by decide +kernel
set_option maxRecDepth 20000 in
theorem ggX11_gift_X11_dealsNow : GoodIn wsX11_gift wsX11_dealsNow := goodIn_r _ [6, 7, 8, 9, 10, 11, 12, 13, 14, 15, 16, 17, 18, 19, 20, 21, 22, 23, 24, 25, 26, 27, 28, 29, 30, 31, 32, 86, 87, 88, 89, 90, 91, 92, 93, 94, 95, 96, 97, 98, 99, 100, 101, 102, 103, 104, 105, 106, 107, 108, 109, 110, 111, 112, 113, 114, 115, 116, 117, 118, 119, 120, 121, 122, 123, 124, 125, 126, 127, 128, 129, 130, 131, 132, 133, 134, 135, 136] rfl (by decide +kernel)
set_option maxRecDepth 20000 in
theorem gX11_gift_X11_dealsNow : GoodIn wsX11_gift (wsV RX11 272 RX11 yX11_dealsNow wsX11_dealsNow) := goodIn_app (goodIn_of _ (by decide +kernel)) ggX11_gift_X11_dealsNow
set_option maxRecDepth 20000 in
theorem ggX11_gift_X3_twiceGift : GoodIn wsX11_gift wsX3_twiceGift := goodIn_r _ [36, 15, 17, 19, 21, 24, 25, 13, 23, 32, 37, 38, 39, 40, 41, 42, 43, 44, 45, 46, 47, 48, 49, 50, 51, 52, 53, 54, 55, 56, 57, 11, 58, 20, 59, 60, 61, 62, 63, 64, 65, 66, 67, 68, 69, 70, 71, 72, 73, 74, 75, 76, 77, 78, 79, 80, 81, 82, 83, 84, 85, 103, 104, 105, 106, 107, 108, 109, 110, 111, 112, 113, 117, 118, 119, 120, 121, 122, 123, 124, 125, 126, 127, 128, 129, 130, 131, 132, 133, 134, 135, 136, 114, 115, 116, 137, 138, 139, 140, 141, 142, 143, 144] rfl (by decide +kernel)
set_option maxRecDepth 20000 in
theorem gX11_gift_X3_twiceGift : GoodIn wsX11_gift (wsV RX11 308 RX3 yX3_twiceGift wsX3_twiceGift) := goodIn_app (goodIn_of _ (by decide +kernel)) ggX11_gift_X3_twiceGift
theorem dX11_gift_0 : decode cX11_gift 0 = .ok (.aload_n 0, 1) := by decide +kernel
theorem dX11_gift_1 : decode cX11_gift 1 = .ok (.invokevirtual 272, 3) := by decide +kernel
theorem dX11_gift_4 : decode cX11_gift 4 = .ok (.aload_n 0, 1) := by decide +kernel
theorem dX11_gift_5 : decode cX11_gift 5 = .ok (.getfield 53, 3) := by decide +kernel
theorem dX11_gift_8 : decode cX11_gift 8 = .ok (.invokevirtual 308, 3) := by decide +kernel
theorem dX11_gift_11 : decode cX11_gift 11 = .ok (.ireturn, 1) := by decide +kernel
set_option maxRecDepth 20000 in
theorem ggX11_surely_X11_dealsNow : GoodIn wsX11_surely wsX11_dealsNow := goodIn_r _ [6, 1, 7, 8, 9, 10, 11, 12, 13, 14, 15, 16, 17, 18, 19, 20, 21, 22, 23, 24, 25, 26, 27, 28, 29, 30, 31, 41, 42, 43, 44, 45, 46, 47, 48, 49, 50, 51, 52, 53, 54, 55, 56, 57, 58, 59, 60, 61, 62, 63, 64, 65, 66, 67, 68, 69, 70, 71, 72, 73, 74, 75, 76, 77, 78, 79, 80, 81, 82, 83, 84, 85, 86, 87, 88, 89, 90, 91] rfl (by decide +kernel)
set_option maxRecDepth 20000 in
theorem gX11_surely_X11_dealsNow : GoodIn wsX11_surely (wsV RX11 272 RX11 yX11_dealsNow wsX11_dealsNow) := goodIn_app (goodIn_of _ (by decide +kernel)) ggX11_surely_X11_dealsNow
set_option maxRecDepth 20000 in
theorem ggX11_surely_X3_firstLone : GoodIn wsX11_surely wsX3_firstLone := goodIn_r _ [35, 14, 16, 18, 19, 58, 59, 60, 61, 62, 63, 64, 65, 66, 67, 68, 72, 73, 74, 75, 76, 77, 78, 79, 80, 81, 82, 83, 84, 85, 86, 87, 88, 89, 90, 91] (by decide +kernel) (by decide +kernel)
set_option maxRecDepth 20000 in
theorem gX11_surely_X3_firstLone : GoodIn wsX11_surely (wsV RX11 291 RX3 yX3_firstLone wsX3_firstLone) := goodIn_app (goodIn_of _ (by decide +kernel)) ggX11_surely_X3_firstLone
set_option maxRecDepth 20000 in
theorem ggX11_surely_X3_firstShort : GoodIn wsX11_surely wsX3_firstShort := goodIn_r _ [39, 14, 20, 23, 12, 31, 40, 17, 22, 18, 24, 58, 59, 60, 61, 62, 63, 64, 65, 66, 67, 68, 72, 73, 74, 75, 76, 77, 78, 79, 80, 81, 82, 83, 84, 85, 86, 87, 88, 89, 90, 91, 69, 70, 71] (by decide +kernel) (by decide +kernel)
set_option maxRecDepth 20000 in
theorem gX11_surely_X3_firstShort : GoodIn wsX11_surely (wsV RX11 294 RX3 yX3_firstShort wsX3_firstShort) := goodIn_app (goodIn_of _ (by decide +kernel)) ggX11_surely_X3_firstShort
theorem dX11_surely_0 : decode cX11_surely 0 = .ok (.aload_n 0, 1) := by decide +kernel
theorem dX11_surely_1 : decode cX11_surely 1 = .ok (.invokevirtual 272, 3) := by decide +kernel
theorem dX11_surely_4 : decode cX11_surely 4 = .ok (.invokevirtual 291, 3) := by decide +kernel
theorem dX11_surely_7 : decode cX11_surely 7 = .ok (.iconst (-1), 1) := by decide +kernel
theorem dX11_surely_8 : decode cX11_surely 8 = .ok (.if_icmp .eq 5, 3) := by decide +kernel
theorem dX11_surely_11 : decode cX11_surely 11 = .ok (.iconst 0, 1) := by decide +kernel
theorem dX11_surely_12 : decode cX11_surely 12 = .ok (.ireturn, 1) := by decide +kernel
theorem dX11_surely_13 : decode cX11_surely 13 = .ok (.aload_n 0, 1) := by decide +kernel
theorem dX11_surely_14 : decode cX11_surely 14 = .ok (.getfield 78, 3) := by decide +kernel
theorem dX11_surely_17 : decode cX11_surely 17 = .ok (.iconst 1, 1) := by decide +kernel
theorem dX11_surely_18 : decode cX11_surely 18 = .ok (.invokevirtual 294, 3) := by decide +kernel
theorem dX11_surely_21 : decode cX11_surely 21 = .ok (.iconst (-1), 1) := by decide +kernel
theorem dX11_surely_22 : decode cX11_surely 22 = .ok (.if_icmp .ne 5, 3) := by decide +kernel
theorem dX11_surely_25 : decode cX11_surely 25 = .ok (.iconst 2, 1) := by decide +kernel
theorem dX11_surely_26 : decode cX11_surely 26 = .ok (.ireturn, 1) := by decide +kernel
theorem dX11_surely_27 : decode cX11_surely 27 = .ok (.aload_n 0, 1) := by decide +kernel
theorem dX11_surely_28 : decode cX11_surely 28 = .ok (.getfield 78, 3) := by decide +kernel
theorem dX11_surely_31 : decode cX11_surely 31 = .ok (.iconst (-1), 1) := by decide +kernel
theorem dX11_surely_32 : decode cX11_surely 32 = .ok (.invokevirtual 294, 3) := by decide +kernel
theorem dX11_surely_35 : decode cX11_surely 35 = .ok (.iconst (-1), 1) := by decide +kernel
theorem dX11_surely_36 : decode cX11_surely 36 = .ok (.if_icmp .ne 7, 3) := by decide +kernel
theorem dX11_surely_39 : decode cX11_surely 39 = .ok (.iconst 1, 1) := by decide +kernel
theorem dX11_surely_40 : decode cX11_surely 40 = .ok (.goto 4, 3) := by decide +kernel
theorem dX11_surely_43 : decode cX11_surely 43 = .ok (.iconst 0, 1) := by decide +kernel
theorem dX11_surely_44 : decode cX11_surely 44 = .ok (.ireturn, 1) := by decide +kernel
set_option maxRecDepth 20000 in
theorem ggX11_image_X4_write : GoodIn wsX11_image wsX4_write := goodIn_r _ [9, 10, 11, 12, 13, 14, 15, 16, 17, 18, 19, 20, 21, 22, 23, 24, 25, 26, 27, 28, 29, 30, 31, 32, 33, 34, 35, 36, 37, 38, 39, 40, 41, 42, 43, 44, 45, 46, 47, 65, 66, 67, 68, 69, 70, 71, 72, 73, 74, 75, 76, 77, 78, 79, 80, 81, 82, 83, 84, 85, 86, 87, 88, 89, 90, 91, 92, 93, 94, 95, 96, 97, 98, 99, 100, 101] rfl (by decide +kernel)
set_option maxRecDepth 20000 in
theorem gX11_image_X4_write : GoodIn wsX11_image (wsV RX11 312 RX4 yX4_write wsX4_write) := goodIn_app (goodIn_of _ (by decide +kernel)) ggX11_image_X4_write
theorem dX11_image_0 : decode cX11_image 0 = .ok (.aload_n 0, 1) := by decide +kernel
theorem dX11_image_1 : decode cX11_image 1 = .ok (.getfield 85, 3) := by decide +kernel
theorem dX11_image_4 : decode cX11_image 4 = .ok (.aload_n 0, 1) := by decide +kernel
theorem dX11_image_5 : decode cX11_image 5 = .ok (.getfield 37, 3) := by decide +kernel
theorem dX11_image_8 : decode cX11_image 8 = .ok (.aload_n 0, 1) := by decide +kernel
theorem dX11_image_9 : decode cX11_image 9 = .ok (.getfield 160, 3) := by decide +kernel
theorem dX11_image_12 : decode cX11_image 12 = .ok (.aload_n 0, 1) := by decide +kernel
theorem dX11_image_13 : decode cX11_image 13 = .ok (.getfield 78, 3) := by decide +kernel
theorem dX11_image_16 : decode cX11_image 16 = .ok (.invokevirtual 312, 3) := by decide +kernel
theorem dX11_image_19 : decode cX11_image 19 = .ok (.ireturn, 1) := by decide +kernel
set_option maxRecDepth 20000 in
theorem ggX11_octet_X2_at : GoodIn wsX11_octet wsX2_at := goodIn_r _ [7, 8, 9, 31, 32] (by decide +kernel) (by decide +kernel)
set_option maxRecDepth 20000 in
theorem gX11_octet_X2_at : GoodIn wsX11_octet (wsV RX11 319 RX2 yX2_at wsX2_at) := goodIn_app (goodIn_of _ (by decide +kernel)) ggX11_octet_X2_at
theorem dX11_octet_0 : decode cX11_octet 0 = .ok (.aload_n 0, 1) := by decide +kernel
theorem dX11_octet_1 : decode cX11_octet 1 = .ok (.getfield 85, 3) := by decide +kernel
theorem dX11_octet_4 : decode cX11_octet 4 = .ok (.getfield 316, 3) := by decide +kernel
theorem dX11_octet_7 : decode cX11_octet 7 = .ok (.iload_n 1, 1) := by decide +kernel
theorem dX11_octet_8 : decode cX11_octet 8 = .ok (.invokevirtual 319, 3) := by decide +kernel
theorem dX11_octet_11 : decode cX11_octet 11 = .ok (.ireturn, 1) := by decide +kernel
set_option maxRecDepth 20000 in
theorem ggX11_on_X4_read : GoodIn wsX11_on wsX4_read := goodIn_r _ [13, 14, 15, 16, 17, 18, 19, 20, 21, 22, 23, 24, 25, 26, 27, 28, 29, 30, 31, 32, 33, 34, 12, 35, 36, 37, 38, 39, 40, 41, 42, 43, 44, 45, 46, 47, 48, 49, 50, 51, 52, 53, 54, 55, 56, 181, 182, 183, 184, 185, 186, 187, 188, 189, 190, 191, 192, 193, 194, 195, 196, 197, 198, 199, 200, 177, 178, 179, 180, 201, 202] rfl (by decide +kernel)
set_option maxRecDepth 20000 in
theorem gX11_on_X4_read : GoodIn wsX11_on (wsV RX11 322 RX4 yX4_read wsX4_read) := goodIn_app (goodIn_of _ (by decide +kernel)) ggX11_on_X4_read
set_option maxRecDepth 20000 in
theorem ggX11_on_X2_cut : GoodIn wsX11_on wsX2_cut := goodIn_r _ [60, 21, 201, 202] (by decide +kernel) (by decide +kernel)
set_option maxRecDepth 20000 in
theorem gX11_on_X2_cut : GoodIn wsX11_on (wsV RX11 114 RX2 yX2_cut wsX2_cut) := goodIn_app (goodIn_of _ (by decide +kernel)) ggX11_on_X2_cut
set_option maxRecDepth 20000 in
theorem ggX11_on_X3_become : GoodIn wsX11_on wsX3_become := goodIn_r _ [65, 66, 67, 68, 64, 69, 70, 71, 72, 73, 74, 75, 76, 203, 204, 205, 206, 207, 208, 209, 210, 211, 212, 213] (by decide +kernel) (by decide +kernel)
set_option maxRecDepth 20000 in
theorem gX11_on_X3_become : GoodIn wsX11_on (wsV RX11 332 RX3 yX3_become wsX3_become) := goodIn_app (goodIn_of _ (by decide +kernel)) ggX11_on_X3_become
set_option maxRecDepth 20000 in
theorem ggX11_on_X11_lookAgain : GoodIn wsX11_on wsX11_lookAgain := goodIn_r _ [81, 82, 3, 83, 84, 85, 5, 86, 87, 88, 89, 90, 91, 92, 93, 94, 95, 96, 97, 98, 99, 100, 101, 102, 103, 104, 105, 106, 107, 108, 109, 110, 111, 48, 112, 113, 114, 115, 116, 117, 118, 119, 120, 121, 122, 123, 124, 125, 126, 127, 128, 129, 130, 131, 132, 133, 134, 135, 136, 137, 138, 139, 140, 141, 142, 143, 144, 145, 146, 147, 148, 149, 150, 151, 152, 153, 154, 155, 156, 157, 158, 50, 51, 159, 160, 161, 162, 163, 164, 165, 166, 167, 168, 169, 170, 171, 172, 173, 174, 175, 176, 214, 215, 216, 217, 218, 219, 220, 181, 182, 183, 184, 185, 186, 187, 188, 189, 190, 191, 192, 193, 194, 195, 196, 197, 198, 199, 200] rfl (by decide +kernel)
set_option maxRecDepth 20000 in
theorem gX11_on_X11_lookAgain : GoodIn wsX11_on (wsV RX11 138 RX11 yX11_lookAgain wsX11_lookAgain) := goodIn_app (goodIn_of _ (by decide +kernel)) ggX11_on_X11_lookAgain
theorem dX11_on_0 : decode cX11_on 0 = .ok (.aload_n 0, 1) := by decide +kernel
theorem dX11_on_1 : decode cX11_on 1 = .ok (.getfield 85, 3) := by decide +kernel
theorem dX11_on_4 : decode cX11_on 4 = .ok (.aload_n 0, 1) := by decide +kernel
theorem dX11_on_5 : decode cX11_on 5 = .ok (.getfield 14, 3) := by decide +kernel
theorem dX11_on_8 : decode cX11_on 8 = .ok (.aload_n 0, 1) := by decide +kernel
theorem dX11_on_9 : decode cX11_on 9 = .ok (.getfield 37, 3) := by decide +kernel
theorem dX11_on_12 : decode cX11_on 12 = .ok (.invokevirtual 322, 3) := by decide +kernel
theorem dX11_on_15 : decode cX11_on 15 = .ok (.istore_n 1, 1) := by decide +kernel
theorem dX11_on_16 : decode cX11_on 16 = .ok (.aload_n 0, 1) := by decide +kernel
theorem dX11_on_17 : decode cX11_on 17 = .ok (.getfield 14, 3) := by decide +kernel
theorem dX11_on_20 : decode cX11_on 20 = .ok (.iconst 0, 1) := by decide +kernel
theorem dX11_on_21 : decode cX11_on 21 = .ok (.invokevirtual 114, 3) := by decide +kernel
theorem dX11_on_24 : decode cX11_on 24 = .ok (.pop, 1) := by decide +kernel
theorem dX11_on_25 : decode cX11_on 25 = .ok (.iload_n 1, 1) := by decide +kernel
theorem dX11_on_26 : decode cX11_on 26 = .ok (.ifCond .ne 5, 3) := by decide +kernel
theorem dX11_on_29 : decode cX11_on 29 = .ok (.iconst 0, 1) := by decide +kernel
theorem dX11_on_30 : decode cX11_on 30 = .ok (.ireturn, 1) := by decide +kernel
theorem dX11_on_31 : decode cX11_on 31 = .ok (.aload_n 0, 1) := by decide +kernel
theorem dX11_on_32 : decode cX11_on 32 = .ok (.aload_n 0, 1) := by decide +kernel
theorem dX11_on_33 : decode cX11_on 33 = .ok (.getfield 85, 3) := by decide +kernel
theorem dX11_on_36 : decode cX11_on 36 = .ok (.getfield 325, 3) := by decide +kernel
theorem dX11_on_39 : decode cX11_on 39 = .ok (.putfield 160, 3) := by decide +kernel
theorem dX11_on_42 : decode cX11_on 42 = .ok (.aload_n 0, 1) := by decide +kernel
theorem dX11_on_43 : decode cX11_on 43 = .ok (.getfield 78, 3) := by decide +kernel
theorem dX11_on_46 : decode cX11_on 46 = .ok (.aload_n 0, 1) := by decide +kernel
theorem dX11_on_47 : decode cX11_on 47 = .ok (.getfield 85, 3) := by decide +kernel
theorem dX11_on_50 : decode cX11_on 50 = .ok (.getfield 328, 3) := by decide +kernel
theorem dX11_on_53 : decode cX11_on 53 = .ok (.aload_n 0, 1) := by decide +kernel
theorem dX11_on_54 : decode cX11_on 54 = .ok (.getfield 85, 3) := by decide +kernel
theorem dX11_on_57 : decode cX11_on 57 = .ok (.getfield 331, 3) := by decide +kernel
theorem dX11_on_60 : decode cX11_on 60 = .ok (.invokevirtual 332, 3) := by decide +kernel
theorem dX11_on_63 : decode cX11_on 63 = .ok (.aload_n 0, 1) := by decide +kernel
theorem dX11_on_64 : decode cX11_on 64 = .ok (.invokevirtual 138, 3) := by decide +kernel
theorem dX11_on_67 : decode cX11_on 67 = .ok (.iconst 1, 1) := by decide +kernel
theorem dX11_on_68 : decode cX11_on 68 = .ok (.ireturn, 1) := by decide +kernel
theorem dX11_isSomebody_0 : decode cX11_isSomebody 0 = .ok (.iload_n 1, 1) := by decide +kernel
theorem dX11_isSomebody_1 : decode cX11_isSomebody 1 = .ok (.ifCond .lt 18, 3) := by decide +kernel
theorem dX11_isSomebody_4 : decode cX11_isSomebody 4 = .ok (.iload_n 1, 1) := by decide +kernel
theorem dX11_isSomebody_5 : decode cX11_isSomebody 5 = .ok (.aload_n 0, 1) := by decide +kernel
theorem dX11_isSomebody_6 : decode cX11_isSomebody 6 = .ok (.getfield 37, 3) := by decide +kernel
theorem dX11_isSomebody_9 : decode cX11_isSomebody 9 = .ok (.getfield 144, 3) := by decide +kernel
theorem dX11_isSomebody_12 : decode cX11_isSomebody 12 = .ok (.if_icmp .ge 7, 3) := by decide +kernel
theorem dX11_isSomebody_15 : decode cX11_isSomebody 15 = .ok (.iconst 1, 1) := by decide +kernel
theorem dX11_isSomebody_16 : decode cX11_isSomebody 16 = .ok (.goto 4, 3) := by decide +kernel
theorem dX11_isSomebody_19 : decode cX11_isSomebody 19 = .ok (.iconst 0, 1) := by decide +kernel
theorem dX11_isSomebody_20 : decode cX11_isSomebody 20 = .ok (.ireturn, 1) := by decide +kernel
theorem dX11_isRoad_0 : decode cX11_isRoad 0 = .ok (.iload_n 1, 1) := by decide +kernel
theorem dX11_isRoad_1 : decode cX11_isRoad 1 = .ok (.ifCond .lt 18, 3) := by decide +kernel
theorem dX11_isRoad_4 : decode cX11_isRoad 4 = .ok (.iload_n 1, 1) := by decide +kernel
theorem dX11_isRoad_5 : decode cX11_isRoad 5 = .ok (.aload_n 0, 1) := by decide +kernel
theorem dX11_isRoad_6 : decode cX11_isRoad 6 = .ok (.getfield 37, 3) := by decide +kernel
theorem dX11_isRoad_9 : decode cX11_isRoad 9 = .ok (.getfield 147, 3) := by decide +kernel
theorem dX11_isRoad_12 : decode cX11_isRoad 12 = .ok (.if_icmp .ge 7, 3) := by decide +kernel
theorem dX11_isRoad_15 : decode cX11_isRoad 15 = .ok (.iconst 1, 1) := by decide +kernel
theorem dX11_isRoad_16 : decode cX11_isRoad 16 = .ok (.goto 4, 3) := by decide +kernel
theorem dX11_isRoad_19 : decode cX11_isRoad 19 = .ok (.iconst 0, 1) := by decide +kernel
theorem dX11_isRoad_20 : decode cX11_isRoad 20 = .ok (.ireturn, 1) := by decide +kernel
set_option maxRecDepth 20000 in
theorem ggX11_lookAgain_X10_look : GoodIn wsX11_lookAgain wsX10_look := goodIn_r _ [12, 13, 14, 15, 16, 17, 18, 19, 20, 21, 22, 23, 24, 25, 26, 27, 28, 29, 30, 31, 32, 33, 34, 35, 36, 37, 38, 39, 40, 41, 42, 43, 44, 45, 46, 47, 48, 49, 50, 51, 52, 53, 54, 55, 56, 57, 58, 59, 60, 61, 62, 63, 64, 65, 66, 67, 68, 69, 70, 71, 72, 73, 74, 75, 76, 77, 78, 79, 80, 81, 82, 83, 105, 106, 107, 108, 109, 110, 111, 112, 113, 114, 115, 116, 117, 118, 119, 120, 121, 122, 123, 124, 125, 126, 127, 101, 102, 103, 104] rfl (by decide +kernel)
set_option maxRecDepth 20000 in
theorem gX11_lookAgain_X10_look : GoodIn wsX11_lookAgain (wsV RX11 336 RX10 yX10_look wsX10_look) := goodIn_app (goodIn_of _ (by decide +kernel)) ggX11_lookAgain_X10_look
theorem dX11_lookAgain_0 : decode cX11_lookAgain 0 = .ok (.aload_n 0, 1) := by decide +kernel
theorem dX11_lookAgain_1 : decode cX11_lookAgain 1 = .ok (.getfield 46, 3) := by decide +kernel
theorem dX11_lookAgain_4 : decode cX11_lookAgain 4 = .ok (.aload_n 0, 1) := by decide +kernel
theorem dX11_lookAgain_5 : decode cX11_lookAgain 5 = .ok (.getfield 37, 3) := by decide +kernel
theorem dX11_lookAgain_8 : decode cX11_lookAgain 8 = .ok (.aload_n 0, 1) := by decide +kernel
theorem dX11_lookAgain_9 : decode cX11_lookAgain 9 = .ok (.getfield 30, 3) := by decide +kernel
theorem dX11_lookAgain_12 : decode cX11_lookAgain 12 = .ok (.aload_n 0, 1) := by decide +kernel
theorem dX11_lookAgain_13 : decode cX11_lookAgain 13 = .ok (.getfield 89, 3) := by decide +kernel
theorem dX11_lookAgain_16 : decode cX11_lookAgain 16 = .ok (.iconst (-1), 1) := by decide +kernel
theorem dX11_lookAgain_17 : decode cX11_lookAgain 17 = .ok (.if_icmp .ne 13, 3) := by decide +kernel
theorem dX11_lookAgain_20 : decode cX11_lookAgain 20 = .ok (.aload_n 0, 1) := by decide +kernel
theorem dX11_lookAgain_21 : decode cX11_lookAgain 21 = .ok (.getfield 30, 3) := by decide +kernel
theorem dX11_lookAgain_24 : decode cX11_lookAgain 24 = .ok (.getfield 156, 3) := by decide +kernel
theorem dX11_lookAgain_27 : decode cX11_lookAgain 27 = .ok (.goto 7, 3) := by decide +kernel
theorem dX11_lookAgain_30 : decode cX11_lookAgain 30 = .ok (.aload_n 0, 1) := by decide +kernel
theorem dX11_lookAgain_31 : decode cX11_lookAgain 31 = .ok (.getfield 89, 3) := by decide +kernel
theorem dX11_lookAgain_34 : decode cX11_lookAgain 34 = .ok (.aload_n 0, 1) := by decide +kernel
theorem dX11_lookAgain_35 : decode cX11_lookAgain 35 = .ok (.getfield 160, 3) := by decide +kernel
theorem dX11_lookAgain_38 : decode cX11_lookAgain 38 = .ok (.invokevirtual 336, 3) := by decide +kernel
theorem dX11_lookAgain_41 : decode cX11_lookAgain 41 = .ok (.aload_n 0, 1) := by decide +kernel
theorem dX11_lookAgain_42 : decode cX11_lookAgain 42 = .ok (.iconst 1, 1) := by decide +kernel
theorem dX11_lookAgain_43 : decode cX11_lookAgain 43 = .ok (.putfield 99, 3) := by decide +kernel
theorem dX11_lookAgain_46 : decode cX11_lookAgain 46 = .ok (.return_, 1) := by decide +kernel
set_option maxRecDepth 20000 in
theorem ggX11_planNow_X7_take : GoodIn wsX11_planNow wsX7_take := goodIn_r _ [7, 8, 9, 10, 11, 12, 13, 14, 15, 16, 17, 18, 19, 20, 21, 22, 23, 24, 25, 26, 27, 28, 29, 30, 31, 32, 33, 34, 35, 36, 37, 38, 39, 40, 41, 42, 43, 44, 45, 46, 6, 47, 48, 49, 50, 51, 52, 53, 54, 55, 56, 57, 58, 59, 60, 61, 62, 63, 64, 65, 66, 67, 68, 69, 70, 71, 72, 90, 91, 92, 93, 94, 95, 96, 97, 98, 99, 100, 101, 102, 103, 104, 105, 106, 107, 108, 109, 110, 111, 112, 113, 114, 115, 116, 117, 118, 119, 120, 121, 122, 123] rfl (by decide +kernel)
set_option maxRecDepth 20000 in
theorem gX11_planNow_X7_take : GoodIn wsX11_planNow (wsV RX11 232 RX7 yX7_take wsX7_take) := goodIn_app (goodIn_of _ (by decide +kernel)) ggX11_planNow_X7_take
theorem dX11_planNow_0 : decode cX11_planNow 0 = .ok (.aload_n 0, 1) := by decide +kernel
theorem dX11_planNow_1 : decode cX11_planNow 1 = .ok (.getfield 99, 3) := by decide +kernel
theorem dX11_planNow_4 : decode cX11_planNow 4 = .ok (.ifCond .eq 17, 3) := by decide +kernel
theorem dX11_planNow_7 : decode cX11_planNow 7 = .ok (.aload_n 0, 1) := by decide +kernel
theorem dX11_planNow_8 : decode cX11_planNow 8 = .ok (.getfield 62, 3) := by decide +kernel
theorem dX11_planNow_11 : decode cX11_planNow 11 = .ok (.iconst (-1), 1) := by decide +kernel
theorem dX11_planNow_12 : decode cX11_planNow 12 = .ok (.iconst (-1), 1) := by decide +kernel
theorem dX11_planNow_13 : decode cX11_planNow 13 = .ok (.invokevirtual 232, 3) := by decide +kernel
theorem dX11_planNow_16 : decode cX11_planNow 16 = .ok (.aload_n 0, 1) := by decide +kernel
theorem dX11_planNow_17 : decode cX11_planNow 17 = .ok (.iconst 0, 1) := by decide +kernel
theorem dX11_planNow_18 : decode cX11_planNow 18 = .ok (.putfield 99, 3) := by decide +kernel
theorem dX11_planNow_21 : decode cX11_planNow 21 = .ok (.aload_n 0, 1) := by decide +kernel
theorem dX11_planNow_22 : decode cX11_planNow 22 = .ok (.getfield 62, 3) := by decide +kernel
theorem dX11_planNow_25 : decode cX11_planNow 25 = .ok (.areturn, 1) := by decide +kernel
set_option maxRecDepth 20000 in
theorem ggX11_dealsNow_X3_settle : GoodIn wsX11_dealsNow wsX3_settle := goodIn_r _ [6, 7, 8, 9, 10, 11, 12, 13, 14, 15, 16, 17, 18, 19, 20, 21, 22, 23, 24, 5, 25, 26, 44, 45, 46, 47, 48, 49, 50, 51, 52, 53, 54, 55, 56, 57, 58, 59, 60, 61, 62, 63, 64, 65, 66, 67, 68, 69, 70, 71, 72, 73, 74, 75, 76, 77] (by decide +kernel) (by decide +kernel)
set_option maxRecDepth 20000 in
theorem gX11_dealsNow_X3_settle : GoodIn wsX11_dealsNow (wsV RX11 340 RX3 yX3_settle wsX3_settle) := goodIn_app (goodIn_of _ (by decide +kernel)) ggX11_dealsNow_X3_settle
theorem dX11_dealsNow_0 : decode cX11_dealsNow 0 = .ok (.aload_n 0, 1) := by decide +kernel
theorem dX11_dealsNow_1 : decode cX11_dealsNow 1 = .ok (.getfield 78, 3) := by decide +kernel
theorem dX11_dealsNow_4 : decode cX11_dealsNow 4 = .ok (.invokevirtual 340, 3) := by decide +kernel
theorem dX11_dealsNow_7 : decode cX11_dealsNow 7 = .ok (.aload_n 0, 1) := by decide +kernel
theorem dX11_dealsNow_8 : decode cX11_dealsNow 8 = .ok (.getfield 78, 3) := by decide +kernel
theorem dX11_dealsNow_11 : decode cX11_dealsNow 11 = .ok (.areturn, 1) := by decide +kernel
set_option maxRecDepth 20000 in
theorem ggX11_movedBetween_X7_endOf : GoodIn wsX11_movedBetween wsX7_endOf := goodIn_r _ [7, 8, 9, 10, 11, 12, 13, 6, 14, 15, 16, 17, 18, 19, 20, 21, 22, 23, 24, 25, 26, 27, 28, 29, 30, 31, 32, 33, 34, 35, 36, 37, 38, 39, 40, 41, 42, 43, 44, 45, 46, 47, 48, 49, 50, 51, 52, 53, 54, 55, 56, 57, 58, 59, 60, 61, 62, 63, 64, 65, 66, 67, 68, 69, 70, 71, 72, 73, 74, 75, 76, 77, 78, 79, 80, 81, 82, 83, 84, 85, 86, 87, 88, 89, 90, 91, 92, 93, 94, 95, 96, 97, 98, 99, 100, 101, 102, 103, 104, 105, 106, 107] rfl (by decide +kernel)
set_option maxRecDepth 20000 in
theorem gX11_movedBetween_X7_endOf : GoodIn wsX11_movedBetween (wsV RX11 228 RX7 yX7_endOf wsX7_endOf) := goodIn_app (goodIn_of _ (by decide +kernel)) ggX11_movedBetween_X7_endOf
theorem dX11_movedBetween_0 : decode cX11_movedBetween 0 = .ok (.iconst 0, 1) := by decide +kernel
theorem dX11_movedBetween_1 : decode cX11_movedBetween 1 = .ok (.istore_n 2, 1) := by decide +kernel
theorem dX11_movedBetween_2 : decode cX11_movedBetween 2 = .ok (.iconst 0, 1) := by decide +kernel
theorem dX11_movedBetween_3 : decode cX11_movedBetween 3 = .ok (.istore_n 3, 1) := by decide +kernel
theorem dX11_movedBetween_4 : decode cX11_movedBetween 4 = .ok (.iload_n 3, 1) := by decide +kernel
theorem dX11_movedBetween_5 : decode cX11_movedBetween 5 = .ok (.aload_n 0, 1) := by decide +kernel
theorem dX11_movedBetween_6 : decode cX11_movedBetween 6 = .ok (.getfield 343, 3) := by decide +kernel
theorem dX11_movedBetween_9 : decode cX11_movedBetween 9 = .ok (.getfield 144, 3) := by decide +kernel
theorem dX11_movedBetween_12 : decode cX11_movedBetween 12 = .ok (.if_icmp .ge 45, 3) := by decide +kernel
theorem dX11_movedBetween_15 : decode cX11_movedBetween 15 = .ok (.aload_n 0, 1) := by decide +kernel
theorem dX11_movedBetween_16 : decode cX11_movedBetween 16 = .ok (.iload_n 3, 1) := by decide +kernel
theorem dX11_movedBetween_17 : decode cX11_movedBetween 17 = .ok (.iconst 0, 1) := by decide +kernel
theorem dX11_movedBetween_18 : decode cX11_movedBetween 18 = .ok (.invokevirtual 228, 3) := by decide +kernel
theorem dX11_movedBetween_21 : decode cX11_movedBetween 21 = .ok (.aload_n 1, 1) := by decide +kernel
theorem dX11_movedBetween_22 : decode cX11_movedBetween 22 = .ok (.iload_n 3, 1) := by decide +kernel
theorem dX11_movedBetween_23 : decode cX11_movedBetween 23 = .ok (.iconst 0, 1) := by decide +kernel
theorem dX11_movedBetween_24 : decode cX11_movedBetween 24 = .ok (.invokevirtual 228, 3) := by decide +kernel
theorem dX11_movedBetween_27 : decode cX11_movedBetween 27 = .ok (.if_icmp .ne 18, 3) := by decide +kernel
theorem dX11_movedBetween_30 : decode cX11_movedBetween 30 = .ok (.aload_n 0, 1) := by decide +kernel
theorem dX11_movedBetween_31 : decode cX11_movedBetween 31 = .ok (.iload_n 3, 1) := by decide +kernel
theorem dX11_movedBetween_32 : decode cX11_movedBetween 32 = .ok (.iconst 1, 1) := by decide +kernel
theorem dX11_movedBetween_33 : decode cX11_movedBetween 33 = .ok (.invokevirtual 228, 3) := by decide +kernel
theorem dX11_movedBetween_36 : decode cX11_movedBetween 36 = .ok (.aload_n 1, 1) := by decide +kernel
theorem dX11_movedBetween_37 : decode cX11_movedBetween 37 = .ok (.iload_n 3, 1) := by decide +kernel
theorem dX11_movedBetween_38 : decode cX11_movedBetween 38 = .ok (.iconst 1, 1) := by decide +kernel
theorem dX11_movedBetween_39 : decode cX11_movedBetween 39 = .ok (.invokevirtual 228, 3) := by decide +kernel
theorem dX11_movedBetween_42 : decode cX11_movedBetween 42 = .ok (.if_icmp .eq 9, 3) := by decide +kernel
theorem dX11_movedBetween_45 : decode cX11_movedBetween 45 = .ok (.iload_n 2, 1) := by decide +kernel
theorem dX11_movedBetween_46 : decode cX11_movedBetween 46 = .ok (.iconst 1, 1) := by decide +kernel
theorem dX11_movedBetween_47 : decode cX11_movedBetween 47 = .ok (.iload_n 3, 1) := by decide +kernel
theorem dX11_movedBetween_48 : decode cX11_movedBetween 48 = .ok (.ishl, 1) := by decide +kernel
theorem dX11_movedBetween_49 : decode cX11_movedBetween 49 = .ok (.ior, 1) := by decide +kernel
theorem dX11_movedBetween_50 : decode cX11_movedBetween 50 = .ok (.istore_n 2, 1) := by decide +kernel
theorem dX11_movedBetween_51 : decode cX11_movedBetween 51 = .ok (.iinc 3 1, 3) := by decide +kernel
theorem dX11_movedBetween_54 : decode cX11_movedBetween 54 = .ok (.goto (-50), 3) := by decide +kernel
theorem dX11_movedBetween_57 : decode cX11_movedBetween 57 = .ok (.iload_n 2, 1) := by decide +kernel
theorem dX11_movedBetween_58 : decode cX11_movedBetween 58 = .ok (.ireturn, 1) := by decide +kernel
theorem dX12_init_0 : decode cX12_init 0 = .ok (.aload_n 0, 1) := by decide +kernel
theorem dX12_init_1 : decode cX12_init 1 = .ok (.invokespecial 1, 3) := by decide +kernel
theorem dX12_init_4 : decode cX12_init 4 = .ok (.aload_n 0, 1) := by decide +kernel
theorem dX12_init_5 : decode cX12_init 5 = .ok (.sipush 900, 3) := by decide +kernel
theorem dX12_init_8 : decode cX12_init 8 = .ok (.newarray .int, 2) := by decide +kernel
theorem dX12_init_10 : decode cX12_init 10 = .ok (.putfield 7, 3) := by decide +kernel
theorem dX12_init_13 : decode cX12_init 13 = .ok (.aload_n 0, 1) := by decide +kernel
theorem dX12_init_14 : decode cX12_init 14 = .ok (.iconst 0, 1) := by decide +kernel
theorem dX12_init_15 : decode cX12_init 15 = .ok (.putfield 13, 3) := by decide +kernel
theorem dX12_init_18 : decode cX12_init 18 = .ok (.aload_n 0, 1) := by decide +kernel
theorem dX12_init_19 : decode cX12_init 19 = .ok (.iconst 0, 1) := by decide +kernel
theorem dX12_init_20 : decode cX12_init 20 = .ok (.putfield 17, 3) := by decide +kernel
theorem dX12_init_23 : decode cX12_init 23 = .ok (.aload_n 0, 1) := by decide +kernel
theorem dX12_init_24 : decode cX12_init 24 = .ok (.iconst 0, 1) := by decide +kernel
theorem dX12_init_25 : decode cX12_init 25 = .ok (.putfield 20, 3) := by decide +kernel
theorem dX12_init_28 : decode cX12_init 28 = .ok (.aload_n 0, 1) := by decide +kernel
theorem dX12_init_29 : decode cX12_init 29 = .ok (.iconst 0, 1) := by decide +kernel
theorem dX12_init_30 : decode cX12_init 30 = .ok (.putfield 23, 3) := by decide +kernel
theorem dX12_init_33 : decode cX12_init 33 = .ok (.aload_n 0, 1) := by decide +kernel
theorem dX12_init_34 : decode cX12_init 34 = .ok (.iconst 0, 1) := by decide +kernel
theorem dX12_init_35 : decode cX12_init 35 = .ok (.putfield 26, 3) := by decide +kernel
theorem dX12_init_38 : decode cX12_init 38 = .ok (.aload_n 0, 1) := by decide +kernel
theorem dX12_init_39 : decode cX12_init 39 = .ok (.iconst 0, 1) := by decide +kernel
theorem dX12_init_40 : decode cX12_init 40 = .ok (.putfield 29, 3) := by decide +kernel
theorem dX12_init_43 : decode cX12_init 43 = .ok (.aload_n 0, 1) := by decide +kernel
theorem dX12_init_44 : decode cX12_init 44 = .ok (.lconst 0, 1) := by decide +kernel
theorem dX12_init_45 : decode cX12_init 45 = .ok (.putfield 32, 3) := by decide +kernel
theorem dX12_init_48 : decode cX12_init 48 = .ok (.aload_n 0, 1) := by decide +kernel
theorem dX12_init_49 : decode cX12_init 49 = .ok (.iconst 0, 1) := by decide +kernel
theorem dX12_init_50 : decode cX12_init 50 = .ok (.putfield 36, 3) := by decide +kernel
theorem dX12_init_53 : decode cX12_init 53 = .ok (.aload_n 0, 1) := by decide +kernel
theorem dX12_init_54 : decode cX12_init 54 = .ok (.iconst (-1), 1) := by decide +kernel
theorem dX12_init_55 : decode cX12_init 55 = .ok (.putfield 39, 3) := by decide +kernel
theorem dX12_init_58 : decode cX12_init 58 = .ok (.aload_n 0, 1) := by decide +kernel
theorem dX12_init_59 : decode cX12_init 59 = .ok (.iconst 0, 1) := by decide +kernel
theorem dX12_init_60 : decode cX12_init 60 = .ok (.putfield 42, 3) := by decide +kernel
theorem dX12_init_63 : decode cX12_init 63 = .ok (.aload_n 0, 1) := by decide +kernel
theorem dX12_init_64 : decode cX12_init 64 = .ok (.iconst (-1), 1) := by decide +kernel
theorem dX12_init_65 : decode cX12_init 65 = .ok (.putfield 45, 3) := by decide +kernel
theorem dX12_init_68 : decode cX12_init 68 = .ok (.aload_n 0, 1) := by decide +kernel
theorem dX12_init_69 : decode cX12_init 69 = .ok (.iconst 0, 1) := by decide +kernel
theorem dX12_init_70 : decode cX12_init 70 = .ok (.putfield 48, 3) := by decide +kernel
theorem dX12_init_73 : decode cX12_init 73 = .ok (.aload_n 0, 1) := by decide +kernel
theorem dX12_init_74 : decode cX12_init 74 = .ok (.iconst 2, 1) := by decide +kernel
theorem dX12_init_75 : decode cX12_init 75 = .ok (.newarray .int, 2) := by decide +kernel
theorem dX12_init_77 : decode cX12_init 77 = .ok (.putfield 51, 3) := by decide +kernel
theorem dX12_init_80 : decode cX12_init 80 = .ok (.aload_n 0, 1) := by decide +kernel
theorem dX12_init_81 : decode cX12_init 81 = .ok (.iconst 2, 1) := by decide +kernel
theorem dX12_init_82 : decode cX12_init 82 = .ok (.newarray .int, 2) := by decide +kernel
theorem dX12_init_84 : decode cX12_init 84 = .ok (.putfield 54, 3) := by decide +kernel
theorem dX12_init_87 : decode cX12_init 87 = .ok (.aload_n 0, 1) := by decide +kernel
theorem dX12_init_88 : decode cX12_init 88 = .ok (.iconst 2, 1) := by decide +kernel
theorem dX12_init_89 : decode cX12_init 89 = .ok (.newarray .int, 2) := by decide +kernel
theorem dX12_init_91 : decode cX12_init 91 = .ok (.putfield 57, 3) := by decide +kernel
theorem dX12_init_94 : decode cX12_init 94 = .ok (.aload_n 0, 1) := by decide +kernel
theorem dX12_init_95 : decode cX12_init 95 = .ok (.iconst 2, 1) := by decide +kernel
theorem dX12_init_96 : decode cX12_init 96 = .ok (.newarray .int, 2) := by decide +kernel
theorem dX12_init_98 : decode cX12_init 98 = .ok (.putfield 60, 3) := by decide +kernel
theorem dX12_init_101 : decode cX12_init 101 = .ok (.aload_n 0, 1) := by decide +kernel
theorem dX12_init_102 : decode cX12_init 102 = .ok (.bipush 24, 2) := by decide +kernel
theorem dX12_init_104 : decode cX12_init 104 = .ok (.newarray .long, 2) := by decide +kernel
theorem dX12_init_106 : decode cX12_init 106 = .ok (.putfield 63, 3) := by decide +kernel
theorem dX12_init_109 : decode cX12_init 109 = .ok (.aload_n 0, 1) := by decide +kernel
theorem dX12_init_110 : decode cX12_init 110 = .ok (.bipush 24, 2) := by decide +kernel
theorem dX12_init_112 : decode cX12_init 112 = .ok (.newarray .int, 2) := by decide +kernel
theorem dX12_init_114 : decode cX12_init 114 = .ok (.putfield 67, 3) := by decide +kernel
theorem dX12_init_117 : decode cX12_init 117 = .ok (.aload_n 0, 1) := by decide +kernel
theorem dX12_init_118 : decode cX12_init 118 = .ok (.bipush 60, 2) := by decide +kernel
theorem dX12_init_120 : decode cX12_init 120 = .ok (.newarray .int, 2) := by decide +kernel
theorem dX12_init_122 : decode cX12_init 122 = .ok (.putfield 70, 3) := by decide +kernel
theorem dX12_init_125 : decode cX12_init 125 = .ok (.aload_n 0, 1) := by decide +kernel
theorem dX12_init_126 : decode cX12_init 126 = .ok (.bipush 60, 2) := by decide +kernel
theorem dX12_init_128 : decode cX12_init 128 = .ok (.newarray .int, 2) := by decide +kernel
theorem dX12_init_130 : decode cX12_init 130 = .ok (.putfield 73, 3) := by decide +kernel
theorem dX12_init_133 : decode cX12_init 133 = .ok (.aload_n 0, 1) := by decide +kernel
theorem dX12_init_134 : decode cX12_init 134 = .ok (.bipush 60, 2) := by decide +kernel
theorem dX12_init_136 : decode cX12_init 136 = .ok (.newarray .int, 2) := by decide +kernel
theorem dX12_init_138 : decode cX12_init 138 = .ok (.putfield 76, 3) := by decide +kernel
theorem dX12_init_141 : decode cX12_init 141 = .ok (.aload_n 0, 1) := by decide +kernel
theorem dX12_init_142 : decode cX12_init 142 = .ok (.bipush 60, 2) := by decide +kernel
theorem dX12_init_144 : decode cX12_init 144 = .ok (.newarray .int, 2) := by decide +kernel
theorem dX12_init_146 : decode cX12_init 146 = .ok (.putfield 79, 3) := by decide +kernel
theorem dX12_init_149 : decode cX12_init 149 = .ok (.aload_n 0, 1) := by decide +kernel
theorem dX12_init_150 : decode cX12_init 150 = .ok (.bipush 60, 2) := by decide +kernel
theorem dX12_init_152 : decode cX12_init 152 = .ok (.newarray .int, 2) := by decide +kernel
theorem dX12_init_154 : decode cX12_init 154 = .ok (.putfield 82, 3) := by decide +kernel
theorem dX12_init_157 : decode cX12_init 157 = .ok (.aload_n 0, 1) := by decide +kernel
theorem dX12_init_158 : decode cX12_init 158 = .ok (.bipush 60, 2) := by decide +kernel
theorem dX12_init_160 : decode cX12_init 160 = .ok (.newarray .int, 2) := by decide +kernel
theorem dX12_init_162 : decode cX12_init 162 = .ok (.putfield 85, 3) := by decide +kernel
theorem dX12_init_165 : decode cX12_init 165 = .ok (.aload_n 0, 1) := by decide +kernel
theorem dX12_init_166 : decode cX12_init 166 = .ok (.bipush 60, 2) := by decide +kernel
theorem dX12_init_168 : decode cX12_init 168 = .ok (.newarray .int, 2) := by decide +kernel
theorem dX12_init_170 : decode cX12_init 170 = .ok (.putfield 88, 3) := by decide +kernel
theorem dX12_init_173 : decode cX12_init 173 = .ok (.aload_n 0, 1) := by decide +kernel
theorem dX12_init_174 : decode cX12_init 174 = .ok (.sipush 288, 3) := by decide +kernel
theorem dX12_init_177 : decode cX12_init 177 = .ok (.newarray .int, 2) := by decide +kernel
theorem dX12_init_179 : decode cX12_init 179 = .ok (.putfield 91, 3) := by decide +kernel
theorem dX12_init_182 : decode cX12_init 182 = .ok (.aload_n 0, 1) := by decide +kernel
theorem dX12_init_183 : decode cX12_init 183 = .ok (.sipush 288, 3) := by decide +kernel
theorem dX12_init_186 : decode cX12_init 186 = .ok (.newarray .boolean, 2) := by decide +kernel
theorem dX12_init_188 : decode cX12_init 188 = .ok (.putfield 94, 3) := by decide +kernel
theorem dX12_init_191 : decode cX12_init 191 = .ok (.aload_n 0, 1) := by decide +kernel
theorem dX12_init_192 : decode cX12_init 192 = .ok (.sipush 1800, 3) := by decide +kernel
theorem dX12_init_195 : decode cX12_init 195 = .ok (.newarray .int, 2) := by decide +kernel
theorem dX12_init_197 : decode cX12_init 197 = .ok (.putfield 98, 3) := by decide +kernel
theorem dX12_init_200 : decode cX12_init 200 = .ok (.aload_n 0, 1) := by decide +kernel
theorem dX12_init_201 : decode cX12_init 201 = .ok (.sipush 1800, 3) := by decide +kernel
theorem dX12_init_204 : decode cX12_init 204 = .ok (.newarray .int, 2) := by decide +kernel
theorem dX12_init_206 : decode cX12_init 206 = .ok (.putfield 101, 3) := by decide +kernel
theorem dX12_init_209 : decode cX12_init 209 = .ok (.aload_n 0, 1) := by decide +kernel
theorem dX12_init_210 : decode cX12_init 210 = .ok (.iconst 0, 1) := by decide +kernel
theorem dX12_init_211 : decode cX12_init 211 = .ok (.putfield 104, 3) := by decide +kernel
theorem dX12_init_214 : decode cX12_init 214 = .ok (.aload_n 0, 1) := by decide +kernel
theorem dX12_init_215 : decode cX12_init 215 = .ok (.iconst 1, 1) := by decide +kernel
theorem dX12_init_216 : decode cX12_init 216 = .ok (.putfield 107, 3) := by decide +kernel
theorem dX12_init_219 : decode cX12_init 219 = .ok (.aload_n 0, 1) := by decide +kernel
theorem dX12_init_220 : decode cX12_init 220 = .ok (.bipush 20, 2) := by decide +kernel
theorem dX12_init_222 : decode cX12_init 222 = .ok (.newarray .int, 2) := by decide +kernel
theorem dX12_init_224 : decode cX12_init 224 = .ok (.putfield 110, 3) := by decide +kernel
theorem dX12_init_227 : decode cX12_init 227 = .ok (.aload_n 0, 1) := by decide +kernel
theorem dX12_init_228 : decode cX12_init 228 = .ok (.bipush 20, 2) := by decide +kernel
theorem dX12_init_230 : decode cX12_init 230 = .ok (.newarray .int, 2) := by decide +kernel
theorem dX12_init_232 : decode cX12_init 232 = .ok (.putfield 113, 3) := by decide +kernel
theorem dX12_init_235 : decode cX12_init 235 = .ok (.aload_n 0, 1) := by decide +kernel
theorem dX12_init_236 : decode cX12_init 236 = .ok (.bipush 20, 2) := by decide +kernel
theorem dX12_init_238 : decode cX12_init 238 = .ok (.newarray .boolean, 2) := by decide +kernel
theorem dX12_init_240 : decode cX12_init 240 = .ok (.putfield 116, 3) := by decide +kernel
theorem dX12_init_243 : decode cX12_init 243 = .ok (.aload_n 0, 1) := by decide +kernel
theorem dX12_init_244 : decode cX12_init 244 = .ok (.bipush 20, 2) := by decide +kernel
theorem dX12_init_246 : decode cX12_init 246 = .ok (.newarray .int, 2) := by decide +kernel
theorem dX12_init_248 : decode cX12_init 248 = .ok (.putfield 119, 3) := by decide +kernel
theorem dX12_init_251 : decode cX12_init 251 = .ok (.aload_n 0, 1) := by decide +kernel
theorem dX12_init_252 : decode cX12_init 252 = .ok (.bipush 20, 2) := by decide +kernel
theorem dX12_init_254 : decode cX12_init 254 = .ok (.newarray .int, 2) := by decide +kernel
theorem dX12_init_256 : decode cX12_init 256 = .ok (.putfield 122, 3) := by decide +kernel
theorem dX12_init_259 : decode cX12_init 259 = .ok (.aload_n 0, 1) := by decide +kernel
theorem dX12_init_260 : decode cX12_init 260 = .ok (.iconst 0, 1) := by decide +kernel
theorem dX12_init_261 : decode cX12_init 261 = .ok (.putfield 125, 3) := by decide +kernel
theorem dX12_init_264 : decode cX12_init 264 = .ok (.aload_n 0, 1) := by decide +kernel
theorem dX12_init_265 : decode cX12_init 265 = .ok (.iconst 0, 1) := by decide +kernel
theorem dX12_init_266 : decode cX12_init 266 = .ok (.putfield 128, 3) := by decide +kernel
theorem dX12_init_269 : decode cX12_init 269 = .ok (.aload_n 0, 1) := by decide +kernel
theorem dX12_init_270 : decode cX12_init 270 = .ok (.sipush 500, 3) := by decide +kernel
theorem dX12_init_273 : decode cX12_init 273 = .ok (.newarray .int, 2) := by decide +kernel
theorem dX12_init_275 : decode cX12_init 275 = .ok (.putfield 131, 3) := by decide +kernel
theorem dX12_init_278 : decode cX12_init 278 = .ok (.aload_n 0, 1) := by decide +kernel
theorem dX12_init_279 : decode cX12_init 279 = .ok (.iconst 0, 1) := by decide +kernel
theorem dX12_init_280 : decode cX12_init 280 = .ok (.putfield 134, 3) := by decide +kernel
theorem dX12_init_283 : decode cX12_init 283 = .ok (.aload_n 0, 1) := by decide +kernel
theorem dX12_init_284 : decode cX12_init 284 = .ok (.iconst 0, 1) := by decide +kernel
theorem dX12_init_285 : decode cX12_init 285 = .ok (.putfield 137, 3) := by decide +kernel
theorem dX12_init_288 : decode cX12_init 288 = .ok (.aload_n 0, 1) := by decide +kernel
theorem dX12_init_289 : decode cX12_init 289 = .ok (.iconst 0, 1) := by decide +kernel
theorem dX12_init_290 : decode cX12_init 290 = .ok (.putfield 141, 3) := by decide +kernel
theorem dX12_init_293 : decode cX12_init 293 = .ok (.aload_n 0, 1) := by decide +kernel
theorem dX12_init_294 : decode cX12_init 294 = .ok (.iconst 0, 1) := by decide +kernel
theorem dX12_init_295 : decode cX12_init 295 = .ok (.putfield 144, 3) := by decide +kernel
theorem dX12_init_298 : decode cX12_init 298 = .ok (.aload_n 0, 1) := by decide +kernel
theorem dX12_init_299 : decode cX12_init 299 = .ok (.iconst (-1), 1) := by decide +kernel
theorem dX12_init_300 : decode cX12_init 300 = .ok (.putfield 147, 3) := by decide +kernel
theorem dX12_init_303 : decode cX12_init 303 = .ok (.aload_n 0, 1) := by decide +kernel
theorem dX12_init_304 : decode cX12_init 304 = .ok (.sipush 201, 3) := by decide +kernel
theorem dX12_init_307 : decode cX12_init 307 = .ok (.newarray .int, 2) := by decide +kernel
theorem dX12_init_309 : decode cX12_init 309 = .ok (.putfield 150, 3) := by decide +kernel
theorem dX12_init_312 : decode cX12_init 312 = .ok (.aload_n 0, 1) := by decide +kernel
theorem dX12_init_313 : decode cX12_init 313 = .ok (.sipush 201, 3) := by decide +kernel
theorem dX12_init_316 : decode cX12_init 316 = .ok (.newarray .int, 2) := by decide +kernel
theorem dX12_init_318 : decode cX12_init 318 = .ok (.putfield 153, 3) := by decide +kernel
theorem dX12_init_321 : decode cX12_init 321 = .ok (.aload_n 0, 1) := by decide +kernel
theorem dX12_init_322 : decode cX12_init 322 = .ok (.sipush 201, 3) := by decide +kernel
theorem dX12_init_325 : decode cX12_init 325 = .ok (.newarray .int, 2) := by decide +kernel
theorem dX12_init_327 : decode cX12_init 327 = .ok (.putfield 156, 3) := by decide +kernel
theorem dX12_init_330 : decode cX12_init 330 = .ok (.aload_n 0, 1) := by decide +kernel
theorem dX12_init_331 : decode cX12_init 331 = .ok (.sipush 950, 3) := by decide +kernel
theorem dX12_init_334 : decode cX12_init 334 = .ok (.newarray .long, 2) := by decide +kernel
theorem dX12_init_336 : decode cX12_init 336 = .ok (.putfield 159, 3) := by decide +kernel
theorem dX12_init_339 : decode cX12_init 339 = .ok (.aload_n 0, 1) := by decide +kernel
theorem dX12_init_340 : decode cX12_init 340 = .ok (.bipush 30, 2) := by decide +kernel
theorem dX12_init_342 : decode cX12_init 342 = .ok (.newarray .boolean, 2) := by decide +kernel
theorem dX12_init_344 : decode cX12_init 344 = .ok (.putfield 162, 3) := by decide +kernel
theorem dX12_init_347 : decode cX12_init 347 = .ok (.aload_n 0, 1) := by decide +kernel
theorem dX12_init_348 : decode cX12_init 348 = .ok (.bipush 30, 2) := by decide +kernel
theorem dX12_init_350 : decode cX12_init 350 = .ok (.newarray .int, 2) := by decide +kernel
theorem dX12_init_352 : decode cX12_init 352 = .ok (.putfield 165, 3) := by decide +kernel
theorem dX12_init_355 : decode cX12_init 355 = .ok (.aload_n 0, 1) := by decide +kernel
theorem dX12_init_356 : decode cX12_init 356 = .ok (.sipush 144, 3) := by decide +kernel
theorem dX12_init_359 : decode cX12_init 359 = .ok (.newarray .int, 2) := by decide +kernel
theorem dX12_init_361 : decode cX12_init 361 = .ok (.putfield 168, 3) := by decide +kernel
theorem dX12_init_364 : decode cX12_init 364 = .ok (.aload_n 0, 1) := by decide +kernel
theorem dX12_init_365 : decode cX12_init 365 = .ok (.sipush 4096, 3) := by decide +kernel
theorem dX12_init_368 : decode cX12_init 368 = .ok (.newarray .int, 2) := by decide +kernel
theorem dX12_init_370 : decode cX12_init 370 = .ok (.putfield 171, 3) := by decide +kernel
theorem dX12_init_373 : decode cX12_init 373 = .ok (.aload_n 0, 1) := by decide +kernel
theorem dX12_init_374 : decode cX12_init 374 = .ok (.sipush 144, 3) := by decide +kernel
theorem dX12_init_377 : decode cX12_init 377 = .ok (.newarray .int, 2) := by decide +kernel
theorem dX12_init_379 : decode cX12_init 379 = .ok (.putfield 174, 3) := by decide +kernel
theorem dX12_init_382 : decode cX12_init 382 = .ok (.aload_n 0, 1) := by decide +kernel
theorem dX12_init_383 : decode cX12_init 383 = .ok (.sipush 4096, 3) := by decide +kernel
theorem dX12_init_386 : decode cX12_init 386 = .ok (.newarray .int, 2) := by decide +kernel
theorem dX12_init_388 : decode cX12_init 388 = .ok (.putfield 177, 3) := by decide +kernel
theorem dX12_init_391 : decode cX12_init 391 = .ok (.aload_n 0, 1) := by decide +kernel
theorem dX12_init_392 : decode cX12_init 392 = .ok (.sipush 4096, 3) := by decide +kernel
theorem dX12_init_395 : decode cX12_init 395 = .ok (.newarray .int, 2) := by decide +kernel
theorem dX12_init_397 : decode cX12_init 397 = .ok (.putfield 180, 3) := by decide +kernel
theorem dX12_init_400 : decode cX12_init 400 = .ok (.aload_n 0, 1) := by decide +kernel
theorem dX12_init_401 : decode cX12_init 401 = .ok (.iconst 0, 1) := by decide +kernel
theorem dX12_init_402 : decode cX12_init 402 = .ok (.putfield 183, 3) := by decide +kernel
theorem dX12_init_405 : decode cX12_init 405 = .ok (.aload_n 0, 1) := by decide +kernel
theorem dX12_init_406 : decode cX12_init 406 = .ok (.bipush 6, 2) := by decide +kernel
theorem dX12_init_408 : decode cX12_init 408 = .ok (.newarray .int, 2) := by decide +kernel
theorem dX12_init_410 : decode cX12_init 410 = .ok (.putfield 186, 3) := by decide +kernel
theorem dX12_init_413 : decode cX12_init 413 = .ok (.aload_n 0, 1) := by decide +kernel
theorem dX12_init_414 : decode cX12_init 414 = .ok (.bipush 12, 2) := by decide +kernel
theorem dX12_init_416 : decode cX12_init 416 = .ok (.newarray .int, 2) := by decide +kernel
theorem dX12_init_418 : decode cX12_init 418 = .ok (.putfield 189, 3) := by decide +kernel
theorem dX12_init_421 : decode cX12_init 421 = .ok (.aload_n 0, 1) := by decide +kernel
theorem dX12_init_422 : decode cX12_init 422 = .ok (.sipush 576, 3) := by decide +kernel
theorem dX12_init_425 : decode cX12_init 425 = .ok (.newarray .long, 2) := by decide +kernel
theorem dX12_init_427 : decode cX12_init 427 = .ok (.putfield 192, 3) := by decide +kernel
theorem dX12_init_430 : decode cX12_init 430 = .ok (.aload_n 0, 1) := by decide +kernel
theorem dX12_init_431 : decode cX12_init 431 = .ok (.bipush 12, 2) := by decide +kernel
theorem dX12_init_433 : decode cX12_init 433 = .ok (.newarray .int, 2) := by decide +kernel
theorem dX12_init_435 : decode cX12_init 435 = .ok (.putfield 195, 3) := by decide +kernel
theorem dX12_init_438 : decode cX12_init 438 = .ok (.aload_n 0, 1) := by decide +kernel
theorem dX12_init_439 : decode cX12_init 439 = .ok (.bipush 12, 2) := by decide +kernel
theorem dX12_init_441 : decode cX12_init 441 = .ok (.newarray .int, 2) := by decide +kernel
theorem dX12_init_443 : decode cX12_init 443 = .ok (.putfield 198, 3) := by decide +kernel
theorem dX12_init_446 : decode cX12_init 446 = .ok (.aload_n 0, 1) := by decide +kernel
theorem dX12_init_447 : decode cX12_init 447 = .ok (.sipush 4096, 3) := by decide +kernel
theorem dX12_init_450 : decode cX12_init 450 = .ok (.newarray .long, 2) := by decide +kernel
theorem dX12_init_452 : decode cX12_init 452 = .ok (.putfield 201, 3) := by decide +kernel
theorem dX12_init_455 : decode cX12_init 455 = .ok (.aload_n 0, 1) := by decide +kernel
theorem dX12_init_456 : decode cX12_init 456 = .ok (.bipush 30, 2) := by decide +kernel
theorem dX12_init_458 : decode cX12_init 458 = .ok (.newarray .boolean, 2) := by decide +kernel
theorem dX12_init_460 : decode cX12_init 460 = .ok (.putfield 204, 3) := by decide +kernel
theorem dX12_init_463 : decode cX12_init 463 = .ok (.aload_n 0, 1) := by decide +kernel
theorem dX12_init_464 : decode cX12_init 464 = .ok (.bipush 30, 2) := by decide +kernel
theorem dX12_init_466 : decode cX12_init 466 = .ok (.newarray .int, 2) := by decide +kernel
theorem dX12_init_468 : decode cX12_init 468 = .ok (.putfield 207, 3) := by decide +kernel
theorem dX12_init_471 : decode cX12_init 471 = .ok (.aload_n 0, 1) := by decide +kernel
theorem dX12_init_472 : decode cX12_init 472 = .ok (.bipush 12, 2) := by decide +kernel
theorem dX12_init_474 : decode cX12_init 474 = .ok (.newarray .int, 2) := by decide +kernel
theorem dX12_init_476 : decode cX12_init 476 = .ok (.putfield 210, 3) := by decide +kernel
theorem dX12_init_479 : decode cX12_init 479 = .ok (.aload_n 0, 1) := by decide +kernel
theorem dX12_init_480 : decode cX12_init 480 = .ok (.bipush 12, 2) := by decide +kernel
theorem dX12_init_482 : decode cX12_init 482 = .ok (.newarray .long, 2) := by decide +kernel
theorem dX12_init_484 : decode cX12_init 484 = .ok (.putfield 213, 3) := by decide +kernel
theorem dX12_init_487 : decode cX12_init 487 = .ok (.aload_n 0, 1) := by decide +kernel
theorem dX12_init_488 : decode cX12_init 488 = .ok (.iconst (-1), 1) := by decide +kernel
theorem dX12_init_489 : decode cX12_init 489 = .ok (.putfield 216, 3) := by decide +kernel
theorem dX12_init_492 : decode cX12_init 492 = .ok (.aload_n 0, 1) := by decide +kernel
theorem dX12_init_493 : decode cX12_init 493 = .ok (.sipush 6006, 3) := by decide +kernel
theorem dX12_init_496 : decode cX12_init 496 = .ok (.newarray .int, 2) := by decide +kernel
theorem dX12_init_498 : decode cX12_init 498 = .ok (.putfield 219, 3) := by decide +kernel
theorem dX12_init_501 : decode cX12_init 501 = .ok (.aload_n 0, 1) := by decide +kernel
theorem dX12_init_502 : decode cX12_init 502 = .ok (.sipush 144, 3) := by decide +kernel
theorem dX12_init_505 : decode cX12_init 505 = .ok (.newarray .int, 2) := by decide +kernel
theorem dX12_init_507 : decode cX12_init 507 = .ok (.putfield 222, 3) := by decide +kernel
theorem dX12_init_510 : decode cX12_init 510 = .ok (.aload_n 0, 1) := by decide +kernel
theorem dX12_init_511 : decode cX12_init 511 = .ok (.bipush 12, 2) := by decide +kernel
theorem dX12_init_513 : decode cX12_init 513 = .ok (.newarray .long, 2) := by decide +kernel
theorem dX12_init_515 : decode cX12_init 515 = .ok (.putfield 225, 3) := by decide +kernel
theorem dX12_init_518 : decode cX12_init 518 = .ok (.aload_n 0, 1) := by decide +kernel
theorem dX12_init_519 : decode cX12_init 519 = .ok (.iconst 0, 1) := by decide +kernel
theorem dX12_init_520 : decode cX12_init 520 = .ok (.putfield 228, 3) := by decide +kernel
theorem dX12_init_523 : decode cX12_init 523 = .ok (.aload_n 0, 1) := by decide +kernel
theorem dX12_init_524 : decode cX12_init 524 = .ok (.sipush 200, 3) := by decide +kernel
theorem dX12_init_527 : decode cX12_init 527 = .ok (.newarray .int, 2) := by decide +kernel
theorem dX12_init_529 : decode cX12_init 529 = .ok (.putfield 231, 3) := by decide +kernel
theorem dX12_init_532 : decode cX12_init 532 = .ok (.aload_n 0, 1) := by decide +kernel
theorem dX12_init_533 : decode cX12_init 533 = .ok (.bipush 30, 2) := by decide +kernel
theorem dX12_init_535 : decode cX12_init 535 = .ok (.newarray .boolean, 2) := by decide +kernel
theorem dX12_init_537 : decode cX12_init 537 = .ok (.putfield 234, 3) := by decide +kernel
theorem dX12_init_540 : decode cX12_init 540 = .ok (.aload_n 0, 1) := by decide +kernel
theorem dX12_init_541 : decode cX12_init 541 = .ok (.bipush 30, 2) := by decide +kernel
theorem dX12_init_543 : decode cX12_init 543 = .ok (.newarray .int, 2) := by decide +kernel
theorem dX12_init_545 : decode cX12_init 545 = .ok (.putfield 237, 3) := by decide +kernel
theorem dX12_init_548 : decode cX12_init 548 = .ok (.return_, 1) := by decide +kernel
theorem dX12_is_0 : decode cX12_is 0 = .ok (.iload_n 0, 1) := by decide +kernel
theorem dX12_is_1 : decode cX12_is 1 = .ok (.iload_n 1, 1) := by decide +kernel
theorem dX12_is_2 : decode cX12_is 2 = .ok (.if_icmp .lt 12, 3) := by decide +kernel
theorem dX12_is_5 : decode cX12_is 5 = .ok (.iload_n 0, 1) := by decide +kernel
theorem dX12_is_6 : decode cX12_is 6 = .ok (.iload_n 2, 1) := by decide +kernel
theorem dX12_is_7 : decode cX12_is 7 = .ok (.if_icmp .gt 7, 3) := by decide +kernel
theorem dX12_is_10 : decode cX12_is 10 = .ok (.iconst 1, 1) := by decide +kernel
theorem dX12_is_11 : decode cX12_is 11 = .ok (.goto 4, 3) := by decide +kernel
theorem dX12_is_14 : decode cX12_is 14 = .ok (.iconst 0, 1) := by decide +kernel
theorem dX12_is_15 : decode cX12_is 15 = .ok (.ireturn, 1) := by decide +kernel
theorem dX12_put_0 : decode cX12_put 0 = .ok (.bipush 24, 2) := by decide +kernel
theorem dX12_put_2 : decode cX12_put 2 = .ok (.istore_n 2, 1) := by decide +kernel
theorem dX12_put_3 : decode cX12_put 3 = .ok (.iload_n 2, 1) := by decide +kernel
theorem dX12_put_4 : decode cX12_put 4 = .ok (.ifCond .lt 35, 3) := by decide +kernel
theorem dX12_put_7 : decode cX12_put 7 = .ok (.aload_n 0, 1) := by decide +kernel
theorem dX12_put_8 : decode cX12_put 8 = .ok (.getfield 7, 3) := by decide +kernel
theorem dX12_put_11 : decode cX12_put 11 = .ok (.aload_n 0, 1) := by decide +kernel
theorem dX12_put_12 : decode cX12_put 12 = .ok (.getfield 13, 3) := by decide +kernel
theorem dX12_put_15 : decode cX12_put 15 = .ok (.iload_n 1, 1) := by decide +kernel
theorem dX12_put_16 : decode cX12_put 16 = .ok (.iload_n 2, 1) := by decide +kernel
theorem dX12_put_17 : decode cX12_put 17 = .ok (.ishr, 1) := by decide +kernel
theorem dX12_put_18 : decode cX12_put 18 = .ok (.sipush 255, 3) := by decide +kernel
theorem dX12_put_21 : decode cX12_put 21 = .ok (.iand, 1) := by decide +kernel
theorem dX12_put_22 : decode cX12_put 22 = .ok (.iastore, 1) := by decide +kernel
theorem dX12_put_23 : decode cX12_put 23 = .ok (.aload_n 0, 1) := by decide +kernel
theorem dX12_put_24 : decode cX12_put 24 = .ok (.dup, 1) := by decide +kernel
theorem dX12_put_25 : decode cX12_put 25 = .ok (.getfield 13, 3) := by decide +kernel
theorem dX12_put_28 : decode cX12_put 28 = .ok (.iconst 1, 1) := by decide +kernel
theorem dX12_put_29 : decode cX12_put 29 = .ok (.iadd, 1) := by decide +kernel
theorem dX12_put_30 : decode cX12_put 30 = .ok (.putfield 13, 3) := by decide +kernel
theorem dX12_put_33 : decode cX12_put 33 = .ok (.iinc 2 (-8), 3) := by decide +kernel
theorem dX12_put_36 : decode cX12_put 36 = .ok (.goto (-33), 3) := by decide +kernel
theorem dX12_put_39 : decode cX12_put 39 = .ok (.return_, 1) := by decide +kernel
set_option maxRecDepth 20000 in
theorem ggX12_feed_X12_put : GoodIn wsX12_feed wsX12_put := goodIn_r _ [6, 7, 1, 8, 9, 10, 11, 12, 13, 14, 15, 16, 17, 18, 19, 20, 21, 22, 23, 24, 25, 26, 27, 28, 29, 30, 31, 32, 33, 34, 35, 36, 37, 38, 39, 40, 41, 42, 43, 44, 45, 46, 47, 48, 49, 50, 51, 52, 53, 54, 55, 56, 57, 58, 59, 60, 61, 62, 63, 64, 65, 66, 67, 68, 69, 70, 71, 72, 73, 74, 75, 76, 77, 78, 79, 80, 81, 82] rfl (by decide +kernel)
set_option maxRecDepth 20000 in
theorem gX12_feed_X12_put : GoodIn wsX12_feed (wsV RX12 240 RX12 yX12_put wsX12_put) := goodIn_app (goodIn_of _ (by decide +kernel)) ggX12_feed_X12_put
theorem dX12_feed_0 : decode cX12_feed 0 = .ok (.aload_n 0, 1) := by decide +kernel
theorem dX12_feed_1 : decode cX12_feed 1 = .ok (.getfield 13, 3) := by decide +kernel
theorem dX12_feed_4 : decode cX12_feed 4 = .ok (.bipush 20, 2) := by decide +kernel
theorem dX12_feed_6 : decode cX12_feed 6 = .ok (.iadd, 1) := by decide +kernel
theorem dX12_feed_7 : decode cX12_feed 7 = .ok (.sipush 900, 3) := by decide +kernel
theorem dX12_feed_10 : decode cX12_feed 10 = .ok (.if_icmp .le 5, 3) := by decide +kernel
theorem dX12_feed_13 : decode cX12_feed 13 = .ok (.iconst (-1), 1) := by decide +kernel
theorem dX12_feed_14 : decode cX12_feed 14 = .ok (.ireturn, 1) := by decide +kernel
theorem dX12_feed_15 : decode cX12_feed 15 = .ok (.aload_n 0, 1) := by decide +kernel
theorem dX12_feed_16 : decode cX12_feed 16 = .ok (.iload_n 1, 1) := by decide +kernel
theorem dX12_feed_17 : decode cX12_feed 17 = .ok (.invokevirtual 240, 3) := by decide +kernel
theorem dX12_feed_20 : decode cX12_feed 20 = .ok (.aload_n 0, 1) := by decide +kernel
theorem dX12_feed_21 : decode cX12_feed 21 = .ok (.iload_n 2, 1) := by decide +kernel
theorem dX12_feed_22 : decode cX12_feed 22 = .ok (.invokevirtual 240, 3) := by decide +kernel
theorem dX12_feed_25 : decode cX12_feed 25 = .ok (.aload_n 0, 1) := by decide +kernel
theorem dX12_feed_26 : decode cX12_feed 26 = .ok (.iload_n 3, 1) := by decide +kernel
theorem dX12_feed_27 : decode cX12_feed 27 = .ok (.invokevirtual 240, 3) := by decide +kernel
theorem dX12_feed_30 : decode cX12_feed 30 = .ok (.aload_n 0, 1) := by decide +kernel
theorem dX12_feed_31 : decode cX12_feed 31 = .ok (.iload 4, 2) := by decide +kernel
theorem dX12_feed_33 : decode cX12_feed 33 = .ok (.invokevirtual 240, 3) := by decide +kernel
theorem dX12_feed_36 : decode cX12_feed 36 = .ok (.aload_n 0, 1) := by decide +kernel
theorem dX12_feed_37 : decode cX12_feed 37 = .ok (.iload 5, 2) := by decide +kernel
theorem dX12_feed_39 : decode cX12_feed 39 = .ok (.invokevirtual 240, 3) := by decide +kernel
theorem dX12_feed_42 : decode cX12_feed 42 = .ok (.aload_n 0, 1) := by decide +kernel
theorem dX12_feed_43 : decode cX12_feed 43 = .ok (.getfield 13, 3) := by decide +kernel
theorem dX12_feed_46 : decode cX12_feed 46 = .ok (.ireturn, 1) := by decide +kernel
theorem dX12_end_0 : decode cX12_end 0 = .ok (.iload_n 1, 1) := by decide +kernel
theorem dX12_end_1 : decode cX12_end 1 = .ok (.ifCond .lt 11, 3) := by decide +kernel
theorem dX12_end_4 : decode cX12_end 4 = .ok (.iload_n 1, 1) := by decide +kernel
theorem dX12_end_5 : decode cX12_end 5 = .ok (.aload_n 0, 1) := by decide +kernel
theorem dX12_end_6 : decode cX12_end 6 = .ok (.getfield 13, 3) := by decide +kernel
theorem dX12_end_9 : decode cX12_end 9 = .ok (.if_icmp .le 5, 3) := by decide +kernel
theorem dX12_end_12 : decode cX12_end 12 = .ok (.iconst 0, 1) := by decide +kernel
theorem dX12_end_13 : decode cX12_end 13 = .ok (.ireturn, 1) := by decide +kernel
theorem dX12_end_14 : decode cX12_end 14 = .ok (.aload_n 0, 1) := by decide +kernel
theorem dX12_end_15 : decode cX12_end 15 = .ok (.iload_n 1, 1) := by decide +kernel
theorem dX12_end_16 : decode cX12_end 16 = .ok (.putfield 13, 3) := by decide +kernel
theorem dX12_end_19 : decode cX12_end 19 = .ok (.iconst 1, 1) := by decide +kernel
theorem dX12_end_20 : decode cX12_end 20 = .ok (.ireturn, 1) := by decide +kernel
theorem dX12_blame_0 : decode cX12_blame 0 = .ok (.aload_n 0, 1) := by decide +kernel
theorem dX12_blame_1 : decode cX12_blame 1 = .ok (.getfield 36, 3) := by decide +kernel
theorem dX12_blame_4 : decode cX12_blame 4 = .ok (.ifCond .le 4, 3) := by decide +kernel
theorem dX12_blame_7 : decode cX12_blame 7 = .ok (.return_, 1) := by decide +kernel
theorem dX12_blame_8 : decode cX12_blame 8 = .ok (.aload_n 0, 1) := by decide +kernel
theorem dX12_blame_9 : decode cX12_blame 9 = .ok (.iload_n 1, 1) := by decide +kernel
theorem dX12_blame_10 : decode cX12_blame 10 = .ok (.putfield 36, 3) := by decide +kernel
theorem dX12_blame_13 : decode cX12_blame 13 = .ok (.aload_n 0, 1) := by decide +kernel
theorem dX12_blame_14 : decode cX12_blame 14 = .ok (.iload_n 2, 1) := by decide +kernel
theorem dX12_blame_15 : decode cX12_blame 15 = .ok (.putfield 39, 3) := by decide +kernel
theorem dX12_blame_18 : decode cX12_blame 18 = .ok (.return_, 1) := by decide +kernel
theorem dX12_isLetter_0 : decode cX12_isLetter 0 = .ok (.iload_n 0, 1) := by decide +kernel
theorem dX12_isLetter_1 : decode cX12_isLetter 1 = .ok (.bipush 97, 2) := by decide +kernel
theorem dX12_isLetter_3 : decode cX12_isLetter 3 = .ok (.if_icmp .lt 13, 3) := by decide +kernel
theorem dX12_isLetter_6 : decode cX12_isLetter 6 = .ok (.iload_n 0, 1) := by decide +kernel
theorem dX12_isLetter_7 : decode cX12_isLetter 7 = .ok (.bipush 122, 2) := by decide +kernel
theorem dX12_isLetter_9 : decode cX12_isLetter 9 = .ok (.if_icmp .gt 7, 3) := by decide +kernel
theorem dX12_isLetter_12 : decode cX12_isLetter 12 = .ok (.iconst 1, 1) := by decide +kernel
theorem dX12_isLetter_13 : decode cX12_isLetter 13 = .ok (.goto 4, 3) := by decide +kernel
theorem dX12_isLetter_16 : decode cX12_isLetter 16 = .ok (.iconst 0, 1) := by decide +kernel
theorem dX12_isLetter_17 : decode cX12_isLetter 17 = .ok (.ireturn, 1) := by decide +kernel
theorem dX12_isDigit_0 : decode cX12_isDigit 0 = .ok (.iload_n 0, 1) := by decide +kernel
theorem dX12_isDigit_1 : decode cX12_isDigit 1 = .ok (.bipush 48, 2) := by decide +kernel
theorem dX12_isDigit_3 : decode cX12_isDigit 3 = .ok (.if_icmp .lt 13, 3) := by decide +kernel
theorem dX12_isDigit_6 : decode cX12_isDigit 6 = .ok (.iload_n 0, 1) := by decide +kernel
theorem dX12_isDigit_7 : decode cX12_isDigit 7 = .ok (.bipush 57, 2) := by decide +kernel
theorem dX12_isDigit_9 : decode cX12_isDigit 9 = .ok (.if_icmp .gt 7, 3) := by decide +kernel
theorem dX12_isDigit_12 : decode cX12_isDigit 12 = .ok (.iconst 1, 1) := by decide +kernel
theorem dX12_isDigit_13 : decode cX12_isDigit 13 = .ok (.goto 4, 3) := by decide +kernel
theorem dX12_isDigit_16 : decode cX12_isDigit 16 = .ok (.iconst 0, 1) := by decide +kernel
theorem dX12_isDigit_17 : decode cX12_isDigit 17 = .ok (.ireturn, 1) := by decide +kernel
set_option maxRecDepth 20000 in
theorem ggX12_next_X12_isLetter : GoodIn wsX12_next wsX12_isLetter := goodIn_r _ [11] (by decide +kernel) (by decide +kernel)
set_option maxRecDepth 20000 in
theorem gX12_next_X12_isLetter : GoodIn wsX12_next (va_wsS RX12 244 yX12_isLetter wsX12_isLetter) := goodIn_app (goodIn_of _ (by decide +kernel)) ggX12_next_X12_isLetter
set_option maxRecDepth 20000 in
theorem ggX12_next_X12_isDigit : GoodIn wsX12_next wsX12_isDigit := goodIn_r _ [14] (by decide +kernel) (by decide +kernel)
set_option maxRecDepth 20000 in
theorem gX12_next_X12_isDigit : GoodIn wsX12_next (va_wsS RX12 248 yX12_isDigit wsX12_isDigit) := goodIn_app (goodIn_of _ (by decide +kernel)) ggX12_next_X12_isDigit
set_option maxRecDepth 20000 in
theorem ggX12_next_X12_blame : GoodIn wsX12_next wsX12_blame := goodIn_r _ [18, 19, 20, 21, 22, 23, 24, 25, 26, 27, 28, 29, 30, 31, 32, 33, 34, 35, 36, 37, 38, 39, 40, 41, 42, 43, 44, 45, 46, 47, 48, 49, 50, 51, 52, 53, 54, 55, 56, 57, 58, 59, 60, 61, 62, 63, 64, 65, 66, 67, 68, 69, 70, 71, 72, 73, 74, 75, 76, 77, 78, 79, 80, 81, 82, 83, 84, 85, 86, 87, 88, 89, 90, 91, 92, 93, 94, 95] rfl (by decide +kernel)
set_option maxRecDepth 20000 in
theorem gX12_next_X12_blame : GoodIn wsX12_next (wsV RX12 251 RX12 yX12_blame wsX12_blame) := goodIn_app (goodIn_of _ (by decide +kernel)) ggX12_next_X12_blame
theorem dX12_next_0 : decode cX12_next 0 = .ok (.aload_n 0, 1) := by decide +kernel
theorem dX12_next_1 : decode cX12_next 1 = .ok (.getfield 26, 3) := by decide +kernel
theorem dX12_next_4 : decode cX12_next 4 = .ok (.istore_n 1, 1) := by decide +kernel
theorem dX12_next_5 : decode cX12_next 5 = .ok (.iload_n 1, 1) := by decide +kernel
theorem dX12_next_6 : decode cX12_next 6 = .ok (.aload_n 0, 1) := by decide +kernel
theorem dX12_next_7 : decode cX12_next 7 = .ok (.getfield 17, 3) := by decide +kernel
theorem dX12_next_10 : decode cX12_next 10 = .ok (.if_icmp .ge 31, 3) := by decide +kernel
theorem dX12_next_13 : decode cX12_next 13 = .ok (.aload_n 0, 1) := by decide +kernel
theorem dX12_next_14 : decode cX12_next 14 = .ok (.getfield 7, 3) := by decide +kernel
theorem dX12_next_17 : decode cX12_next 17 = .ok (.iload_n 1, 1) := by decide +kernel
theorem dX12_next_18 : decode cX12_next 18 = .ok (.iaload, 1) := by decide +kernel
theorem dX12_next_19 : decode cX12_next 19 = .ok (.bipush 32, 2) := by decide +kernel
theorem dX12_next_21 : decode cX12_next 21 = .ok (.if_icmp .eq 14, 3) := by decide +kernel
theorem dX12_next_24 : decode cX12_next 24 = .ok (.aload_n 0, 1) := by decide +kernel
theorem dX12_next_25 : decode cX12_next 25 = .ok (.getfield 7, 3) := by decide +kernel
theorem dX12_next_28 : decode cX12_next 28 = .ok (.iload_n 1, 1) := by decide +kernel
theorem dX12_next_29 : decode cX12_next 29 = .ok (.iaload, 1) := by decide +kernel
theorem dX12_next_30 : decode cX12_next 30 = .ok (.bipush 10, 2) := by decide +kernel
theorem dX12_next_32 : decode cX12_next 32 = .ok (.if_icmp .ne 9, 3) := by decide +kernel
theorem dX12_next_35 : decode cX12_next 35 = .ok (.iinc 1 1, 3) := by decide +kernel
theorem dX12_next_38 : decode cX12_next 38 = .ok (.goto (-33), 3) := by decide +kernel
theorem dX12_next_41 : decode cX12_next 41 = .ok (.aload_n 0, 1) := by decide +kernel
theorem dX12_next_42 : decode cX12_next 42 = .ok (.iload_n 1, 1) := by decide +kernel
theorem dX12_next_43 : decode cX12_next 43 = .ok (.putfield 23, 3) := by decide +kernel
theorem dX12_next_46 : decode cX12_next 46 = .ok (.aload_n 0, 1) := by decide +kernel
theorem dX12_next_47 : decode cX12_next 47 = .ok (.iload_n 1, 1) := by decide +kernel
theorem dX12_next_48 : decode cX12_next 48 = .ok (.putfield 26, 3) := by decide +kernel
theorem dX12_next_51 : decode cX12_next 51 = .ok (.aload_n 0, 1) := by decide +kernel
theorem dX12_next_52 : decode cX12_next 52 = .ok (.iconst 0, 1) := by decide +kernel
theorem dX12_next_53 : decode cX12_next 53 = .ok (.putfield 20, 3) := by decide +kernel
theorem dX12_next_56 : decode cX12_next 56 = .ok (.iload_n 1, 1) := by decide +kernel
theorem dX12_next_57 : decode cX12_next 57 = .ok (.aload_n 0, 1) := by decide +kernel
theorem dX12_next_58 : decode cX12_next 58 = .ok (.getfield 17, 3) := by decide +kernel
theorem dX12_next_61 : decode cX12_next 61 = .ok (.if_icmp .lt 4, 3) := by decide +kernel
theorem dX12_next_64 : decode cX12_next 64 = .ok (.return_, 1) := by decide +kernel
theorem dX12_next_65 : decode cX12_next 65 = .ok (.aload_n 0, 1) := by decide +kernel
theorem dX12_next_66 : decode cX12_next 66 = .ok (.getfield 7, 3) := by decide +kernel
theorem dX12_next_69 : decode cX12_next 69 = .ok (.iload_n 1, 1) := by decide +kernel
theorem dX12_next_70 : decode cX12_next 70 = .ok (.iaload, 1) := by decide +kernel
theorem dX12_next_71 : decode cX12_next 71 = .ok (.invokestatic 244, 3) := by decide +kernel
theorem dX12_next_74 : decode cX12_next 74 = .ok (.istore_n 2, 1) := by decide +kernel
theorem dX12_next_75 : decode cX12_next 75 = .ok (.aload_n 0, 1) := by decide +kernel
theorem dX12_next_76 : decode cX12_next 76 = .ok (.getfield 7, 3) := by decide +kernel
theorem dX12_next_79 : decode cX12_next 79 = .ok (.iload_n 1, 1) := by decide +kernel
theorem dX12_next_80 : decode cX12_next 80 = .ok (.iaload, 1) := by decide +kernel
theorem dX12_next_81 : decode cX12_next 81 = .ok (.invokestatic 248, 3) := by decide +kernel
theorem dX12_next_84 : decode cX12_next 84 = .ok (.istore_n 3, 1) := by decide +kernel
theorem dX12_next_85 : decode cX12_next 85 = .ok (.iload_n 2, 1) := by decide +kernel
theorem dX12_next_86 : decode cX12_next 86 = .ok (.ifCond .ne 7, 3) := by decide +kernel
theorem dX12_next_89 : decode cX12_next 89 = .ok (.iload_n 3, 1) := by decide +kernel
theorem dX12_next_90 : decode cX12_next 90 = .ok (.ifCond .eq 41, 3) := by decide +kernel
theorem dX12_next_93 : decode cX12_next 93 = .ok (.iload_n 1, 1) := by decide +kernel
theorem dX12_next_94 : decode cX12_next 94 = .ok (.ifCond .le 37, 3) := by decide +kernel
theorem dX12_next_97 : decode cX12_next 97 = .ok (.aload_n 0, 1) := by decide +kernel
theorem dX12_next_98 : decode cX12_next 98 = .ok (.getfield 7, 3) := by decide +kernel
theorem dX12_next_101 : decode cX12_next 101 = .ok (.iload_n 1, 1) := by decide +kernel
theorem dX12_next_102 : decode cX12_next 102 = .ok (.iconst 1, 1) := by decide +kernel
theorem dX12_next_103 : decode cX12_next 103 = .ok (.isub, 1) := by decide +kernel
theorem dX12_next_104 : decode cX12_next 104 = .ok (.iaload, 1) := by decide +kernel
theorem dX12_next_105 : decode cX12_next 105 = .ok (.invokestatic 244, 3) := by decide +kernel
theorem dX12_next_108 : decode cX12_next 108 = .ok (.ifCond .ne 17, 3) := by decide +kernel
theorem dX12_next_111 : decode cX12_next 111 = .ok (.aload_n 0, 1) := by decide +kernel
theorem dX12_next_112 : decode cX12_next 112 = .ok (.getfield 7, 3) := by decide +kernel
theorem dX12_next_115 : decode cX12_next 115 = .ok (.iload_n 1, 1) := by decide +kernel
theorem dX12_next_116 : decode cX12_next 116 = .ok (.iconst 1, 1) := by decide +kernel
theorem dX12_next_117 : decode cX12_next 117 = .ok (.isub, 1) := by decide +kernel
theorem dX12_next_118 : decode cX12_next 118 = .ok (.iaload, 1) := by decide +kernel
theorem dX12_next_119 : decode cX12_next 119 = .ok (.invokestatic 248, 3) := by decide +kernel
theorem dX12_next_122 : decode cX12_next 122 = .ok (.ifCond .eq 9, 3) := by decide +kernel
theorem dX12_next_125 : decode cX12_next 125 = .ok (.aload_n 0, 1) := by decide +kernel
theorem dX12_next_126 : decode cX12_next 126 = .ok (.iconst 1, 1) := by decide +kernel
theorem dX12_next_127 : decode cX12_next 127 = .ok (.iload_n 1, 1) := by decide +kernel
theorem dX12_next_128 : decode cX12_next 128 = .ok (.invokevirtual 251, 3) := by decide +kernel
theorem dX12_next_131 : decode cX12_next 131 = .ok (.aload_n 0, 1) := by decide +kernel
theorem dX12_next_132 : decode cX12_next 132 = .ok (.iconst 0, 1) := by decide +kernel
theorem dX12_next_133 : decode cX12_next 133 = .ok (.putfield 29, 3) := by decide +kernel
theorem dX12_next_136 : decode cX12_next 136 = .ok (.aload_n 0, 1) := by decide +kernel
theorem dX12_next_137 : decode cX12_next 137 = .ok (.lconst 0, 1) := by decide +kernel
theorem dX12_next_138 : decode cX12_next 138 = .ok (.putfield 32, 3) := by decide +kernel
theorem dX12_next_141 : decode cX12_next 141 = .ok (.aload_n 0, 1) := by decide +kernel
theorem dX12_next_142 : decode cX12_next 142 = .ok (.iconst 3, 1) := by decide +kernel
theorem dX12_next_143 : decode cX12_next 143 = .ok (.putfield 20, 3) := by decide +kernel
theorem dX12_next_146 : decode cX12_next 146 = .ok (.aload_n 0, 1) := by decide +kernel
theorem dX12_next_147 : decode cX12_next 147 = .ok (.iload_n 1, 1) := by decide +kernel
theorem dX12_next_148 : decode cX12_next 148 = .ok (.iconst 1, 1) := by decide +kernel
theorem dX12_next_149 : decode cX12_next 149 = .ok (.iadd, 1) := by decide +kernel
theorem dX12_next_150 : decode cX12_next 150 = .ok (.putfield 26, 3) := by decide +kernel
theorem dX12_next_153 : decode cX12_next 153 = .ok (.iload_n 2, 1) := by decide +kernel
theorem dX12_next_154 : decode cX12_next 154 = .ok (.ifCond .ne 18, 3) := by decide +kernel
theorem dX12_next_157 : decode cX12_next 157 = .ok (.iload_n 3, 1) := by decide +kernel
theorem dX12_next_158 : decode cX12_next 158 = .ok (.ifCond .ne 14, 3) := by decide +kernel
theorem dX12_next_161 : decode cX12_next 161 = .ok (.aload_n 0, 1) := by decide +kernel
theorem dX12_next_162 : decode cX12_next 162 = .ok (.aload_n 0, 1) := by decide +kernel
theorem dX12_next_163 : decode cX12_next 163 = .ok (.getfield 7, 3) := by decide +kernel
theorem dX12_next_166 : decode cX12_next 166 = .ok (.iload_n 1, 1) := by decide +kernel
theorem dX12_next_167 : decode cX12_next 167 = .ok (.iaload, 1) := by decide +kernel
theorem dX12_next_168 : decode cX12_next 168 = .ok (.putfield 29, 3) := by decide +kernel
theorem dX12_next_171 : decode cX12_next 171 = .ok (.return_, 1) := by decide +kernel
theorem dX12_next_172 : decode cX12_next 172 = .ok (.aload_n 0, 1) := by decide +kernel
theorem dX12_next_173 : decode cX12_next 173 = .ok (.iload_n 2, 1) := by decide +kernel
theorem dX12_next_174 : decode cX12_next 174 = .ok (.ifCond .eq 7, 3) := by decide +kernel
theorem dX12_next_177 : decode cX12_next 177 = .ok (.iconst 1, 1) := by decide +kernel
theorem dX12_next_178 : decode cX12_next 178 = .ok (.goto 4, 3) := by decide +kernel
theorem dX12_next_181 : decode cX12_next 181 = .ok (.iconst 2, 1) := by decide +kernel
theorem dX12_next_182 : decode cX12_next 182 = .ok (.putfield 20, 3) := by decide +kernel
theorem dX12_next_185 : decode cX12_next 185 = .ok (.iload_n 2, 1) := by decide +kernel
theorem dX12_next_186 : decode cX12_next 186 = .ok (.ifCond .eq 8, 3) := by decide +kernel
theorem dX12_next_189 : decode cX12_next 189 = .ok (.bipush 6, 2) := by decide +kernel
theorem dX12_next_191 : decode cX12_next 191 = .ok (.goto 4, 3) := by decide +kernel
theorem dX12_next_194 : decode cX12_next 194 = .ok (.iconst 4, 1) := by decide +kernel
theorem dX12_next_195 : decode cX12_next 195 = .ok (.istore 4, 2) := by decide +kernel
theorem dX12_next_197 : decode cX12_next 197 = .ok (.iconst 0, 1) := by decide +kernel
theorem dX12_next_198 : decode cX12_next 198 = .ok (.istore 5, 2) := by decide +kernel
theorem dX12_next_200 : decode cX12_next 200 = .ok (.iload_n 1, 1) := by decide +kernel
theorem dX12_next_201 : decode cX12_next 201 = .ok (.aload_n 0, 1) := by decide +kernel
theorem dX12_next_202 : decode cX12_next 202 = .ok (.getfield 17, 3) := by decide +kernel
theorem dX12_next_205 : decode cX12_next 205 = .ok (.if_icmp .ge 118, 3) := by decide +kernel
theorem dX12_next_208 : decode cX12_next 208 = .ok (.iload_n 2, 1) := by decide +kernel
theorem dX12_next_209 : decode cX12_next 209 = .ok (.ifCond .eq 18, 3) := by decide +kernel
theorem dX12_next_212 : decode cX12_next 212 = .ok (.aload_n 0, 1) := by decide +kernel
theorem dX12_next_213 : decode cX12_next 213 = .ok (.getfield 7, 3) := by decide +kernel
theorem dX12_next_216 : decode cX12_next 216 = .ok (.iload_n 1, 1) := by decide +kernel
theorem dX12_next_217 : decode cX12_next 217 = .ok (.iaload, 1) := by decide +kernel
theorem dX12_next_218 : decode cX12_next 218 = .ok (.invokestatic 244, 3) := by decide +kernel
theorem dX12_next_221 : decode cX12_next 221 = .ok (.ifCond .eq 102, 3) := by decide +kernel
theorem dX12_next_224 : decode cX12_next 224 = .ok (.goto 15, 3) := by decide +kernel
theorem dX12_next_227 : decode cX12_next 227 = .ok (.aload_n 0, 1) := by decide +kernel
theorem dX12_next_228 : decode cX12_next 228 = .ok (.getfield 7, 3) := by decide +kernel
theorem dX12_next_231 : decode cX12_next 231 = .ok (.iload_n 1, 1) := by decide +kernel
theorem dX12_next_232 : decode cX12_next 232 = .ok (.iaload, 1) := by decide +kernel
theorem dX12_next_233 : decode cX12_next 233 = .ok (.invokestatic 248, 3) := by decide +kernel
theorem dX12_next_236 : decode cX12_next 236 = .ok (.ifCond .eq 87, 3) := by decide +kernel
theorem dX12_next_239 : decode cX12_next 239 = .ok (.iload 5, 2) := by decide +kernel
theorem dX12_next_241 : decode cX12_next 241 = .ok (.iload 4, 2) := by decide +kernel
theorem dX12_next_243 : decode cX12_next 243 = .ok (.if_icmp .ne 9, 3) := by decide +kernel
theorem dX12_next_246 : decode cX12_next 246 = .ok (.aload_n 0, 1) := by decide +kernel
theorem dX12_next_247 : decode cX12_next 247 = .ok (.iconst 1, 1) := by decide +kernel
theorem dX12_next_248 : decode cX12_next 248 = .ok (.iload_n 1, 1) := by decide +kernel
theorem dX12_next_249 : decode cX12_next 249 = .ok (.invokevirtual 251, 3) := by decide +kernel
theorem dX12_next_252 : decode cX12_next 252 = .ok (.iload 5, 2) := by decide +kernel
theorem dX12_next_254 : decode cX12_next 254 = .ok (.iload 4, 2) := by decide +kernel
theorem dX12_next_256 : decode cX12_next 256 = .ok (.if_icmp .ge 26, 3) := by decide +kernel
theorem dX12_next_259 : decode cX12_next 259 = .ok (.iload_n 2, 1) := by decide +kernel
theorem dX12_next_260 : decode cX12_next 260 = .ok (.ifCond .eq 22, 3) := by decide +kernel
theorem dX12_next_263 : decode cX12_next 263 = .ok (.aload_n 0, 1) := by decide +kernel
theorem dX12_next_264 : decode cX12_next 264 = .ok (.aload_n 0, 1) := by decide +kernel
theorem dX12_next_265 : decode cX12_next 265 = .ok (.getfield 32, 3) := by decide +kernel
theorem dX12_next_268 : decode cX12_next 268 = .ok (.bipush 8, 2) := by decide +kernel
theorem dX12_next_270 : decode cX12_next 270 = .ok (.lshl, 1) := by decide +kernel
theorem dX12_next_271 : decode cX12_next 271 = .ok (.aload_n 0, 1) := by decide +kernel
theorem dX12_next_272 : decode cX12_next 272 = .ok (.getfield 7, 3) := by decide +kernel
theorem dX12_next_275 : decode cX12_next 275 = .ok (.iload_n 1, 1) := by decide +kernel
theorem dX12_next_276 : decode cX12_next 276 = .ok (.iaload, 1) := by decide +kernel
theorem dX12_next_277 : decode cX12_next 277 = .ok (.i2l, 1) := by decide +kernel
theorem dX12_next_278 : decode cX12_next 278 = .ok (.lor, 1) := by decide +kernel
theorem dX12_next_279 : decode cX12_next 279 = .ok (.putfield 32, 3) := by decide +kernel
theorem dX12_next_282 : decode cX12_next 282 = .ok (.iload 5, 2) := by decide +kernel
theorem dX12_next_284 : decode cX12_next 284 = .ok (.iload 4, 2) := by decide +kernel
theorem dX12_next_286 : decode cX12_next 286 = .ok (.if_icmp .ge 28, 3) := by decide +kernel
theorem dX12_next_289 : decode cX12_next 289 = .ok (.iload_n 3, 1) := by decide +kernel
theorem dX12_next_290 : decode cX12_next 290 = .ok (.ifCond .eq 24, 3) := by decide +kernel
theorem dX12_next_293 : decode cX12_next 293 = .ok (.aload_n 0, 1) := by decide +kernel
theorem dX12_next_294 : decode cX12_next 294 = .ok (.bipush 10, 2) := by decide +kernel
theorem dX12_next_296 : decode cX12_next 296 = .ok (.aload_n 0, 1) := by decide +kernel
theorem dX12_next_297 : decode cX12_next 297 = .ok (.getfield 29, 3) := by decide +kernel
theorem dX12_next_300 : decode cX12_next 300 = .ok (.imul, 1) := by decide +kernel
theorem dX12_next_301 : decode cX12_next 301 = .ok (.aload_n 0, 1) := by decide +kernel
theorem dX12_next_302 : decode cX12_next 302 = .ok (.getfield 7, 3) := by decide +kernel
theorem dX12_next_305 : decode cX12_next 305 = .ok (.iload_n 1, 1) := by decide +kernel
theorem dX12_next_306 : decode cX12_next 306 = .ok (.iaload, 1) := by decide +kernel
theorem dX12_next_307 : decode cX12_next 307 = .ok (.iadd, 1) := by decide +kernel
theorem dX12_next_308 : decode cX12_next 308 = .ok (.bipush 48, 2) := by decide +kernel
theorem dX12_next_310 : decode cX12_next 310 = .ok (.isub, 1) := by decide +kernel
theorem dX12_next_311 : decode cX12_next 311 = .ok (.putfield 29, 3) := by decide +kernel
theorem dX12_next_314 : decode cX12_next 314 = .ok (.iinc 5 1, 3) := by decide +kernel
theorem dX12_next_317 : decode cX12_next 317 = .ok (.iinc 1 1, 3) := by decide +kernel
theorem dX12_next_320 : decode cX12_next 320 = .ok (.goto (-120), 3) := by decide +kernel
theorem dX12_next_323 : decode cX12_next 323 = .ok (.aload_n 0, 1) := by decide +kernel
theorem dX12_next_324 : decode cX12_next 324 = .ok (.iload_n 1, 1) := by decide +kernel
theorem dX12_next_325 : decode cX12_next 325 = .ok (.putfield 26, 3) := by decide +kernel
theorem dX12_next_328 : decode cX12_next 328 = .ok (.return_, 1) := by decide +kernel
theorem dX12_isSign_0 : decode cX12_isSign 0 = .ok (.aload_n 0, 1) := by decide +kernel
theorem dX12_isSign_1 : decode cX12_isSign 1 = .ok (.getfield 20, 3) := by decide +kernel
theorem dX12_isSign_4 : decode cX12_isSign 4 = .ok (.iconst 3, 1) := by decide +kernel
theorem dX12_isSign_5 : decode cX12_isSign 5 = .ok (.if_icmp .ne 15, 3) := by decide +kernel
theorem dX12_isSign_8 : decode cX12_isSign 8 = .ok (.aload_n 0, 1) := by decide +kernel
theorem dX12_isSign_9 : decode cX12_isSign 9 = .ok (.getfield 29, 3) := by decide +kernel
theorem dX12_isSign_12 : decode cX12_isSign 12 = .ok (.iload_n 1, 1) := by decide +kernel
theorem dX12_isSign_13 : decode cX12_isSign 13 = .ok (.if_icmp .ne 7, 3) := by decide +kernel
theorem dX12_isSign_16 : decode cX12_isSign 16 = .ok (.iconst 1, 1) := by decide +kernel
theorem dX12_isSign_17 : decode cX12_isSign 17 = .ok (.goto 4, 3) := by decide +kernel
theorem dX12_isSign_20 : decode cX12_isSign 20 = .ok (.iconst 0, 1) := by decide +kernel
theorem dX12_isSign_21 : decode cX12_isSign 21 = .ok (.ireturn, 1) := by decide +kernel
theorem dX12_isWord_0 : decode cX12_isWord 0 = .ok (.aload_n 0, 1) := by decide +kernel
theorem dX12_isWord_1 : decode cX12_isWord 1 = .ok (.getfield 20, 3) := by decide +kernel
theorem dX12_isWord_4 : decode cX12_isWord 4 = .ok (.iconst 1, 1) := by decide +kernel
theorem dX12_isWord_5 : decode cX12_isWord 5 = .ok (.if_icmp .ne 16, 3) := by decide +kernel
theorem dX12_isWord_8 : decode cX12_isWord 8 = .ok (.aload_n 0, 1) := by decide +kernel
theorem dX12_isWord_9 : decode cX12_isWord 9 = .ok (.getfield 32, 3) := by decide +kernel
theorem dX12_isWord_12 : decode cX12_isWord 12 = .ok (.lload_n 1, 1) := by decide +kernel
theorem dX12_isWord_13 : decode cX12_isWord 13 = .ok (.lcmp, 1) := by decide +kernel
theorem dX12_isWord_14 : decode cX12_isWord 14 = .ok (.ifCond .ne 7, 3) := by decide +kernel
theorem dX12_isWord_17 : decode cX12_isWord 17 = .ok (.iconst 1, 1) := by decide +kernel
theorem dX12_isWord_18 : decode cX12_isWord 18 = .ok (.goto 4, 3) := by decide +kernel
theorem dX12_isWord_21 : decode cX12_isWord 21 = .ok (.iconst 0, 1) := by decide +kernel
theorem dX12_isWord_22 : decode cX12_isWord 22 = .ok (.ireturn, 1) := by decide +kernel
set_option maxRecDepth 20000 in
theorem ggX12_must_X12_isSign : GoodIn wsX12_must wsX12_isSign := goodIn_r _ [7, 8, 9, 29, 30, 31, 32, 33, 34, 35, 36, 37, 38, 39, 40, 41, 42, 43, 44, 45, 46, 47, 48, 49, 50, 51, 52, 53, 54, 55, 56, 57, 58, 59, 60, 61, 62, 63, 64, 65, 66, 67, 68, 69, 70, 71, 72, 73, 74, 75, 76, 77, 78, 79, 80, 81, 82, 83, 84, 85, 86, 87, 88, 89, 90, 91, 92, 93, 94, 95, 96, 97, 98, 99, 100, 101, 102, 103] rfl (by decide +kernel)
set_option maxRecDepth 20000 in
theorem gX12_must_X12_isSign : GoodIn wsX12_must (wsV RX12 255 RX12 yX12_isSign wsX12_isSign) := goodIn_app (goodIn_of _ (by decide +kernel)) ggX12_must_X12_isSign
set_option maxRecDepth 20000 in
theorem ggX12_must_X12_blame : GoodIn wsX12_must wsX12_blame := goodIn_r _ [13, 2, 14, 29, 30, 31, 32, 33, 34, 35, 36, 37, 38, 39, 40, 41, 42, 43, 44, 45, 46, 47, 48, 49, 50, 51, 52, 53, 54, 55, 56, 57, 58, 59, 60, 61, 62, 63, 64, 65, 66, 67, 68, 69, 70, 71, 72, 73, 74, 75, 76, 77, 78, 79, 80, 81, 82, 83, 84, 85, 86, 87, 88, 89, 90, 91, 92, 93, 94, 95, 96, 97, 98, 99, 100, 101, 102, 103] rfl (by decide +kernel)
set_option maxRecDepth 20000 in
theorem gX12_must_X12_blame : GoodIn wsX12_must (wsV RX12 251 RX12 yX12_blame wsX12_blame) := goodIn_app (goodIn_of _ (by decide +kernel)) ggX12_must_X12_blame
set_option maxRecDepth 20000 in
theorem ggX12_must_X12_next : GoodIn wsX12_must wsX12_next := goodIn_r _ [18, 19, 20, 21, 1, 8, 9, 22, 23, 24, 6, 25, 26, 27, 28, 10, 11, 12, 13, 2, 14, 29, 30, 31, 32, 33, 34, 35, 36, 37, 38, 39, 40, 41, 42, 43, 44, 45, 46, 47, 48, 49, 50, 51, 52, 53, 54, 55, 56, 57, 58, 59, 60, 61, 62, 63, 64, 65, 66, 67, 68, 69, 70, 71, 72, 73, 74, 75, 76, 77, 78, 79, 80, 81, 82, 83, 84, 85, 86, 87, 88, 89, 90, 91, 92, 93, 94, 95, 96, 97, 98, 99, 100, 101, 102, 103] rfl (by decide +kernel)
set_option maxRecDepth 20000 in
theorem gX12_must_X12_next : GoodIn wsX12_must (wsV RX12 258 RX12 yX12_next wsX12_next) := goodIn_app (goodIn_of _ (by decide +kernel)) ggX12_must_X12_next
theorem dX12_must_0 : decode cX12_must 0 = .ok (.aload_n 0, 1) := by decide +kernel
theorem dX12_must_1 : decode cX12_must 1 = .ok (.iload_n 1, 1) := by decide +kernel
theorem dX12_must_2 : decode cX12_must 2 = .ok (.invokevirtual 255, 3) := by decide +kernel
theorem dX12_must_5 : decode cX12_must 5 = .ok (.ifCond .ne 12, 3) := by decide +kernel
theorem dX12_must_8 : decode cX12_must 8 = .ok (.aload_n 0, 1) := by decide +kernel
theorem dX12_must_9 : decode cX12_must 9 = .ok (.iconst 1, 1) := by decide +kernel
theorem dX12_must_10 : decode cX12_must 10 = .ok (.aload_n 0, 1) := by decide +kernel
theorem dX12_must_11 : decode cX12_must 11 = .ok (.getfield 23, 3) := by decide +kernel
theorem dX12_must_14 : decode cX12_must 14 = .ok (.invokevirtual 251, 3) := by decide +kernel
theorem dX12_must_17 : decode cX12_must 17 = .ok (.aload_n 0, 1) := by decide +kernel
theorem dX12_must_18 : decode cX12_must 18 = .ok (.getfield 36, 3) := by decide +kernel
theorem dX12_must_21 : decode cX12_must 21 = .ok (.ifCond .ne 7, 3) := by decide +kernel
theorem dX12_must_24 : decode cX12_must 24 = .ok (.aload_n 0, 1) := by decide +kernel
theorem dX12_must_25 : decode cX12_must 25 = .ok (.invokevirtual 258, 3) := by decide +kernel
theorem dX12_must_28 : decode cX12_must 28 = .ok (.return_, 1) := by decide +kernel
theorem dX12_isOwn_0 : decode cX12_isOwn 0 = .ok (.lload_n 1, 1) := by decide +kernel
theorem dX12_isOwn_1 : decode cX12_isOwn 1 = .ok (.ldc2_w 261, 3) := by decide +kernel
theorem dX12_isOwn_4 : decode cX12_isOwn 4 = .ok (.lcmp, 1) := by decide +kernel
theorem dX12_isOwn_5 : decode cX12_isOwn 5 = .ok (.ifCond .eq 35, 3) := by decide +kernel
theorem dX12_isOwn_8 : decode cX12_isOwn 8 = .ok (.lload_n 1, 1) := by decide +kernel
theorem dX12_isOwn_9 : decode cX12_isOwn 9 = .ok (.ldc2_w 263, 3) := by decide +kernel
theorem dX12_isOwn_12 : decode cX12_isOwn 12 = .ok (.lcmp, 1) := by decide +kernel
theorem dX12_isOwn_13 : decode cX12_isOwn 13 = .ok (.ifCond .eq 27, 3) := by decide +kernel
theorem dX12_isOwn_16 : decode cX12_isOwn 16 = .ok (.lload_n 1, 1) := by decide +kernel
theorem dX12_isOwn_17 : decode cX12_isOwn 17 = .ok (.ldc2_w 265, 3) := by decide +kernel
theorem dX12_isOwn_20 : decode cX12_isOwn 20 = .ok (.lcmp, 1) := by decide +kernel
theorem dX12_isOwn_21 : decode cX12_isOwn 21 = .ok (.ifCond .eq 19, 3) := by decide +kernel
theorem dX12_isOwn_24 : decode cX12_isOwn 24 = .ok (.lload_n 1, 1) := by decide +kernel
theorem dX12_isOwn_25 : decode cX12_isOwn 25 = .ok (.ldc2_w 267, 3) := by decide +kernel
theorem dX12_isOwn_28 : decode cX12_isOwn 28 = .ok (.lcmp, 1) := by decide +kernel
theorem dX12_isOwn_29 : decode cX12_isOwn 29 = .ok (.ifCond .eq 11, 3) := by decide +kernel
theorem dX12_isOwn_32 : decode cX12_isOwn 32 = .ok (.lload_n 1, 1) := by decide +kernel
theorem dX12_isOwn_33 : decode cX12_isOwn 33 = .ok (.ldc2_w 269, 3) := by decide +kernel
theorem dX12_isOwn_36 : decode cX12_isOwn 36 = .ok (.lcmp, 1) := by decide +kernel
theorem dX12_isOwn_37 : decode cX12_isOwn 37 = .ok (.ifCond .ne 5, 3) := by decide +kernel
theorem dX12_isOwn_40 : decode cX12_isOwn 40 = .ok (.iconst 1, 1) := by decide +kernel
theorem dX12_isOwn_41 : decode cX12_isOwn 41 = .ok (.ireturn, 1) := by decide +kernel
theorem dX12_isOwn_42 : decode cX12_isOwn 42 = .ok (.lload_n 1, 1) := by decide +kernel
theorem dX12_isOwn_43 : decode cX12_isOwn 43 = .ok (.ldc2_w 271, 3) := by decide +kernel
theorem dX12_isOwn_46 : decode cX12_isOwn 46 = .ok (.lcmp, 1) := by decide +kernel
theorem dX12_isOwn_47 : decode cX12_isOwn 47 = .ok (.ifCond .eq 35, 3) := by decide +kernel
theorem dX12_isOwn_50 : decode cX12_isOwn 50 = .ok (.lload_n 1, 1) := by decide +kernel
theorem dX12_isOwn_51 : decode cX12_isOwn 51 = .ok (.ldc2_w 273, 3) := by decide +kernel
theorem dX12_isOwn_54 : decode cX12_isOwn 54 = .ok (.lcmp, 1) := by decide +kernel
theorem dX12_isOwn_55 : decode cX12_isOwn 55 = .ok (.ifCond .eq 27, 3) := by decide +kernel
theorem dX12_isOwn_58 : decode cX12_isOwn 58 = .ok (.lload_n 1, 1) := by decide +kernel
theorem dX12_isOwn_59 : decode cX12_isOwn 59 = .ok (.ldc2_w 275, 3) := by decide +kernel
theorem dX12_isOwn_62 : decode cX12_isOwn 62 = .ok (.lcmp, 1) := by decide +kernel
theorem dX12_isOwn_63 : decode cX12_isOwn 63 = .ok (.ifCond .eq 19, 3) := by decide +kernel
theorem dX12_isOwn_66 : decode cX12_isOwn 66 = .ok (.lload_n 1, 1) := by decide +kernel
theorem dX12_isOwn_67 : decode cX12_isOwn 67 = .ok (.ldc2_w 277, 3) := by decide +kernel
theorem dX12_isOwn_70 : decode cX12_isOwn 70 = .ok (.lcmp, 1) := by decide +kernel
theorem dX12_isOwn_71 : decode cX12_isOwn 71 = .ok (.ifCond .eq 11, 3) := by decide +kernel
theorem dX12_isOwn_74 : decode cX12_isOwn 74 = .ok (.lload_n 1, 1) := by decide +kernel
theorem dX12_isOwn_75 : decode cX12_isOwn 75 = .ok (.ldc2_w 279, 3) := by decide +kernel
theorem dX12_isOwn_78 : decode cX12_isOwn 78 = .ok (.lcmp, 1) := by decide +kernel
theorem dX12_isOwn_79 : decode cX12_isOwn 79 = .ok (.ifCond .ne 5, 3) := by decide +kernel
theorem dX12_isOwn_82 : decode cX12_isOwn 82 = .ok (.iconst 1, 1) := by decide +kernel
theorem dX12_isOwn_83 : decode cX12_isOwn 83 = .ok (.ireturn, 1) := by decide +kernel
theorem dX12_isOwn_84 : decode cX12_isOwn 84 = .ok (.lload_n 1, 1) := by decide +kernel
theorem dX12_isOwn_85 : decode cX12_isOwn 85 = .ok (.ldc2_w 281, 3) := by decide +kernel
theorem dX12_isOwn_88 : decode cX12_isOwn 88 = .ok (.lcmp, 1) := by decide +kernel
theorem dX12_isOwn_89 : decode cX12_isOwn 89 = .ok (.ifCond .eq 35, 3) := by decide +kernel
theorem dX12_isOwn_92 : decode cX12_isOwn 92 = .ok (.lload_n 1, 1) := by decide +kernel
theorem dX12_isOwn_93 : decode cX12_isOwn 93 = .ok (.ldc2_w 283, 3) := by decide +kernel
theorem dX12_isOwn_96 : decode cX12_isOwn 96 = .ok (.lcmp, 1) := by decide +kernel
theorem dX12_isOwn_97 : decode cX12_isOwn 97 = .ok (.ifCond .eq 27, 3) := by decide +kernel
theorem dX12_isOwn_100 : decode cX12_isOwn 100 = .ok (.lload_n 1, 1) := by decide +kernel
theorem dX12_isOwn_101 : decode cX12_isOwn 101 = .ok (.ldc2_w 285, 3) := by decide +kernel
theorem dX12_isOwn_104 : decode cX12_isOwn 104 = .ok (.lcmp, 1) := by decide +kernel
theorem dX12_isOwn_105 : decode cX12_isOwn 105 = .ok (.ifCond .eq 19, 3) := by decide +kernel
theorem dX12_isOwn_108 : decode cX12_isOwn 108 = .ok (.lload_n 1, 1) := by decide +kernel
theorem dX12_isOwn_109 : decode cX12_isOwn 109 = .ok (.ldc2_w 287, 3) := by decide +kernel
theorem dX12_isOwn_112 : decode cX12_isOwn 112 = .ok (.lcmp, 1) := by decide +kernel
theorem dX12_isOwn_113 : decode cX12_isOwn 113 = .ok (.ifCond .eq 11, 3) := by decide +kernel
theorem dX12_isOwn_116 : decode cX12_isOwn 116 = .ok (.lload_n 1, 1) := by decide +kernel
theorem dX12_isOwn_117 : decode cX12_isOwn 117 = .ok (.ldc2_w 289, 3) := by decide +kernel
theorem dX12_isOwn_120 : decode cX12_isOwn 120 = .ok (.lcmp, 1) := by decide +kernel
theorem dX12_isOwn_121 : decode cX12_isOwn 121 = .ok (.ifCond .ne 5, 3) := by decide +kernel
theorem dX12_isOwn_124 : decode cX12_isOwn 124 = .ok (.iconst 1, 1) := by decide +kernel
theorem dX12_isOwn_125 : decode cX12_isOwn 125 = .ok (.ireturn, 1) := by decide +kernel
theorem dX12_isOwn_126 : decode cX12_isOwn 126 = .ok (.lload_n 1, 1) := by decide +kernel
theorem dX12_isOwn_127 : decode cX12_isOwn 127 = .ok (.ldc2_w 291, 3) := by decide +kernel
theorem dX12_isOwn_130 : decode cX12_isOwn 130 = .ok (.lcmp, 1) := by decide +kernel
theorem dX12_isOwn_131 : decode cX12_isOwn 131 = .ok (.ifCond .eq 11, 3) := by decide +kernel
theorem dX12_isOwn_134 : decode cX12_isOwn 134 = .ok (.lload_n 1, 1) := by decide +kernel
theorem dX12_isOwn_135 : decode cX12_isOwn 135 = .ok (.ldc2_w 293, 3) := by decide +kernel
theorem dX12_isOwn_138 : decode cX12_isOwn 138 = .ok (.lcmp, 1) := by decide +kernel
theorem dX12_isOwn_139 : decode cX12_isOwn 139 = .ok (.ifCond .ne 5, 3) := by decide +kernel
theorem dX12_isOwn_142 : decode cX12_isOwn 142 = .ok (.iconst 1, 1) := by decide +kernel
theorem dX12_isOwn_143 : decode cX12_isOwn 143 = .ok (.ireturn, 1) := by decide +kernel
theorem dX12_isOwn_144 : decode cX12_isOwn 144 = .ok (.iconst 0, 1) := by decide +kernel
theorem dX12_isOwn_145 : decode cX12_isOwn 145 = .ok (.ireturn, 1) := by decide +kernel
theorem dX12_whoOf_0 : decode cX12_whoOf 0 = .ok (.iconst 0, 1) := by decide +kernel
theorem dX12_whoOf_1 : decode cX12_whoOf 1 = .ok (.istore_n 3, 1) := by decide +kernel
theorem dX12_whoOf_2 : decode cX12_whoOf 2 = .ok (.iload_n 3, 1) := by decide +kernel
theorem dX12_whoOf_3 : decode cX12_whoOf 3 = .ok (.aload_n 0, 1) := by decide +kernel
theorem dX12_whoOf_4 : decode cX12_whoOf 4 = .ok (.getfield 51, 3) := by decide +kernel
theorem dX12_whoOf_7 : decode cX12_whoOf 7 = .ok (.aload_n 0, 1) := by decide +kernel
theorem dX12_whoOf_8 : decode cX12_whoOf 8 = .ok (.getfield 107, 3) := by decide +kernel
theorem dX12_whoOf_11 : decode cX12_whoOf 11 = .ok (.iaload, 1) := by decide +kernel
theorem dX12_whoOf_12 : decode cX12_whoOf 12 = .ok (.if_icmp .ge 30, 3) := by decide +kernel
theorem dX12_whoOf_15 : decode cX12_whoOf 15 = .ok (.aload_n 0, 1) := by decide +kernel
theorem dX12_whoOf_16 : decode cX12_whoOf 16 = .ok (.getfield 63, 3) := by decide +kernel
theorem dX12_whoOf_19 : decode cX12_whoOf 19 = .ok (.bipush 12, 2) := by decide +kernel
theorem dX12_whoOf_21 : decode cX12_whoOf 21 = .ok (.aload_n 0, 1) := by decide +kernel
theorem dX12_whoOf_22 : decode cX12_whoOf 22 = .ok (.getfield 107, 3) := by decide +kernel
theorem dX12_whoOf_25 : decode cX12_whoOf 25 = .ok (.imul, 1) := by decide +kernel
theorem dX12_whoOf_26 : decode cX12_whoOf 26 = .ok (.iload_n 3, 1) := by decide +kernel
theorem dX12_whoOf_27 : decode cX12_whoOf 27 = .ok (.iadd, 1) := by decide +kernel
theorem dX12_whoOf_28 : decode cX12_whoOf 28 = .ok (.laload, 1) := by decide +kernel
theorem dX12_whoOf_29 : decode cX12_whoOf 29 = .ok (.lload_n 1, 1) := by decide +kernel
theorem dX12_whoOf_30 : decode cX12_whoOf 30 = .ok (.lcmp, 1) := by decide +kernel
theorem dX12_whoOf_31 : decode cX12_whoOf 31 = .ok (.ifCond .ne 5, 3) := by decide +kernel
theorem dX12_whoOf_34 : decode cX12_whoOf 34 = .ok (.iload_n 3, 1) := by decide +kernel
theorem dX12_whoOf_35 : decode cX12_whoOf 35 = .ok (.ireturn, 1) := by decide +kernel
theorem dX12_whoOf_36 : decode cX12_whoOf 36 = .ok (.iinc 3 1, 3) := by decide +kernel
theorem dX12_whoOf_39 : decode cX12_whoOf 39 = .ok (.goto (-37), 3) := by decide +kernel
theorem dX12_whoOf_42 : decode cX12_whoOf 42 = .ok (.iconst (-1), 1) := by decide +kernel
theorem dX12_whoOf_43 : decode cX12_whoOf 43 = .ok (.ireturn, 1) := by decide +kernel
theorem dX12_roadOf_0 : decode cX12_roadOf 0 = .ok (.bipush 30, 2) := by decide +kernel
theorem dX12_roadOf_2 : decode cX12_roadOf 2 = .ok (.aload_n 0, 1) := by decide +kernel
theorem dX12_roadOf_3 : decode cX12_roadOf 3 = .ok (.getfield 107, 3) := by decide +kernel
theorem dX12_roadOf_6 : decode cX12_roadOf 6 = .ok (.imul, 1) := by decide +kernel
theorem dX12_roadOf_7 : decode cX12_roadOf 7 = .ok (.istore_n 3, 1) := by decide +kernel
theorem dX12_roadOf_8 : decode cX12_roadOf 8 = .ok (.iload_n 3, 1) := by decide +kernel
theorem dX12_roadOf_9 : decode cX12_roadOf 9 = .ok (.bipush 30, 2) := by decide +kernel
theorem dX12_roadOf_11 : decode cX12_roadOf 11 = .ok (.aload_n 0, 1) := by decide +kernel
theorem dX12_roadOf_12 : decode cX12_roadOf 12 = .ok (.getfield 107, 3) := by decide +kernel
theorem dX12_roadOf_15 : decode cX12_roadOf 15 = .ok (.imul, 1) := by decide +kernel
theorem dX12_roadOf_16 : decode cX12_roadOf 16 = .ok (.aload_n 0, 1) := by decide +kernel
theorem dX12_roadOf_17 : decode cX12_roadOf 17 = .ok (.getfield 54, 3) := by decide +kernel
theorem dX12_roadOf_20 : decode cX12_roadOf 20 = .ok (.aload_n 0, 1) := by decide +kernel
theorem dX12_roadOf_21 : decode cX12_roadOf 21 = .ok (.getfield 107, 3) := by decide +kernel
theorem dX12_roadOf_24 : decode cX12_roadOf 24 = .ok (.iaload, 1) := by decide +kernel
theorem dX12_roadOf_25 : decode cX12_roadOf 25 = .ok (.iadd, 1) := by decide +kernel
theorem dX12_roadOf_26 : decode cX12_roadOf 26 = .ok (.if_icmp .ge 51, 3) := by decide +kernel
theorem dX12_roadOf_29 : decode cX12_roadOf 29 = .ok (.aload_n 0, 1) := by decide +kernel
theorem dX12_roadOf_30 : decode cX12_roadOf 30 = .ok (.getfield 70, 3) := by decide +kernel
theorem dX12_roadOf_33 : decode cX12_roadOf 33 = .ok (.iload_n 3, 1) := by decide +kernel
theorem dX12_roadOf_34 : decode cX12_roadOf 34 = .ok (.iaload, 1) := by decide +kernel
theorem dX12_roadOf_35 : decode cX12_roadOf 35 = .ok (.iload_n 1, 1) := by decide +kernel
theorem dX12_roadOf_36 : decode cX12_roadOf 36 = .ok (.if_icmp .ne 13, 3) := by decide +kernel
theorem dX12_roadOf_39 : decode cX12_roadOf 39 = .ok (.aload_n 0, 1) := by decide +kernel
theorem dX12_roadOf_40 : decode cX12_roadOf 40 = .ok (.getfield 73, 3) := by decide +kernel
theorem dX12_roadOf_43 : decode cX12_roadOf 43 = .ok (.iload_n 3, 1) := by decide +kernel
theorem dX12_roadOf_44 : decode cX12_roadOf 44 = .ok (.iaload, 1) := by decide +kernel
theorem dX12_roadOf_45 : decode cX12_roadOf 45 = .ok (.iload_n 2, 1) := by decide +kernel
theorem dX12_roadOf_46 : decode cX12_roadOf 46 = .ok (.if_icmp .eq 23, 3) := by decide +kernel
theorem dX12_roadOf_49 : decode cX12_roadOf 49 = .ok (.aload_n 0, 1) := by decide +kernel
theorem dX12_roadOf_50 : decode cX12_roadOf 50 = .ok (.getfield 70, 3) := by decide +kernel
theorem dX12_roadOf_53 : decode cX12_roadOf 53 = .ok (.iload_n 3, 1) := by decide +kernel
theorem dX12_roadOf_54 : decode cX12_roadOf 54 = .ok (.iaload, 1) := by decide +kernel
theorem dX12_roadOf_55 : decode cX12_roadOf 55 = .ok (.iload_n 2, 1) := by decide +kernel
theorem dX12_roadOf_56 : decode cX12_roadOf 56 = .ok (.if_icmp .ne 15, 3) := by decide +kernel
theorem dX12_roadOf_59 : decode cX12_roadOf 59 = .ok (.aload_n 0, 1) := by decide +kernel
theorem dX12_roadOf_60 : decode cX12_roadOf 60 = .ok (.getfield 73, 3) := by decide +kernel
theorem dX12_roadOf_63 : decode cX12_roadOf 63 = .ok (.iload_n 3, 1) := by decide +kernel
theorem dX12_roadOf_64 : decode cX12_roadOf 64 = .ok (.iaload, 1) := by decide +kernel
theorem dX12_roadOf_65 : decode cX12_roadOf 65 = .ok (.iload_n 1, 1) := by decide +kernel
theorem dX12_roadOf_66 : decode cX12_roadOf 66 = .ok (.if_icmp .ne 5, 3) := by decide +kernel
theorem dX12_roadOf_69 : decode cX12_roadOf 69 = .ok (.iload_n 3, 1) := by decide +kernel
theorem dX12_roadOf_70 : decode cX12_roadOf 70 = .ok (.ireturn, 1) := by decide +kernel
theorem dX12_roadOf_71 : decode cX12_roadOf 71 = .ok (.iinc 3 1, 3) := by decide +kernel
theorem dX12_roadOf_74 : decode cX12_roadOf 74 = .ok (.goto (-66), 3) := by decide +kernel
theorem dX12_roadOf_77 : decode cX12_roadOf 77 = .ok (.iconst (-1), 1) := by decide +kernel
theorem dX12_roadOf_78 : decode cX12_roadOf 78 = .ok (.ireturn, 1) := by decide +kernel
set_option maxRecDepth 20000 in
theorem ggX12_whoRead_X12_isOwn : GoodIn wsX12_whoRead wsX12_isOwn := goodIn_r _ [9, 10, 11, 12, 13, 14, 15, 16, 17, 18, 19, 20, 21, 22, 23, 24, 25, 26] (by decide +kernel) (by decide +kernel)
set_option maxRecDepth 20000 in
theorem gX12_whoRead_X12_isOwn : GoodIn wsX12_whoRead (wsV RX12 295 RX12 yX12_isOwn wsX12_isOwn) := goodIn_app (goodIn_of _ (by decide +kernel)) ggX12_whoRead_X12_isOwn
set_option maxRecDepth 20000 in
theorem ggX12_whoRead_X12_blame : GoodIn wsX12_whoRead wsX12_blame := goodIn_r _ [30, 1, 31, 39, 40, 41, 42, 43, 44, 45, 46, 47, 48, 49, 50, 51, 52, 53, 54, 55, 56, 57, 58, 59, 60, 61, 62, 63, 64, 65, 66, 67, 68, 69, 70, 71, 72, 73, 74, 75, 76, 77, 78, 79, 80, 81, 82, 83, 84, 85, 86, 87, 88, 89, 90, 91, 92, 93, 94, 95, 96, 97, 98, 99, 100, 101, 102, 103, 104, 105, 106, 107, 108, 109, 110, 111, 112, 113] rfl (by decide +kernel)
set_option maxRecDepth 20000 in
theorem gX12_whoRead_X12_blame : GoodIn wsX12_whoRead (wsV RX12 251 RX12 yX12_blame wsX12_blame) := goodIn_app (goodIn_of _ (by decide +kernel)) ggX12_whoRead_X12_blame
set_option maxRecDepth 20000 in
theorem ggX12_whoRead_X12_whoOf : GoodIn wsX12_whoRead wsX12_whoOf := goodIn_r _ [35, 36, 37, 38, 39, 40, 41, 42, 43, 44, 45, 46, 47, 48, 49, 50, 51, 52, 53, 54, 55, 56, 57, 58, 59, 60, 61, 62, 63, 64, 65, 66, 67, 68, 69, 70, 71, 72, 73, 74, 75, 76, 77, 78, 79, 80, 81, 82, 83, 84, 85, 86, 87, 88, 89, 90, 91, 92, 93, 94, 95, 96, 97, 98, 99, 100, 101, 102, 103, 104, 105, 106, 107, 108, 109, 110, 111, 112, 113] rfl (by decide +kernel)
set_option maxRecDepth 20000 in
theorem gX12_whoRead_X12_whoOf : GoodIn wsX12_whoRead (wsV RX12 299 RX12 yX12_whoOf wsX12_whoOf) := goodIn_app (goodIn_of _ (by decide +kernel)) ggX12_whoRead_X12_whoOf
theorem dX12_whoRead_0 : decode cX12_whoRead 0 = .ok (.aload_n 0, 1) := by decide +kernel
theorem dX12_whoRead_1 : decode cX12_whoRead 1 = .ok (.getfield 36, 3) := by decide +kernel
theorem dX12_whoRead_4 : decode cX12_whoRead 4 = .ok (.ifCond .le 5, 3) := by decide +kernel
theorem dX12_whoRead_7 : decode cX12_whoRead 7 = .ok (.iconst 0, 1) := by decide +kernel
theorem dX12_whoRead_8 : decode cX12_whoRead 8 = .ok (.ireturn, 1) := by decide +kernel
theorem dX12_whoRead_9 : decode cX12_whoRead 9 = .ok (.aload_n 0, 1) := by decide +kernel
theorem dX12_whoRead_10 : decode cX12_whoRead 10 = .ok (.getfield 20, 3) := by decide +kernel
theorem dX12_whoRead_13 : decode cX12_whoRead 13 = .ok (.iconst 1, 1) := by decide +kernel
theorem dX12_whoRead_14 : decode cX12_whoRead 14 = .ok (.if_icmp .ne 14, 3) := by decide +kernel
theorem dX12_whoRead_17 : decode cX12_whoRead 17 = .ok (.aload_n 0, 1) := by decide +kernel
theorem dX12_whoRead_18 : decode cX12_whoRead 18 = .ok (.aload_n 0, 1) := by decide +kernel
theorem dX12_whoRead_19 : decode cX12_whoRead 19 = .ok (.getfield 32, 3) := by decide +kernel
theorem dX12_whoRead_22 : decode cX12_whoRead 22 = .ok (.invokevirtual 295, 3) := by decide +kernel
theorem dX12_whoRead_25 : decode cX12_whoRead 25 = .ok (.ifCond .eq 12, 3) := by decide +kernel
theorem dX12_whoRead_28 : decode cX12_whoRead 28 = .ok (.aload_n 0, 1) := by decide +kernel
theorem dX12_whoRead_29 : decode cX12_whoRead 29 = .ok (.iconst 1, 1) := by decide +kernel
theorem dX12_whoRead_30 : decode cX12_whoRead 30 = .ok (.aload_n 0, 1) := by decide +kernel
theorem dX12_whoRead_31 : decode cX12_whoRead 31 = .ok (.getfield 23, 3) := by decide +kernel
theorem dX12_whoRead_34 : decode cX12_whoRead 34 = .ok (.invokevirtual 251, 3) := by decide +kernel
theorem dX12_whoRead_37 : decode cX12_whoRead 37 = .ok (.aload_n 0, 1) := by decide +kernel
theorem dX12_whoRead_38 : decode cX12_whoRead 38 = .ok (.getfield 36, 3) := by decide +kernel
theorem dX12_whoRead_41 : decode cX12_whoRead 41 = .ok (.ifCond .le 7, 3) := by decide +kernel
theorem dX12_whoRead_44 : decode cX12_whoRead 44 = .ok (.iconst 0, 1) := by decide +kernel
theorem dX12_whoRead_45 : decode cX12_whoRead 45 = .ok (.goto 11, 3) := by decide +kernel
theorem dX12_whoRead_48 : decode cX12_whoRead 48 = .ok (.aload_n 0, 1) := by decide +kernel
theorem dX12_whoRead_49 : decode cX12_whoRead 49 = .ok (.aload_n 0, 1) := by decide +kernel
theorem dX12_whoRead_50 : decode cX12_whoRead 50 = .ok (.getfield 32, 3) := by decide +kernel
theorem dX12_whoRead_53 : decode cX12_whoRead 53 = .ok (.invokevirtual 299, 3) := by decide +kernel
theorem dX12_whoRead_56 : decode cX12_whoRead 56 = .ok (.istore_n 2, 1) := by decide +kernel
theorem dX12_whoRead_57 : decode cX12_whoRead 57 = .ok (.aload_n 0, 1) := by decide +kernel
theorem dX12_whoRead_58 : decode cX12_whoRead 58 = .ok (.getfield 36, 3) := by decide +kernel
theorem dX12_whoRead_61 : decode cX12_whoRead 61 = .ok (.ifCond .ne 22, 3) := by decide +kernel
theorem dX12_whoRead_64 : decode cX12_whoRead 64 = .ok (.iload_n 2, 1) := by decide +kernel
theorem dX12_whoRead_65 : decode cX12_whoRead 65 = .ok (.iconst (-1), 1) := by decide +kernel
theorem dX12_whoRead_66 : decode cX12_whoRead 66 = .ok (.if_icmp .eq 8, 3) := by decide +kernel
theorem dX12_whoRead_69 : decode cX12_whoRead 69 = .ok (.iload_n 2, 1) := by decide +kernel
theorem dX12_whoRead_70 : decode cX12_whoRead 70 = .ok (.iload_n 1, 1) := by decide +kernel
theorem dX12_whoRead_71 : decode cX12_whoRead 71 = .ok (.if_icmp .ne 12, 3) := by decide +kernel
theorem dX12_whoRead_74 : decode cX12_whoRead 74 = .ok (.aload_n 0, 1) := by decide +kernel
theorem dX12_whoRead_75 : decode cX12_whoRead 75 = .ok (.iconst 3, 1) := by decide +kernel
theorem dX12_whoRead_76 : decode cX12_whoRead 76 = .ok (.aload_n 0, 1) := by decide +kernel
theorem dX12_whoRead_77 : decode cX12_whoRead 77 = .ok (.getfield 23, 3) := by decide +kernel
theorem dX12_whoRead_80 : decode cX12_whoRead 80 = .ok (.invokevirtual 251, 3) := by decide +kernel
theorem dX12_whoRead_83 : decode cX12_whoRead 83 = .ok (.aload_n 0, 1) := by decide +kernel
theorem dX12_whoRead_84 : decode cX12_whoRead 84 = .ok (.getfield 36, 3) := by decide +kernel
theorem dX12_whoRead_87 : decode cX12_whoRead 87 = .ok (.ifCond .le 7, 3) := by decide +kernel
theorem dX12_whoRead_90 : decode cX12_whoRead 90 = .ok (.iconst 0, 1) := by decide +kernel
theorem dX12_whoRead_91 : decode cX12_whoRead 91 = .ok (.goto 4, 3) := by decide +kernel
theorem dX12_whoRead_94 : decode cX12_whoRead 94 = .ok (.iload_n 2, 1) := by decide +kernel
theorem dX12_whoRead_95 : decode cX12_whoRead 95 = .ok (.ireturn, 1) := by decide +kernel
set_option maxRecDepth 20000 in
theorem ggX12_number_X12_blame : GoodIn wsX12_number wsX12_blame := goodIn_r _ [9, 1, 10, 25, 26, 27, 28, 29, 30, 31, 32, 33, 34, 35, 36, 37, 38, 39, 40, 41, 42, 43, 44, 45, 46, 47, 48, 49, 50, 51, 52, 53, 54, 55, 56, 57, 58, 59, 60, 61, 62, 63, 64, 65, 66, 67, 68, 69, 70, 71, 72, 73, 74, 75, 76, 77, 78, 79, 80, 81, 82, 83, 84, 85, 86, 87, 88, 89, 90, 91, 92, 93, 94, 95, 96, 97, 98, 99] rfl (by decide +kernel)
set_option maxRecDepth 20000 in
theorem gX12_number_X12_blame : GoodIn wsX12_number (wsV RX12 251 RX12 yX12_blame wsX12_blame) := goodIn_app (goodIn_of _ (by decide +kernel)) ggX12_number_X12_blame
set_option maxRecDepth 20000 in
theorem ggX12_number_X12_next : GoodIn wsX12_number wsX12_next := goodIn_r _ [14, 15, 16, 17, 3, 2, 4, 18, 19, 20, 8, 21, 22, 23, 24, 5, 6, 7, 9, 1, 10, 25, 26, 27, 28, 29, 30, 31, 32, 33, 34, 35, 36, 37, 38, 39, 40, 41, 42, 43, 44, 45, 46, 47, 48, 49, 50, 51, 52, 53, 54, 55, 56, 57, 58, 59, 60, 61, 62, 63, 64, 65, 66, 67, 68, 69, 70, 71, 72, 73, 74, 75, 76, 77, 78, 79, 80, 81, 82, 83, 84, 85, 86, 87, 88, 89, 90, 91, 92, 93, 94, 95, 96, 97, 98, 99] rfl (by decide +kernel)
set_option maxRecDepth 20000 in
theorem gX12_number_X12_next : GoodIn wsX12_number (wsV RX12 258 RX12 yX12_next wsX12_next) := goodIn_app (goodIn_of _ (by decide +kernel)) ggX12_number_X12_next
theorem dX12_number_0 : decode cX12_number 0 = .ok (.aload_n 0, 1) := by decide +kernel
theorem dX12_number_1 : decode cX12_number 1 = .ok (.getfield 36, 3) := by decide +kernel
theorem dX12_number_4 : decode cX12_number 4 = .ok (.ifCond .le 5, 3) := by decide +kernel
theorem dX12_number_7 : decode cX12_number 7 = .ok (.iconst 0, 1) := by decide +kernel
theorem dX12_number_8 : decode cX12_number 8 = .ok (.ireturn, 1) := by decide +kernel
theorem dX12_number_9 : decode cX12_number 9 = .ok (.aload_n 0, 1) := by decide +kernel
theorem dX12_number_10 : decode cX12_number 10 = .ok (.getfield 20, 3) := by decide +kernel
theorem dX12_number_13 : decode cX12_number 13 = .ok (.iconst 2, 1) := by decide +kernel
theorem dX12_number_14 : decode cX12_number 14 = .ok (.if_icmp .eq 12, 3) := by decide +kernel
theorem dX12_number_17 : decode cX12_number 17 = .ok (.aload_n 0, 1) := by decide +kernel
theorem dX12_number_18 : decode cX12_number 18 = .ok (.iconst 1, 1) := by decide +kernel
theorem dX12_number_19 : decode cX12_number 19 = .ok (.aload_n 0, 1) := by decide +kernel
theorem dX12_number_20 : decode cX12_number 20 = .ok (.getfield 23, 3) := by decide +kernel
theorem dX12_number_23 : decode cX12_number 23 = .ok (.invokevirtual 251, 3) := by decide +kernel
theorem dX12_number_26 : decode cX12_number 26 = .ok (.aload_n 0, 1) := by decide +kernel
theorem dX12_number_27 : decode cX12_number 27 = .ok (.getfield 29, 3) := by decide +kernel
theorem dX12_number_30 : decode cX12_number 30 = .ok (.istore_n 1, 1) := by decide +kernel
theorem dX12_number_31 : decode cX12_number 31 = .ok (.aload_n 0, 1) := by decide +kernel
theorem dX12_number_32 : decode cX12_number 32 = .ok (.getfield 36, 3) := by decide +kernel
theorem dX12_number_35 : decode cX12_number 35 = .ok (.ifCond .ne 7, 3) := by decide +kernel
theorem dX12_number_38 : decode cX12_number 38 = .ok (.aload_n 0, 1) := by decide +kernel
theorem dX12_number_39 : decode cX12_number 39 = .ok (.invokevirtual 258, 3) := by decide +kernel
theorem dX12_number_42 : decode cX12_number 42 = .ok (.iload_n 1, 1) := by decide +kernel
theorem dX12_number_43 : decode cX12_number 43 = .ok (.ireturn, 1) := by decide +kernel
theorem dX12_add_0 : decode cX12_add 0 = .ok (.aload_n 0, 1) := by decide +kernel
theorem dX12_add_1 : decode cX12_add 1 = .ok (.getfield 98, 3) := by decide +kernel
theorem dX12_add_4 : decode cX12_add 4 = .ok (.sipush 900, 3) := by decide +kernel
theorem dX12_add_7 : decode cX12_add 7 = .ok (.aload_n 0, 1) := by decide +kernel
theorem dX12_add_8 : decode cX12_add 8 = .ok (.getfield 107, 3) := by decide +kernel
theorem dX12_add_11 : decode cX12_add 11 = .ok (.imul, 1) := by decide +kernel
theorem dX12_add_12 : decode cX12_add 12 = .ok (.aload_n 0, 1) := by decide +kernel
theorem dX12_add_13 : decode cX12_add 13 = .ok (.getfield 104, 3) := by decide +kernel
theorem dX12_add_16 : decode cX12_add 16 = .ok (.iadd, 1) := by decide +kernel
theorem dX12_add_17 : decode cX12_add 17 = .ok (.iload_n 1, 1) := by decide +kernel
theorem dX12_add_18 : decode cX12_add 18 = .ok (.iastore, 1) := by decide +kernel
theorem dX12_add_19 : decode cX12_add 19 = .ok (.aload_n 0, 1) := by decide +kernel
theorem dX12_add_20 : decode cX12_add 20 = .ok (.getfield 101, 3) := by decide +kernel
theorem dX12_add_23 : decode cX12_add 23 = .ok (.sipush 900, 3) := by decide +kernel
theorem dX12_add_26 : decode cX12_add 26 = .ok (.aload_n 0, 1) := by decide +kernel
theorem dX12_add_27 : decode cX12_add 27 = .ok (.getfield 107, 3) := by decide +kernel
theorem dX12_add_30 : decode cX12_add 30 = .ok (.imul, 1) := by decide +kernel
theorem dX12_add_31 : decode cX12_add 31 = .ok (.aload_n 0, 1) := by decide +kernel
theorem dX12_add_32 : decode cX12_add 32 = .ok (.getfield 104, 3) := by decide +kernel
theorem dX12_add_35 : decode cX12_add 35 = .ok (.iadd, 1) := by decide +kernel
theorem dX12_add_36 : decode cX12_add 36 = .ok (.iload_n 2, 1) := by decide +kernel
theorem dX12_add_37 : decode cX12_add 37 = .ok (.iastore, 1) := by decide +kernel
theorem dX12_add_38 : decode cX12_add 38 = .ok (.aload_n 0, 1) := by decide +kernel
theorem dX12_add_39 : decode cX12_add 39 = .ok (.dup, 1) := by decide +kernel
theorem dX12_add_40 : decode cX12_add 40 = .ok (.getfield 104, 3) := by decide +kernel
theorem dX12_add_43 : decode cX12_add 43 = .ok (.iconst 1, 1) := by decide +kernel
theorem dX12_add_44 : decode cX12_add 44 = .ok (.iadd, 1) := by decide +kernel
theorem dX12_add_45 : decode cX12_add 45 = .ok (.putfield 104, 3) := by decide +kernel
theorem dX12_add_48 : decode cX12_add 48 = .ok (.return_, 1) := by decide +kernel
theorem dX12_rank_0 : decode cX12_rank 0 = .ok (.iload_n 0, 1) := by decide +kernel
theorem dX12_rank_1 : decode cX12_rank 1 = .ok (.bipush 17, 2) := by decide +kernel
theorem dX12_rank_3 : decode cX12_rank 3 = .ok (.if_icmp .ne 7, 3) := by decide +kernel
theorem dX12_rank_6 : decode cX12_rank 6 = .ok (.iconst 1, 1) := by decide +kernel
theorem dX12_rank_7 : decode cX12_rank 7 = .ok (.goto 63, 3) := by decide +kernel
theorem dX12_rank_10 : decode cX12_rank 10 = .ok (.iload_n 0, 1) := by decide +kernel
theorem dX12_rank_11 : decode cX12_rank 11 = .ok (.bipush 16, 2) := by decide +kernel
theorem dX12_rank_13 : decode cX12_rank 13 = .ok (.if_icmp .ne 7, 3) := by decide +kernel
theorem dX12_rank_16 : decode cX12_rank 16 = .ok (.iconst 2, 1) := by decide +kernel
theorem dX12_rank_17 : decode cX12_rank 17 = .ok (.goto 53, 3) := by decide +kernel
theorem dX12_rank_20 : decode cX12_rank 20 = .ok (.iload_n 0, 1) := by decide +kernel
theorem dX12_rank_21 : decode cX12_rank 21 = .ok (.bipush 18, 2) := by decide +kernel
theorem dX12_rank_23 : decode cX12_rank 23 = .ok (.if_icmp .ne 7, 3) := by decide +kernel
theorem dX12_rank_26 : decode cX12_rank 26 = .ok (.iconst 3, 1) := by decide +kernel
theorem dX12_rank_27 : decode cX12_rank 27 = .ok (.goto 43, 3) := by decide +kernel
theorem dX12_rank_30 : decode cX12_rank 30 = .ok (.iload_n 0, 1) := by decide +kernel
theorem dX12_rank_31 : decode cX12_rank 31 = .ok (.bipush 13, 2) := by decide +kernel
theorem dX12_rank_33 : decode cX12_rank 33 = .ok (.if_icmp .eq 15, 3) := by decide +kernel
theorem dX12_rank_36 : decode cX12_rank 36 = .ok (.iload_n 0, 1) := by decide +kernel
theorem dX12_rank_37 : decode cX12_rank 37 = .ok (.bipush 14, 2) := by decide +kernel
theorem dX12_rank_39 : decode cX12_rank 39 = .ok (.if_icmp .eq 9, 3) := by decide +kernel
theorem dX12_rank_42 : decode cX12_rank 42 = .ok (.iload_n 0, 1) := by decide +kernel
theorem dX12_rank_43 : decode cX12_rank 43 = .ok (.bipush 15, 2) := by decide +kernel
theorem dX12_rank_45 : decode cX12_rank 45 = .ok (.if_icmp .ne 7, 3) := by decide +kernel
theorem dX12_rank_48 : decode cX12_rank 48 = .ok (.iconst 4, 1) := by decide +kernel
theorem dX12_rank_49 : decode cX12_rank 49 = .ok (.goto 21, 3) := by decide +kernel
theorem dX12_rank_52 : decode cX12_rank 52 = .ok (.iload_n 0, 1) := by decide +kernel
theorem dX12_rank_53 : decode cX12_rank 53 = .ok (.bipush 6, 2) := by decide +kernel
theorem dX12_rank_55 : decode cX12_rank 55 = .ok (.if_icmp .eq 9, 3) := by decide +kernel
theorem dX12_rank_58 : decode cX12_rank 58 = .ok (.iload_n 0, 1) := by decide +kernel
theorem dX12_rank_59 : decode cX12_rank 59 = .ok (.bipush 7, 2) := by decide +kernel
theorem dX12_rank_61 : decode cX12_rank 61 = .ok (.if_icmp .ne 7, 3) := by decide +kernel
theorem dX12_rank_64 : decode cX12_rank 64 = .ok (.iconst 5, 1) := by decide +kernel
theorem dX12_rank_65 : decode cX12_rank 65 = .ok (.goto 5, 3) := by decide +kernel
theorem dX12_rank_68 : decode cX12_rank 68 = .ok (.bipush 6, 2) := by decide +kernel
theorem dX12_rank_70 : decode cX12_rank 70 = .ok (.ireturn, 1) := by decide +kernel
set_option maxRecDepth 20000 in
theorem ggX12_joins_X12_rank : GoodIn wsX12_joins wsX12_rank := goodIn_r _ [8] (by decide +kernel) (by decide +kernel)
set_option maxRecDepth 20000 in
theorem gX12_joins_X12_rank : GoodIn wsX12_joins (va_wsS RX12 303 yX12_rank wsX12_rank) := goodIn_app (goodIn_of _ (by decide +kernel)) ggX12_joins_X12_rank
set_option maxRecDepth 20000 in
theorem ggX12_joins_X12_add : GoodIn wsX12_joins wsX12_add := goodIn_r _ [12, 13, 14, 15, 16, 17, 18, 19, 20, 21, 22, 23, 24, 25, 26, 27, 28, 29, 30, 31, 32, 33, 34, 35, 36, 37, 38, 39, 40, 41, 42, 43, 44, 45, 46, 47, 48, 49, 50, 51, 52, 53, 54, 55, 56, 57, 58, 59, 60, 61, 62, 63, 64, 65, 66, 67, 68, 69, 70, 71, 72, 73, 74, 75, 76, 77, 78, 79, 80, 81, 82, 83, 84, 85, 86, 87, 88, 89, 90, 91] rfl (by decide +kernel)
set_option maxRecDepth 20000 in
theorem gX12_joins_X12_add : GoodIn wsX12_joins (wsV RX12 307 RX12 yX12_add wsX12_add) := goodIn_app (goodIn_of _ (by decide +kernel)) ggX12_joins_X12_add
theorem dX12_joins_0 : decode cX12_joins 0 = .ok (.aload_n 0, 1) := by decide +kernel
theorem dX12_joins_1 : decode cX12_joins 1 = .ok (.getfield 134, 3) := by decide +kernel
theorem dX12_joins_4 : decode cX12_joins 4 = .ok (.aload_n 0, 1) := by decide +kernel
theorem dX12_joins_5 : decode cX12_joins 5 = .ok (.getfield 122, 3) := by decide +kernel
theorem dX12_joins_8 : decode cX12_joins 8 = .ok (.aload_n 0, 1) := by decide +kernel
theorem dX12_joins_9 : decode cX12_joins 9 = .ok (.getfield 125, 3) := by decide +kernel
theorem dX12_joins_12 : decode cX12_joins 12 = .ok (.iconst 1, 1) := by decide +kernel
theorem dX12_joins_13 : decode cX12_joins 13 = .ok (.isub, 1) := by decide +kernel
theorem dX12_joins_14 : decode cX12_joins 14 = .ok (.iaload, 1) := by decide +kernel
theorem dX12_joins_15 : decode cX12_joins 15 = .ok (.if_icmp .le 48, 3) := by decide +kernel
theorem dX12_joins_18 : decode cX12_joins 18 = .ok (.aload_n 0, 1) := by decide +kernel
theorem dX12_joins_19 : decode cX12_joins 19 = .ok (.getfield 131, 3) := by decide +kernel
theorem dX12_joins_22 : decode cX12_joins 22 = .ok (.aload_n 0, 1) := by decide +kernel
theorem dX12_joins_23 : decode cX12_joins 23 = .ok (.getfield 134, 3) := by decide +kernel
theorem dX12_joins_26 : decode cX12_joins 26 = .ok (.iconst 1, 1) := by decide +kernel
theorem dX12_joins_27 : decode cX12_joins 27 = .ok (.isub, 1) := by decide +kernel
theorem dX12_joins_28 : decode cX12_joins 28 = .ok (.iaload, 1) := by decide +kernel
theorem dX12_joins_29 : decode cX12_joins 29 = .ok (.invokestatic 303, 3) := by decide +kernel
theorem dX12_joins_32 : decode cX12_joins 32 = .ok (.iload_n 1, 1) := by decide +kernel
theorem dX12_joins_33 : decode cX12_joins 33 = .ok (.if_icmp .lt 30, 3) := by decide +kernel
theorem dX12_joins_36 : decode cX12_joins 36 = .ok (.aload_n 0, 1) := by decide +kernel
theorem dX12_joins_37 : decode cX12_joins 37 = .ok (.dup, 1) := by decide +kernel
theorem dX12_joins_38 : decode cX12_joins 38 = .ok (.getfield 134, 3) := by decide +kernel
theorem dX12_joins_41 : decode cX12_joins 41 = .ok (.iconst 1, 1) := by decide +kernel
theorem dX12_joins_42 : decode cX12_joins 42 = .ok (.isub, 1) := by decide +kernel
theorem dX12_joins_43 : decode cX12_joins 43 = .ok (.putfield 134, 3) := by decide +kernel
theorem dX12_joins_46 : decode cX12_joins 46 = .ok (.aload_n 0, 1) := by decide +kernel
theorem dX12_joins_47 : decode cX12_joins 47 = .ok (.aload_n 0, 1) := by decide +kernel
theorem dX12_joins_48 : decode cX12_joins 48 = .ok (.getfield 131, 3) := by decide +kernel
theorem dX12_joins_51 : decode cX12_joins 51 = .ok (.aload_n 0, 1) := by decide +kernel
theorem dX12_joins_52 : decode cX12_joins 52 = .ok (.getfield 134, 3) := by decide +kernel
theorem dX12_joins_55 : decode cX12_joins 55 = .ok (.iaload, 1) := by decide +kernel
theorem dX12_joins_56 : decode cX12_joins 56 = .ok (.iconst 0, 1) := by decide +kernel
theorem dX12_joins_57 : decode cX12_joins 57 = .ok (.invokevirtual 307, 3) := by decide +kernel
theorem dX12_joins_60 : decode cX12_joins 60 = .ok (.goto (-60), 3) := by decide +kernel
theorem dX12_joins_63 : decode cX12_joins 63 = .ok (.return_, 1) := by decide +kernel
theorem dX12_holdsBack_0 : decode cX12_holdsBack 0 = .ok (.aload_n 0, 1) := by decide +kernel
theorem dX12_holdsBack_1 : decode cX12_holdsBack 1 = .ok (.getfield 131, 3) := by decide +kernel
theorem dX12_holdsBack_4 : decode cX12_holdsBack 4 = .ok (.aload_n 0, 1) := by decide +kernel
theorem dX12_holdsBack_5 : decode cX12_holdsBack 5 = .ok (.getfield 134, 3) := by decide +kernel
theorem dX12_holdsBack_8 : decode cX12_holdsBack 8 = .ok (.iload_n 1, 1) := by decide +kernel
theorem dX12_holdsBack_9 : decode cX12_holdsBack 9 = .ok (.iastore, 1) := by decide +kernel
theorem dX12_holdsBack_10 : decode cX12_holdsBack 10 = .ok (.aload_n 0, 1) := by decide +kernel
theorem dX12_holdsBack_11 : decode cX12_holdsBack 11 = .ok (.dup, 1) := by decide +kernel
theorem dX12_holdsBack_12 : decode cX12_holdsBack 12 = .ok (.getfield 134, 3) := by decide +kernel
theorem dX12_holdsBack_15 : decode cX12_holdsBack 15 = .ok (.iconst 1, 1) := by decide +kernel
theorem dX12_holdsBack_16 : decode cX12_holdsBack 16 = .ok (.iadd, 1) := by decide +kernel
theorem dX12_holdsBack_17 : decode cX12_holdsBack 17 = .ok (.putfield 134, 3) := by decide +kernel
theorem dX12_holdsBack_20 : decode cX12_holdsBack 20 = .ok (.return_, 1) := by decide +kernel
theorem dX12_pushes_0 : decode cX12_pushes 0 = .ok (.aload_n 0, 1) := by decide +kernel
theorem dX12_pushes_1 : decode cX12_pushes 1 = .ok (.getfield 110, 3) := by decide +kernel
theorem dX12_pushes_4 : decode cX12_pushes 4 = .ok (.aload_n 0, 1) := by decide +kernel
theorem dX12_pushes_5 : decode cX12_pushes 5 = .ok (.getfield 125, 3) := by decide +kernel
theorem dX12_pushes_8 : decode cX12_pushes 8 = .ok (.iload_n 1, 1) := by decide +kernel
theorem dX12_pushes_9 : decode cX12_pushes 9 = .ok (.iastore, 1) := by decide +kernel
theorem dX12_pushes_10 : decode cX12_pushes 10 = .ok (.aload_n 0, 1) := by decide +kernel
theorem dX12_pushes_11 : decode cX12_pushes 11 = .ok (.getfield 113, 3) := by decide +kernel
theorem dX12_pushes_14 : decode cX12_pushes 14 = .ok (.aload_n 0, 1) := by decide +kernel
theorem dX12_pushes_15 : decode cX12_pushes 15 = .ok (.getfield 125, 3) := by decide +kernel
theorem dX12_pushes_18 : decode cX12_pushes 18 = .ok (.iconst 0, 1) := by decide +kernel
theorem dX12_pushes_19 : decode cX12_pushes 19 = .ok (.iastore, 1) := by decide +kernel
theorem dX12_pushes_20 : decode cX12_pushes 20 = .ok (.aload_n 0, 1) := by decide +kernel
theorem dX12_pushes_21 : decode cX12_pushes 21 = .ok (.getfield 116, 3) := by decide +kernel
theorem dX12_pushes_24 : decode cX12_pushes 24 = .ok (.aload_n 0, 1) := by decide +kernel
theorem dX12_pushes_25 : decode cX12_pushes 25 = .ok (.getfield 125, 3) := by decide +kernel
theorem dX12_pushes_28 : decode cX12_pushes 28 = .ok (.iconst 1, 1) := by decide +kernel
theorem dX12_pushes_29 : decode cX12_pushes 29 = .ok (.bastore, 1) := by decide +kernel
theorem dX12_pushes_30 : decode cX12_pushes 30 = .ok (.aload_n 0, 1) := by decide +kernel
theorem dX12_pushes_31 : decode cX12_pushes 31 = .ok (.getfield 122, 3) := by decide +kernel
theorem dX12_pushes_34 : decode cX12_pushes 34 = .ok (.aload_n 0, 1) := by decide +kernel
theorem dX12_pushes_35 : decode cX12_pushes 35 = .ok (.getfield 125, 3) := by decide +kernel
theorem dX12_pushes_38 : decode cX12_pushes 38 = .ok (.aload_n 0, 1) := by decide +kernel
theorem dX12_pushes_39 : decode cX12_pushes 39 = .ok (.getfield 134, 3) := by decide +kernel
theorem dX12_pushes_42 : decode cX12_pushes 42 = .ok (.iastore, 1) := by decide +kernel
theorem dX12_pushes_43 : decode cX12_pushes 43 = .ok (.aload_n 0, 1) := by decide +kernel
theorem dX12_pushes_44 : decode cX12_pushes 44 = .ok (.dup, 1) := by decide +kernel
theorem dX12_pushes_45 : decode cX12_pushes 45 = .ok (.getfield 125, 3) := by decide +kernel
theorem dX12_pushes_48 : decode cX12_pushes 48 = .ok (.iconst 1, 1) := by decide +kernel
theorem dX12_pushes_49 : decode cX12_pushes 49 = .ok (.iadd, 1) := by decide +kernel
theorem dX12_pushes_50 : decode cX12_pushes 50 = .ok (.putfield 125, 3) := by decide +kernel
theorem dX12_pushes_53 : decode cX12_pushes 53 = .ok (.return_, 1) := by decide +kernel
set_option maxRecDepth 20000 in
theorem ggX12_opens_X12_blame : GoodIn wsX12_opens wsX12_blame := goodIn_r _ [8, 3, 9, 36, 37, 38, 39, 40, 41, 42, 43, 44, 45, 46, 47, 48, 49, 50, 51, 52, 53, 54, 55, 56, 57, 58, 59, 60, 61, 62, 63, 64, 65, 66, 67, 68, 69, 70, 71, 72, 73, 74, 75, 76, 77, 78, 79, 80, 81, 82, 83, 84, 85, 86, 87, 88, 89, 90, 91, 92, 93, 94, 95, 96, 97, 98, 99, 100, 101, 102, 103, 104, 105, 106, 107, 108, 109, 110] rfl (by decide +kernel)
set_option maxRecDepth 20000 in
theorem gX12_opens_X12_blame : GoodIn wsX12_opens (wsV RX12 251 RX12 yX12_blame wsX12_blame) := goodIn_app (goodIn_of _ (by decide +kernel)) ggX12_opens_X12_blame
set_option maxRecDepth 20000 in
theorem ggX12_opens_X12_next : GoodIn wsX12_opens wsX12_next := goodIn_r _ [13, 14, 15, 16, 2, 17, 18, 19, 20, 21, 7, 22, 23, 24, 25, 4, 5, 6, 8, 3, 9, 36, 37, 38, 39, 40, 41, 42, 43, 44, 45, 46, 47, 48, 49, 50, 51, 52, 53, 54, 55, 56, 57, 58, 59, 60, 61, 62, 63, 64, 65, 66, 67, 68, 69, 70, 71, 72, 73, 74, 75, 76, 77, 78, 79, 80, 81, 82, 83, 84, 85, 86, 87, 88, 89, 90, 91, 92, 93, 94, 95, 96, 97, 98, 99, 100, 101, 102, 103, 104, 105, 106, 107, 108, 109, 110] rfl (by decide +kernel)
set_option maxRecDepth 20000 in
theorem gX12_opens_X12_next : GoodIn wsX12_opens (wsV RX12 258 RX12 yX12_next wsX12_next) := goodIn_app (goodIn_of _ (by decide +kernel)) ggX12_opens_X12_next
set_option maxRecDepth 20000 in
theorem ggX12_opens_X12_pushes : GoodIn wsX12_opens wsX12_pushes := goodIn_r _ [29, 30, 31, 32, 33, 34, 35, 36, 37, 38, 39, 40, 41, 42, 43, 44, 45, 46, 47, 48, 49, 50, 51, 52, 53, 54, 55, 56, 57, 58, 59, 60, 61, 62, 63, 64, 65, 66, 67, 68, 69, 70, 71, 72, 73, 74, 75, 76, 77, 78, 79, 80, 81, 82, 83, 84, 85, 86, 87, 88, 89, 90, 91, 92, 93, 94, 95, 96, 97, 98, 99, 100, 101, 102, 103, 104, 105, 106, 107, 108, 109, 110] rfl (by decide +kernel)
set_option maxRecDepth 20000 in
theorem gX12_opens_X12_pushes : GoodIn wsX12_opens (wsV RX12 310 RX12 yX12_pushes wsX12_pushes) := goodIn_app (goodIn_of _ (by decide +kernel)) ggX12_opens_X12_pushes
theorem dX12_opens_0 : decode cX12_opens 0 = .ok (.aload_n 0, 1) := by decide +kernel
theorem dX12_opens_1 : decode cX12_opens 1 = .ok (.getfield 128, 3) := by decide +kernel
theorem dX12_opens_4 : decode cX12_opens 4 = .ok (.bipush 8, 2) := by decide +kernel
theorem dX12_opens_6 : decode cX12_opens 6 = .ok (.if_icmp .ne 12, 3) := by decide +kernel
theorem dX12_opens_9 : decode cX12_opens 9 = .ok (.aload_n 0, 1) := by decide +kernel
theorem dX12_opens_10 : decode cX12_opens 10 = .ok (.iconst 5, 1) := by decide +kernel
theorem dX12_opens_11 : decode cX12_opens 11 = .ok (.aload_n 0, 1) := by decide +kernel
theorem dX12_opens_12 : decode cX12_opens 12 = .ok (.getfield 23, 3) := by decide +kernel
theorem dX12_opens_15 : decode cX12_opens 15 = .ok (.invokevirtual 251, 3) := by decide +kernel
theorem dX12_opens_18 : decode cX12_opens 18 = .ok (.aload_n 0, 1) := by decide +kernel
theorem dX12_opens_19 : decode cX12_opens 19 = .ok (.getfield 36, 3) := by decide +kernel
theorem dX12_opens_22 : decode cX12_opens 22 = .ok (.ifCond .le 4, 3) := by decide +kernel
theorem dX12_opens_25 : decode cX12_opens 25 = .ok (.return_, 1) := by decide +kernel
theorem dX12_opens_26 : decode cX12_opens 26 = .ok (.aload_n 0, 1) := by decide +kernel
theorem dX12_opens_27 : decode cX12_opens 27 = .ok (.dup, 1) := by decide +kernel
theorem dX12_opens_28 : decode cX12_opens 28 = .ok (.getfield 128, 3) := by decide +kernel
theorem dX12_opens_31 : decode cX12_opens 31 = .ok (.iconst 1, 1) := by decide +kernel
theorem dX12_opens_32 : decode cX12_opens 32 = .ok (.iadd, 1) := by decide +kernel
theorem dX12_opens_33 : decode cX12_opens 33 = .ok (.putfield 128, 3) := by decide +kernel
theorem dX12_opens_36 : decode cX12_opens 36 = .ok (.aload_n 0, 1) := by decide +kernel
theorem dX12_opens_37 : decode cX12_opens 37 = .ok (.invokevirtual 258, 3) := by decide +kernel
theorem dX12_opens_40 : decode cX12_opens 40 = .ok (.aload_n 0, 1) := by decide +kernel
theorem dX12_opens_41 : decode cX12_opens 41 = .ok (.iload_n 1, 1) := by decide +kernel
theorem dX12_opens_42 : decode cX12_opens 42 = .ok (.invokevirtual 310, 3) := by decide +kernel
theorem dX12_opens_45 : decode cX12_opens 45 = .ok (.return_, 1) := by decide +kernel
theorem dX12_isTest_0 : decode cX12_isTest 0 = .ok (.iload_n 0, 1) := by decide +kernel
theorem dX12_isTest_1 : decode cX12_isTest 1 = .ok (.iconst 1, 1) := by decide +kernel
theorem dX12_isTest_2 : decode cX12_isTest 2 = .ok (.if_icmp .eq 8, 3) := by decide +kernel
theorem dX12_isTest_5 : decode cX12_isTest 5 = .ok (.iload_n 0, 1) := by decide +kernel
theorem dX12_isTest_6 : decode cX12_isTest 6 = .ok (.iconst 5, 1) := by decide +kernel
theorem dX12_isTest_7 : decode cX12_isTest 7 = .ok (.if_icmp .ne 7, 3) := by decide +kernel
theorem dX12_isTest_10 : decode cX12_isTest 10 = .ok (.iconst 1, 1) := by decide +kernel
theorem dX12_isTest_11 : decode cX12_isTest 11 = .ok (.goto 4, 3) := by decide +kernel
theorem dX12_isTest_14 : decode cX12_isTest 14 = .ok (.iconst 0, 1) := by decide +kernel
theorem dX12_isTest_15 : decode cX12_isTest 15 = .ok (.ireturn, 1) := by decide +kernel
set_option maxRecDepth 20000 in
theorem ggX12_part_X12_isTest : GoodIn wsX12_part wsX12_isTest := goodIn_r _ [21] (by decide +kernel) (by decide +kernel)
set_option maxRecDepth 20000 in
theorem gX12_part_X12_isTest : GoodIn wsX12_part (va_wsS RX12 313 yX12_isTest wsX12_isTest) := goodIn_app (goodIn_of _ (by decide +kernel)) ggX12_part_X12_isTest
set_option maxRecDepth 20000 in
theorem ggX12_part_X12_isWord : GoodIn wsX12_part wsX12_isWord := goodIn_r _ [25, 16, 26, 96, 97, 98, 99, 100, 101, 102, 103, 104, 105, 106, 107, 108, 109, 110, 111, 112, 113, 114, 115, 116, 117, 118, 119, 120, 121, 122, 123, 124, 125, 126, 127, 128, 129, 130, 131, 132, 133, 134, 135, 136, 137, 138, 139, 140, 141, 142, 143, 144, 145, 146, 147, 148, 149, 150, 151, 152, 153, 154, 155, 156, 157, 158, 159, 160, 161, 162, 163, 164, 165, 166, 167, 168, 169, 170] rfl (by decide +kernel)
set_option maxRecDepth 20000 in
theorem gX12_part_X12_isWord : GoodIn wsX12_part (wsV RX12 316 RX12 yX12_isWord wsX12_isWord) := goodIn_app (goodIn_of _ (by decide +kernel)) ggX12_part_X12_isWord
set_option maxRecDepth 20000 in
theorem ggX12_part_X12_holdsBack : GoodIn wsX12_part wsX12_holdsBack := goodIn_r _ [30, 31, 32, 96, 97, 98, 99, 100, 101, 102, 103, 104, 105, 106, 107, 108, 109, 110, 111, 112, 113, 114, 115, 116, 117, 118, 119, 120, 121, 122, 123, 124, 125, 126, 127, 128, 129, 130, 131, 132, 133, 134, 135, 136, 137, 138, 139, 140, 141, 142, 143, 144, 145, 146, 147, 148, 149, 150, 151, 152, 153, 154, 155, 156, 157, 158, 159, 160, 161, 162, 163, 164, 165, 166, 167, 168, 169, 170] rfl (by decide +kernel)
set_option maxRecDepth 20000 in
theorem gX12_part_X12_holdsBack : GoodIn wsX12_part (wsV RX12 319 RX12 yX12_holdsBack wsX12_holdsBack) := goodIn_app (goodIn_of _ (by decide +kernel)) ggX12_part_X12_holdsBack
set_option maxRecDepth 20000 in
theorem ggX12_part_X12_next : GoodIn wsX12_part wsX12_next := goodIn_r _ [36, 37, 38, 39, 9, 16, 17, 26, 40, 41, 20, 42, 43, 44, 45, 46, 47, 48, 49, 10, 50, 96, 97, 98, 99, 100, 101, 102, 103, 104, 105, 106, 107, 108, 109, 110, 111, 112, 113, 114, 115, 116, 117, 118, 119, 120, 121, 122, 123, 124, 125, 126, 127, 128, 129, 130, 131, 132, 133, 134, 135, 136, 137, 138, 139, 140, 141, 142, 143, 144, 145, 146, 147, 148, 149, 150, 151, 152, 153, 154, 155, 156, 157, 158, 159, 160, 161, 162, 163, 164, 165, 166, 167, 168, 169, 170] rfl (by decide +kernel)
set_option maxRecDepth 20000 in
theorem gX12_part_X12_next : GoodIn wsX12_part (wsV RX12 258 RX12 yX12_next wsX12_next) := goodIn_app (goodIn_of _ (by decide +kernel)) ggX12_part_X12_next
set_option maxRecDepth 20000 in
theorem ggX12_part_X12_isSign : GoodIn wsX12_part wsX12_isSign := goodIn_r _ [54, 16, 17, 96, 97, 98, 99, 100, 101, 102, 103, 104, 105, 106, 107, 108, 109, 110, 111, 112, 113, 114, 115, 116, 117, 118, 119, 120, 121, 122, 123, 124, 125, 126, 127, 128, 129, 130, 131, 132, 133, 134, 135, 136, 137, 138, 139, 140, 141, 142, 143, 144, 145, 146, 147, 148, 149, 150, 151, 152, 153, 154, 155, 156, 157, 158, 159, 160, 161, 162, 163, 164, 165, 166, 167, 168, 169, 170] rfl (by decide +kernel)
set_option maxRecDepth 20000 in
theorem gX12_part_X12_isSign : GoodIn wsX12_part (wsV RX12 255 RX12 yX12_isSign wsX12_isSign) := goodIn_app (goodIn_of _ (by decide +kernel)) ggX12_part_X12_isSign
set_option maxRecDepth 20000 in
theorem ggX12_part_X12_opens : GoodIn wsX12_part wsX12_opens := goodIn_r _ [58, 59, 9, 10, 46, 47, 48, 20, 49, 50, 33, 34, 35, 36, 37, 38, 39, 16, 17, 26, 40, 41, 42, 43, 44, 45, 60, 61, 62, 63, 2, 1, 6, 3, 64, 32, 96, 97, 98, 99, 100, 101, 102, 103, 104, 105, 106, 107, 108, 109, 110, 111, 112, 113, 114, 115, 116, 117, 118, 119, 120, 121, 122, 123, 124, 125, 126, 127, 128, 129, 130, 131, 132, 133, 134, 135, 136, 137, 138, 139, 140, 141, 142, 143, 144, 145, 146, 147, 148, 149, 150, 151, 152, 153, 154, 155, 156, 157, 158, 159, 160, 161, 162, 163, 164, 165, 166, 167, 168, 169, 170] rfl (by decide +kernel)
set_option maxRecDepth 20000 in
theorem gX12_part_X12_opens : GoodIn wsX12_part (wsV RX12 322 RX12 yX12_opens wsX12_opens) := goodIn_app (goodIn_of _ (by decide +kernel)) ggX12_part_X12_opens
set_option maxRecDepth 20000 in
theorem ggX12_part_X12_add : GoodIn wsX12_part wsX12_add := goodIn_r _ [68, 69, 70, 71, 72, 96, 97, 98, 99, 100, 101, 102, 103, 104, 105, 106, 107, 108, 109, 110, 111, 112, 113, 114, 115, 116, 117, 118, 119, 120, 121, 122, 123, 124, 125, 126, 127, 128, 129, 130, 131, 132, 133, 134, 135, 136, 137, 138, 139, 140, 141, 142, 143, 144, 145, 146, 147, 148, 149, 150, 151, 152, 153, 154, 155, 156, 157, 158, 159, 160, 161, 162, 163, 164, 165, 166, 167, 168, 169, 170] rfl (by decide +kernel)
set_option maxRecDepth 20000 in
theorem gX12_part_X12_add : GoodIn wsX12_part (wsV RX12 307 RX12 yX12_add wsX12_add) := goodIn_app (goodIn_of _ (by decide +kernel)) ggX12_part_X12_add
set_option maxRecDepth 20000 in
theorem ggX12_part_X12_blame : GoodIn wsX12_part wsX12_blame := goodIn_r _ [49, 10, 50, 96, 97, 98, 99, 100, 101, 102, 103, 104, 105, 106, 107, 108, 109, 110, 111, 112, 113, 114, 115, 116, 117, 118, 119, 120, 121, 122, 123, 124, 125, 126, 127, 128, 129, 130, 131, 132, 133, 134, 135, 136, 137, 138, 139, 140, 141, 142, 143, 144, 145, 146, 147, 148, 149, 150, 151, 152, 153, 154, 155, 156, 157, 158, 159, 160, 161, 162, 163, 164, 165, 166, 167, 168, 169, 170] rfl (by decide +kernel)
set_option maxRecDepth 20000 in
theorem gX12_part_X12_blame : GoodIn wsX12_part (wsV RX12 251 RX12 yX12_blame wsX12_blame) := goodIn_app (goodIn_of _ (by decide +kernel)) ggX12_part_X12_blame
set_option maxRecDepth 20000 in
theorem ggX12_part_X12_whoRead : GoodIn wsX12_part wsX12_whoRead := goodIn_r _ [76, 10, 16, 26, 9, 77, 78, 79, 20, 80, 81, 12, 82, 83, 84, 85, 86, 87, 88, 89, 4, 5, 13, 14, 15, 7, 8, 46, 47, 48, 49, 50, 90, 91, 92, 93, 94, 70, 95, 96, 97, 98, 99, 100, 101, 102, 103, 104, 105, 106, 107, 108, 109, 110, 111, 112, 113, 114, 115, 116, 117, 118, 119, 120, 121, 122, 123, 124, 125, 126, 127, 128, 129, 130, 131, 132, 133, 134, 135, 136, 137, 138, 139, 140, 141, 142, 143, 144, 145, 146, 147, 148, 149, 150, 151, 152, 153, 154, 155, 156, 157, 158, 159, 160, 161, 162, 163, 164, 165, 166, 167, 168, 169, 170] rfl (by decide +kernel)
set_option maxRecDepth 20000 in
theorem gX12_part_X12_whoRead : GoodIn wsX12_part (wsV RX12 325 RX12 yX12_whoRead wsX12_whoRead) := goodIn_app (goodIn_of _ (by decide +kernel)) ggX12_part_X12_whoRead
theorem dX12_part_0 : decode cX12_part 0 = .ok (.aload_n 0, 1) := by decide +kernel
theorem dX12_part_1 : decode cX12_part 1 = .ok (.getfield 125, 3) := by decide +kernel
theorem dX12_part_4 : decode cX12_part 4 = .ok (.iconst 1, 1) := by decide +kernel
theorem dX12_part_5 : decode cX12_part 5 = .ok (.isub, 1) := by decide +kernel
theorem dX12_part_6 : decode cX12_part 6 = .ok (.istore_n 1, 1) := by decide +kernel
theorem dX12_part_7 : decode cX12_part 7 = .ok (.aload_n 0, 1) := by decide +kernel
theorem dX12_part_8 : decode cX12_part 8 = .ok (.getfield 110, 3) := by decide +kernel
theorem dX12_part_11 : decode cX12_part 11 = .ok (.iload_n 1, 1) := by decide +kernel
theorem dX12_part_12 : decode cX12_part 12 = .ok (.iaload, 1) := by decide +kernel
theorem dX12_part_13 : decode cX12_part 13 = .ok (.invokestatic 313, 3) := by decide +kernel
theorem dX12_part_16 : decode cX12_part 16 = .ok (.ifCond .eq 16, 3) := by decide +kernel
theorem dX12_part_19 : decode cX12_part 19 = .ok (.aload_n 0, 1) := by decide +kernel
theorem dX12_part_20 : decode cX12_part 20 = .ok (.getfield 116, 3) := by decide +kernel
theorem dX12_part_23 : decode cX12_part 23 = .ok (.iload_n 1, 1) := by decide +kernel
theorem dX12_part_24 : decode cX12_part 24 = .ok (.baload, 1) := by decide +kernel
theorem dX12_part_25 : decode cX12_part 25 = .ok (.ifCond .eq 7, 3) := by decide +kernel
theorem dX12_part_28 : decode cX12_part 28 = .ok (.iconst 1, 1) := by decide +kernel
theorem dX12_part_29 : decode cX12_part 29 = .ok (.goto 4, 3) := by decide +kernel
theorem dX12_part_32 : decode cX12_part 32 = .ok (.iconst 0, 1) := by decide +kernel
theorem dX12_part_33 : decode cX12_part 33 = .ok (.istore_n 2, 1) := by decide +kernel
theorem dX12_part_34 : decode cX12_part 34 = .ok (.iload_n 2, 1) := by decide +kernel
theorem dX12_part_35 : decode cX12_part 35 = .ok (.ifCond .eq 25, 3) := by decide +kernel
theorem dX12_part_38 : decode cX12_part 38 = .ok (.aload_n 0, 1) := by decide +kernel
theorem dX12_part_39 : decode cX12_part 39 = .ok (.ldc2_w 281, 3) := by decide +kernel
theorem dX12_part_42 : decode cX12_part 42 = .ok (.invokevirtual 316, 3) := by decide +kernel
theorem dX12_part_45 : decode cX12_part 45 = .ok (.ifCond .eq 15, 3) := by decide +kernel
theorem dX12_part_48 : decode cX12_part 48 = .ok (.aload_n 0, 1) := by decide +kernel
theorem dX12_part_49 : decode cX12_part 49 = .ok (.bipush 18, 2) := by decide +kernel
theorem dX12_part_51 : decode cX12_part 51 = .ok (.invokevirtual 319, 3) := by decide +kernel
theorem dX12_part_54 : decode cX12_part 54 = .ok (.aload_n 0, 1) := by decide +kernel
theorem dX12_part_55 : decode cX12_part 55 = .ok (.invokevirtual 258, 3) := by decide +kernel
theorem dX12_part_58 : decode cX12_part 58 = .ok (.iconst 0, 1) := by decide +kernel
theorem dX12_part_59 : decode cX12_part 59 = .ok (.ireturn, 1) := by decide +kernel
theorem dX12_part_60 : decode cX12_part 60 = .ok (.aload_n 0, 1) := by decide +kernel
theorem dX12_part_61 : decode cX12_part 61 = .ok (.getfield 116, 3) := by decide +kernel
theorem dX12_part_64 : decode cX12_part 64 = .ok (.iload_n 1, 1) := by decide +kernel
theorem dX12_part_65 : decode cX12_part 65 = .ok (.iconst 0, 1) := by decide +kernel
theorem dX12_part_66 : decode cX12_part 66 = .ok (.bastore, 1) := by decide +kernel
theorem dX12_part_67 : decode cX12_part 67 = .ok (.iload_n 2, 1) := by decide +kernel
theorem dX12_part_68 : decode cX12_part 68 = .ok (.ifCond .eq 19, 3) := by decide +kernel
theorem dX12_part_71 : decode cX12_part 71 = .ok (.aload_n 0, 1) := by decide +kernel
theorem dX12_part_72 : decode cX12_part 72 = .ok (.bipush 91, 2) := by decide +kernel
theorem dX12_part_74 : decode cX12_part 74 = .ok (.invokevirtual 255, 3) := by decide +kernel
theorem dX12_part_77 : decode cX12_part 77 = .ok (.ifCond .eq 10, 3) := by decide +kernel
theorem dX12_part_80 : decode cX12_part 80 = .ok (.aload_n 0, 1) := by decide +kernel
theorem dX12_part_81 : decode cX12_part 81 = .ok (.iconst 5, 1) := by decide +kernel
theorem dX12_part_82 : decode cX12_part 82 = .ok (.invokevirtual 322, 3) := by decide +kernel
theorem dX12_part_85 : decode cX12_part 85 = .ok (.iconst 0, 1) := by decide +kernel
theorem dX12_part_86 : decode cX12_part 86 = .ok (.ireturn, 1) := by decide +kernel
theorem dX12_part_87 : decode cX12_part 87 = .ok (.iload_n 2, 1) := by decide +kernel
theorem dX12_part_88 : decode cX12_part 88 = .ok (.ifCond .eq 32, 3) := by decide +kernel
theorem dX12_part_91 : decode cX12_part 91 = .ok (.aload_n 0, 1) := by decide +kernel
theorem dX12_part_92 : decode cX12_part 92 = .ok (.ldc2_w 283, 3) := by decide +kernel
theorem dX12_part_95 : decode cX12_part 95 = .ok (.invokevirtual 316, 3) := by decide +kernel
theorem dX12_part_98 : decode cX12_part 98 = .ok (.ifCond .eq 22, 3) := by decide +kernel
theorem dX12_part_101 : decode cX12_part 101 = .ok (.aload_n 0, 1) := by decide +kernel
theorem dX12_part_102 : decode cX12_part 102 = .ok (.iconst 5, 1) := by decide +kernel
theorem dX12_part_103 : decode cX12_part 103 = .ok (.iconst 0, 1) := by decide +kernel
theorem dX12_part_104 : decode cX12_part 104 = .ok (.invokevirtual 307, 3) := by decide +kernel
theorem dX12_part_107 : decode cX12_part 107 = .ok (.aload_n 0, 1) := by decide +kernel
theorem dX12_part_108 : decode cX12_part 108 = .ok (.getfield 113, 3) := by decide +kernel
theorem dX12_part_111 : decode cX12_part 111 = .ok (.iload_n 1, 1) := by decide +kernel
theorem dX12_part_112 : decode cX12_part 112 = .ok (.iconst 2, 1) := by decide +kernel
theorem dX12_part_113 : decode cX12_part 113 = .ok (.iastore, 1) := by decide +kernel
theorem dX12_part_114 : decode cX12_part 114 = .ok (.aload_n 0, 1) := by decide +kernel
theorem dX12_part_115 : decode cX12_part 115 = .ok (.invokevirtual 258, 3) := by decide +kernel
theorem dX12_part_118 : decode cX12_part 118 = .ok (.iconst 1, 1) := by decide +kernel
theorem dX12_part_119 : decode cX12_part 119 = .ok (.ireturn, 1) := by decide +kernel
theorem dX12_part_120 : decode cX12_part 120 = .ok (.aload_n 0, 1) := by decide +kernel
theorem dX12_part_121 : decode cX12_part 121 = .ok (.bipush 40, 2) := by decide +kernel
theorem dX12_part_123 : decode cX12_part 123 = .ok (.invokevirtual 255, 3) := by decide +kernel
theorem dX12_part_126 : decode cX12_part 126 = .ok (.ifCond .eq 10, 3) := by decide +kernel
theorem dX12_part_129 : decode cX12_part 129 = .ok (.aload_n 0, 1) := by decide +kernel
theorem dX12_part_130 : decode cX12_part 130 = .ok (.iconst 2, 1) := by decide +kernel
theorem dX12_part_131 : decode cX12_part 131 = .ok (.invokevirtual 322, 3) := by decide +kernel
theorem dX12_part_134 : decode cX12_part 134 = .ok (.iconst 0, 1) := by decide +kernel
theorem dX12_part_135 : decode cX12_part 135 = .ok (.ireturn, 1) := by decide +kernel
theorem dX12_part_136 : decode cX12_part 136 = .ok (.aload_n 0, 1) := by decide +kernel
theorem dX12_part_137 : decode cX12_part 137 = .ok (.ldc2_w 291, 3) := by decide +kernel
theorem dX12_part_140 : decode cX12_part 140 = .ok (.invokevirtual 316, 3) := by decide +kernel
theorem dX12_part_143 : decode cX12_part 143 = .ok (.ifCond .ne 13, 3) := by decide +kernel
theorem dX12_part_146 : decode cX12_part 146 = .ok (.aload_n 0, 1) := by decide +kernel
theorem dX12_part_147 : decode cX12_part 147 = .ok (.ldc2_w 293, 3) := by decide +kernel
theorem dX12_part_150 : decode cX12_part 150 = .ok (.invokevirtual 316, 3) := by decide +kernel
theorem dX12_part_153 : decode cX12_part 153 = .ok (.ifCond .eq 69, 3) := by decide +kernel
theorem dX12_part_156 : decode cX12_part 156 = .ok (.aload_n 0, 1) := by decide +kernel
theorem dX12_part_157 : decode cX12_part 157 = .ok (.ldc2_w 291, 3) := by decide +kernel
theorem dX12_part_160 : decode cX12_part 160 = .ok (.invokevirtual 316, 3) := by decide +kernel
theorem dX12_part_163 : decode cX12_part 163 = .ok (.ifCond .eq 8, 3) := by decide +kernel
theorem dX12_part_166 : decode cX12_part 166 = .ok (.bipush 11, 2) := by decide +kernel
theorem dX12_part_168 : decode cX12_part 168 = .ok (.goto 5, 3) := by decide +kernel
theorem dX12_part_171 : decode cX12_part 171 = .ok (.bipush 12, 2) := by decide +kernel
theorem dX12_part_173 : decode cX12_part 173 = .ok (.istore_n 3, 1) := by decide +kernel
theorem dX12_part_174 : decode cX12_part 174 = .ok (.aload_n 0, 1) := by decide +kernel
theorem dX12_part_175 : decode cX12_part 175 = .ok (.invokevirtual 258, 3) := by decide +kernel
theorem dX12_part_178 : decode cX12_part 178 = .ok (.aload_n 0, 1) := by decide +kernel
theorem dX12_part_179 : decode cX12_part 179 = .ok (.bipush 40, 2) := by decide +kernel
theorem dX12_part_181 : decode cX12_part 181 = .ok (.invokevirtual 255, 3) := by decide +kernel
theorem dX12_part_184 : decode cX12_part 184 = .ok (.ifCond .ne 12, 3) := by decide +kernel
theorem dX12_part_187 : decode cX12_part 187 = .ok (.aload_n 0, 1) := by decide +kernel
theorem dX12_part_188 : decode cX12_part 188 = .ok (.iconst 1, 1) := by decide +kernel
theorem dX12_part_189 : decode cX12_part 189 = .ok (.aload_n 0, 1) := by decide +kernel
theorem dX12_part_190 : decode cX12_part 190 = .ok (.getfield 23, 3) := by decide +kernel
theorem dX12_part_193 : decode cX12_part 193 = .ok (.invokevirtual 251, 3) := by decide +kernel
theorem dX12_part_196 : decode cX12_part 196 = .ok (.aload_n 0, 1) := by decide +kernel
theorem dX12_part_197 : decode cX12_part 197 = .ok (.iconst 3, 1) := by decide +kernel
theorem dX12_part_198 : decode cX12_part 198 = .ok (.invokevirtual 322, 3) := by decide +kernel
theorem dX12_part_201 : decode cX12_part 201 = .ok (.aload_n 0, 1) := by decide +kernel
theorem dX12_part_202 : decode cX12_part 202 = .ok (.getfield 36, 3) := by decide +kernel
theorem dX12_part_205 : decode cX12_part 205 = .ok (.ifCond .ne 15, 3) := by decide +kernel
theorem dX12_part_208 : decode cX12_part 208 = .ok (.aload_n 0, 1) := by decide +kernel
theorem dX12_part_209 : decode cX12_part 209 = .ok (.getfield 119, 3) := by decide +kernel
theorem dX12_part_212 : decode cX12_part 212 = .ok (.aload_n 0, 1) := by decide +kernel
theorem dX12_part_213 : decode cX12_part 213 = .ok (.getfield 125, 3) := by decide +kernel
theorem dX12_part_216 : decode cX12_part 216 = .ok (.iconst 1, 1) := by decide +kernel
theorem dX12_part_217 : decode cX12_part 217 = .ok (.isub, 1) := by decide +kernel
theorem dX12_part_218 : decode cX12_part 218 = .ok (.iload_n 3, 1) := by decide +kernel
theorem dX12_part_219 : decode cX12_part 219 = .ok (.iastore, 1) := by decide +kernel
theorem dX12_part_220 : decode cX12_part 220 = .ok (.iconst 0, 1) := by decide +kernel
theorem dX12_part_221 : decode cX12_part 221 = .ok (.ireturn, 1) := by decide +kernel
theorem dX12_part_222 : decode cX12_part 222 = .ok (.aload_n 0, 1) := by decide +kernel
theorem dX12_part_223 : decode cX12_part 223 = .ok (.ldc2_w 263, 3) := by decide +kernel
theorem dX12_part_226 : decode cX12_part 226 = .ok (.invokevirtual 316, 3) := by decide +kernel
theorem dX12_part_229 : decode cX12_part 229 = .ok (.ifCond .eq 39, 3) := by decide +kernel
theorem dX12_part_232 : decode cX12_part 232 = .ok (.aload_n 0, 1) := by decide +kernel
theorem dX12_part_233 : decode cX12_part 233 = .ok (.invokevirtual 258, 3) := by decide +kernel
theorem dX12_part_236 : decode cX12_part 236 = .ok (.aload_n 0, 1) := by decide +kernel
theorem dX12_part_237 : decode cX12_part 237 = .ok (.iconst (-1), 1) := by decide +kernel
theorem dX12_part_238 : decode cX12_part 238 = .ok (.invokevirtual 325, 3) := by decide +kernel
theorem dX12_part_241 : decode cX12_part 241 = .ok (.istore_n 3, 1) := by decide +kernel
theorem dX12_part_242 : decode cX12_part 242 = .ok (.aload_n 0, 1) := by decide +kernel
theorem dX12_part_243 : decode cX12_part 243 = .ok (.getfield 36, 3) := by decide +kernel
theorem dX12_part_246 : decode cX12_part 246 = .ok (.ifCond .ne 9, 3) := by decide +kernel
theorem dX12_part_249 : decode cX12_part 249 = .ok (.aload_n 0, 1) := by decide +kernel
theorem dX12_part_250 : decode cX12_part 250 = .ok (.iconst 4, 1) := by decide +kernel
theorem dX12_part_251 : decode cX12_part 251 = .ok (.iload_n 3, 1) := by decide +kernel
theorem dX12_part_252 : decode cX12_part 252 = .ok (.invokevirtual 307, 3) := by decide +kernel
theorem dX12_part_255 : decode cX12_part 255 = .ok (.aload_n 0, 1) := by decide +kernel
theorem dX12_part_256 : decode cX12_part 256 = .ok (.getfield 36, 3) := by decide +kernel
theorem dX12_part_259 : decode cX12_part 259 = .ok (.ifCond .ne 7, 3) := by decide +kernel
theorem dX12_part_262 : decode cX12_part 262 = .ok (.aload_n 0, 1) := by decide +kernel
theorem dX12_part_263 : decode cX12_part 263 = .ok (.invokevirtual 258, 3) := by decide +kernel
theorem dX12_part_266 : decode cX12_part 266 = .ok (.iconst 1, 1) := by decide +kernel
theorem dX12_part_267 : decode cX12_part 267 = .ok (.ireturn, 1) := by decide +kernel
theorem dX12_part_268 : decode cX12_part 268 = .ok (.aload_n 0, 1) := by decide +kernel
theorem dX12_part_269 : decode cX12_part 269 = .ok (.ldc2_w 285, 3) := by decide +kernel
theorem dX12_part_272 : decode cX12_part 272 = .ok (.invokevirtual 316, 3) := by decide +kernel
theorem dX12_part_275 : decode cX12_part 275 = .ok (.ifCond .eq 7, 3) := by decide +kernel
theorem dX12_part_278 : decode cX12_part 278 = .ok (.iconst 1, 1) := by decide +kernel
theorem dX12_part_279 : decode cX12_part 279 = .ok (.goto 32, 3) := by decide +kernel
theorem dX12_part_282 : decode cX12_part 282 = .ok (.aload_n 0, 1) := by decide +kernel
theorem dX12_part_283 : decode cX12_part 283 = .ok (.ldc2_w 287, 3) := by decide +kernel
theorem dX12_part_286 : decode cX12_part 286 = .ok (.invokevirtual 316, 3) := by decide +kernel
theorem dX12_part_289 : decode cX12_part 289 = .ok (.ifCond .eq 7, 3) := by decide +kernel
theorem dX12_part_292 : decode cX12_part 292 = .ok (.iconst 2, 1) := by decide +kernel
theorem dX12_part_293 : decode cX12_part 293 = .ok (.goto 18, 3) := by decide +kernel
theorem dX12_part_296 : decode cX12_part 296 = .ok (.aload_n 0, 1) := by decide +kernel
theorem dX12_part_297 : decode cX12_part 297 = .ok (.ldc2_w 289, 3) := by decide +kernel
theorem dX12_part_300 : decode cX12_part 300 = .ok (.invokevirtual 316, 3) := by decide +kernel
theorem dX12_part_303 : decode cX12_part 303 = .ok (.ifCond .eq 7, 3) := by decide +kernel
theorem dX12_part_306 : decode cX12_part 306 = .ok (.iconst 3, 1) := by decide +kernel
theorem dX12_part_307 : decode cX12_part 307 = .ok (.goto 4, 3) := by decide +kernel
theorem dX12_part_310 : decode cX12_part 310 = .ok (.iconst 0, 1) := by decide +kernel
theorem dX12_part_311 : decode cX12_part 311 = .ok (.istore_n 3, 1) := by decide +kernel
theorem dX12_part_312 : decode cX12_part 312 = .ok (.iload_n 3, 1) := by decide +kernel
theorem dX12_part_313 : decode cX12_part 313 = .ok (.ifCond .ne 20, 3) := by decide +kernel
theorem dX12_part_316 : decode cX12_part 316 = .ok (.aload_n 0, 1) := by decide +kernel
theorem dX12_part_317 : decode cX12_part 317 = .ok (.getfield 20, 3) := by decide +kernel
theorem dX12_part_320 : decode cX12_part 320 = .ok (.iconst 2, 1) := by decide +kernel
theorem dX12_part_321 : decode cX12_part 321 = .ok (.if_icmp .eq 12, 3) := by decide +kernel
theorem dX12_part_324 : decode cX12_part 324 = .ok (.aload_n 0, 1) := by decide +kernel
theorem dX12_part_325 : decode cX12_part 325 = .ok (.iconst 1, 1) := by decide +kernel
theorem dX12_part_326 : decode cX12_part 326 = .ok (.aload_n 0, 1) := by decide +kernel
theorem dX12_part_327 : decode cX12_part 327 = .ok (.getfield 23, 3) := by decide +kernel
theorem dX12_part_330 : decode cX12_part 330 = .ok (.invokevirtual 251, 3) := by decide +kernel
theorem dX12_part_333 : decode cX12_part 333 = .ok (.aload_n 0, 1) := by decide +kernel
theorem dX12_part_334 : decode cX12_part 334 = .ok (.getfield 36, 3) := by decide +kernel
theorem dX12_part_337 : decode cX12_part 337 = .ok (.ifCond .le 5, 3) := by decide +kernel
theorem dX12_part_340 : decode cX12_part 340 = .ok (.iconst 1, 1) := by decide +kernel
theorem dX12_part_341 : decode cX12_part 341 = .ok (.ireturn, 1) := by decide +kernel
theorem dX12_part_342 : decode cX12_part 342 = .ok (.aload_n 0, 1) := by decide +kernel
theorem dX12_part_343 : decode cX12_part 343 = .ok (.iload_n 3, 1) := by decide +kernel
theorem dX12_part_344 : decode cX12_part 344 = .ok (.iload_n 3, 1) := by decide +kernel
theorem dX12_part_345 : decode cX12_part 345 = .ok (.ifCond .ne 10, 3) := by decide +kernel
theorem dX12_part_348 : decode cX12_part 348 = .ok (.aload_n 0, 1) := by decide +kernel
theorem dX12_part_349 : decode cX12_part 349 = .ok (.getfield 29, 3) := by decide +kernel
theorem dX12_part_352 : decode cX12_part 352 = .ok (.goto 4, 3) := by decide +kernel
theorem dX12_part_355 : decode cX12_part 355 = .ok (.iconst 0, 1) := by decide +kernel
theorem dX12_part_356 : decode cX12_part 356 = .ok (.invokevirtual 307, 3) := by decide +kernel
theorem dX12_part_359 : decode cX12_part 359 = .ok (.aload_n 0, 1) := by decide +kernel
theorem dX12_part_360 : decode cX12_part 360 = .ok (.invokevirtual 258, 3) := by decide +kernel
theorem dX12_part_363 : decode cX12_part 363 = .ok (.iconst 1, 1) := by decide +kernel
theorem dX12_part_364 : decode cX12_part 364 = .ok (.ireturn, 1) := by decide +kernel
set_option maxRecDepth 20000 in
theorem ggX12_goesOn_X12_isTest : GoodIn wsX12_goesOn wsX12_isTest := goodIn_r _ [15] (by decide +kernel) (by decide +kernel)
set_option maxRecDepth 20000 in
theorem gX12_goesOn_X12_isTest : GoodIn wsX12_goesOn (va_wsS RX12 313 yX12_isTest wsX12_isTest) := goodIn_app (goodIn_of _ (by decide +kernel)) ggX12_goesOn_X12_isTest
set_option maxRecDepth 20000 in
theorem ggX12_goesOn_X12_isSign : GoodIn wsX12_goesOn wsX12_isSign := goodIn_r _ [19, 20, 21, 67, 68, 69, 70, 71, 72, 73, 74, 75, 76, 77, 78, 79, 80, 81, 82, 83, 84, 85, 86, 87, 88, 89, 90, 91, 92, 93, 94, 95, 96, 97, 98, 99, 100, 101, 102, 103, 104, 105, 106, 107, 108, 109, 110, 111, 112, 113, 114, 115, 116, 117, 118, 119, 120, 121, 122, 123, 124, 125, 126, 127, 128, 129, 130, 131, 132, 133, 134, 135, 136, 137, 138, 139, 140, 141] rfl (by decide +kernel)
set_option maxRecDepth 20000 in
theorem gX12_goesOn_X12_isSign : GoodIn wsX12_goesOn (wsV RX12 255 RX12 yX12_isSign wsX12_isSign) := goodIn_app (goodIn_of _ (by decide +kernel)) ggX12_goesOn_X12_isSign
set_option maxRecDepth 20000 in
theorem ggX12_goesOn_X12_joins : GoodIn wsX12_goesOn wsX12_joins := goodIn_r _ [25, 26, 27, 1, 28, 29, 30, 14, 31, 32, 33, 34, 35, 36, 37, 38, 39, 67, 68, 69, 70, 71, 72, 73, 74, 75, 76, 77, 78, 79, 80, 81, 82, 83, 84, 85, 86, 87, 88, 89, 90, 91, 92, 93, 94, 95, 96, 97, 98, 99, 100, 101, 102, 103, 104, 105, 106, 107, 108, 109, 110, 111, 112, 113, 114, 115, 116, 117, 118, 119, 120, 121, 122, 123, 124, 125, 126, 127, 128, 129, 130, 131, 132, 133, 134, 135, 136, 137, 138, 139, 140, 141] rfl (by decide +kernel)
set_option maxRecDepth 20000 in
theorem gX12_goesOn_X12_joins : GoodIn wsX12_goesOn (wsV RX12 328 RX12 yX12_joins wsX12_joins) := goodIn_app (goodIn_of _ (by decide +kernel)) ggX12_goesOn_X12_joins
set_option maxRecDepth 20000 in
theorem ggX12_goesOn_X12_holdsBack : GoodIn wsX12_goesOn wsX12_holdsBack := goodIn_r _ [43, 28, 26, 67, 68, 69, 70, 71, 72, 73, 74, 75, 76, 77, 78, 79, 80, 81, 82, 83, 84, 85, 86, 87, 88, 89, 90, 91, 92, 93, 94, 95, 96, 97, 98, 99, 100, 101, 102, 103, 104, 105, 106, 107, 108, 109, 110, 111, 112, 113, 114, 115, 116, 117, 118, 119, 120, 121, 122, 123, 124, 125, 126, 127, 128, 129, 130, 131, 132, 133, 134, 135, 136, 137, 138, 139, 140, 141] rfl (by decide +kernel)
set_option maxRecDepth 20000 in
theorem gX12_goesOn_X12_holdsBack : GoodIn wsX12_goesOn (wsV RX12 319 RX12 yX12_holdsBack wsX12_holdsBack) := goodIn_app (goodIn_of _ (by decide +kernel)) ggX12_goesOn_X12_holdsBack
set_option maxRecDepth 20000 in
theorem ggX12_goesOn_X12_next : GoodIn wsX12_goesOn wsX12_next := goodIn_r _ [47, 48, 49, 50, 7, 20, 21, 51, 52, 53, 14, 54, 55, 56, 57, 58, 59, 60, 61, 8, 62, 67, 68, 69, 70, 71, 72, 73, 74, 75, 76, 77, 78, 79, 80, 81, 82, 83, 84, 85, 86, 87, 88, 89, 90, 91, 92, 93, 94, 95, 96, 97, 98, 99, 100, 101, 102, 103, 104, 105, 106, 107, 108, 109, 110, 111, 112, 113, 114, 115, 116, 117, 118, 119, 120, 121, 122, 123, 124, 125, 126, 127, 128, 129, 130, 131, 132, 133, 134, 135, 136, 137, 138, 139, 140, 141] rfl (by decide +kernel)
set_option maxRecDepth 20000 in
theorem gX12_goesOn_X12_next : GoodIn wsX12_goesOn (wsV RX12 258 RX12 yX12_next wsX12_next) := goodIn_app (goodIn_of _ (by decide +kernel)) ggX12_goesOn_X12_next
set_option maxRecDepth 20000 in
theorem ggX12_goesOn_X12_isWord : GoodIn wsX12_goesOn wsX12_isWord := goodIn_r _ [66, 20, 51, 67, 68, 69, 70, 71, 72, 73, 74, 75, 76, 77, 78, 79, 80, 81, 82, 83, 84, 85, 86, 87, 88, 89, 90, 91, 92, 93, 94, 95, 96, 97, 98, 99, 100, 101, 102, 103, 104, 105, 106, 107, 108, 109, 110, 111, 112, 113, 114, 115, 116, 117, 118, 119, 120, 121, 122, 123, 124, 125, 126, 127, 128, 129, 130, 131, 132, 133, 134, 135, 136, 137, 138, 139, 140, 141] rfl (by decide +kernel)
set_option maxRecDepth 20000 in
theorem gX12_goesOn_X12_isWord : GoodIn wsX12_goesOn (wsV RX12 316 RX12 yX12_isWord wsX12_isWord) := goodIn_app (goodIn_of _ (by decide +kernel)) ggX12_goesOn_X12_isWord
set_option maxRecDepth 20000 in
theorem ggX12_goesOn_X12_blame : GoodIn wsX12_goesOn wsX12_blame := goodIn_r _ [61, 8, 62, 67, 68, 69, 70, 71, 72, 73, 74, 75, 76, 77, 78, 79, 80, 81, 82, 83, 84, 85, 86, 87, 88, 89, 90, 91, 92, 93, 94, 95, 96, 97, 98, 99, 100, 101, 102, 103, 104, 105, 106, 107, 108, 109, 110, 111, 112, 113, 114, 115, 116, 117, 118, 119, 120, 121, 122, 123, 124, 125, 126, 127, 128, 129, 130, 131, 132, 133, 134, 135, 136, 137, 138, 139, 140, 141] rfl (by decide +kernel)
set_option maxRecDepth 20000 in
theorem gX12_goesOn_X12_blame : GoodIn wsX12_goesOn (wsV RX12 251 RX12 yX12_blame wsX12_blame) := goodIn_app (goodIn_of _ (by decide +kernel)) ggX12_goesOn_X12_blame
set_option maxRecDepth 20000 in
theorem ggX12_goesOn_X12_add : GoodIn wsX12_goesOn wsX12_add := goodIn_r _ [35, 36, 37, 38, 39, 67, 68, 69, 70, 71, 72, 73, 74, 75, 76, 77, 78, 79, 80, 81, 82, 83, 84, 85, 86, 87, 88, 89, 90, 91, 92, 93, 94, 95, 96, 97, 98, 99, 100, 101, 102, 103, 104, 105, 106, 107, 108, 109, 110, 111, 112, 113, 114, 115, 116, 117, 118, 119, 120, 121, 122, 123, 124, 125, 126, 127, 128, 129, 130, 131, 132, 133, 134, 135, 136, 137, 138, 139, 140, 141] rfl (by decide +kernel)
set_option maxRecDepth 20000 in
theorem gX12_goesOn_X12_add : GoodIn wsX12_goesOn (wsV RX12 307 RX12 yX12_add wsX12_add) := goodIn_app (goodIn_of _ (by decide +kernel)) ggX12_goesOn_X12_add
theorem dX12_goesOn_0 : decode cX12_goesOn 0 = .ok (.aload_n 0, 1) := by decide +kernel
theorem dX12_goesOn_1 : decode cX12_goesOn 1 = .ok (.getfield 125, 3) := by decide +kernel
theorem dX12_goesOn_4 : decode cX12_goesOn 4 = .ok (.iconst 1, 1) := by decide +kernel
theorem dX12_goesOn_5 : decode cX12_goesOn 5 = .ok (.isub, 1) := by decide +kernel
theorem dX12_goesOn_6 : decode cX12_goesOn 6 = .ok (.istore_n 1, 1) := by decide +kernel
theorem dX12_goesOn_7 : decode cX12_goesOn 7 = .ok (.aload_n 0, 1) := by decide +kernel
theorem dX12_goesOn_8 : decode cX12_goesOn 8 = .ok (.getfield 110, 3) := by decide +kernel
theorem dX12_goesOn_11 : decode cX12_goesOn 11 = .ok (.iload_n 1, 1) := by decide +kernel
theorem dX12_goesOn_12 : decode cX12_goesOn 12 = .ok (.iaload, 1) := by decide +kernel
theorem dX12_goesOn_13 : decode cX12_goesOn 13 = .ok (.istore_n 2, 1) := by decide +kernel
theorem dX12_goesOn_14 : decode cX12_goesOn 14 = .ok (.iload_n 2, 1) := by decide +kernel
theorem dX12_goesOn_15 : decode cX12_goesOn 15 = .ok (.invokestatic 313, 3) := by decide +kernel
theorem dX12_goesOn_18 : decode cX12_goesOn 18 = .ok (.istore_n 3, 1) := by decide +kernel
theorem dX12_goesOn_19 : decode cX12_goesOn 19 = .ok (.aload_n 0, 1) := by decide +kernel
theorem dX12_goesOn_20 : decode cX12_goesOn 20 = .ok (.getfield 113, 3) := by decide +kernel
theorem dX12_goesOn_23 : decode cX12_goesOn 23 = .ok (.iload_n 1, 1) := by decide +kernel
theorem dX12_goesOn_24 : decode cX12_goesOn 24 = .ok (.iaload, 1) := by decide +kernel
theorem dX12_goesOn_25 : decode cX12_goesOn 25 = .ok (.iconst 2, 1) := by decide +kernel
theorem dX12_goesOn_26 : decode cX12_goesOn 26 = .ok (.if_icmp .ge 149, 3) := by decide +kernel
theorem dX12_goesOn_29 : decode cX12_goesOn 29 = .ok (.aload_n 0, 1) := by decide +kernel
theorem dX12_goesOn_30 : decode cX12_goesOn 30 = .ok (.bipush 43, 2) := by decide +kernel
theorem dX12_goesOn_32 : decode cX12_goesOn 32 = .ok (.invokevirtual 255, 3) := by decide +kernel
theorem dX12_goesOn_35 : decode cX12_goesOn 35 = .ok (.ifCond .ne 39, 3) := by decide +kernel
theorem dX12_goesOn_38 : decode cX12_goesOn 38 = .ok (.aload_n 0, 1) := by decide +kernel
theorem dX12_goesOn_39 : decode cX12_goesOn 39 = .ok (.bipush 45, 2) := by decide +kernel
theorem dX12_goesOn_41 : decode cX12_goesOn 41 = .ok (.invokevirtual 255, 3) := by decide +kernel
theorem dX12_goesOn_44 : decode cX12_goesOn 44 = .ok (.ifCond .ne 30, 3) := by decide +kernel
theorem dX12_goesOn_47 : decode cX12_goesOn 47 = .ok (.aload_n 0, 1) := by decide +kernel
theorem dX12_goesOn_48 : decode cX12_goesOn 48 = .ok (.bipush 42, 2) := by decide +kernel
theorem dX12_goesOn_50 : decode cX12_goesOn 50 = .ok (.invokevirtual 255, 3) := by decide +kernel
theorem dX12_goesOn_53 : decode cX12_goesOn 53 = .ok (.ifCond .ne 21, 3) := by decide +kernel
theorem dX12_goesOn_56 : decode cX12_goesOn 56 = .ok (.aload_n 0, 1) := by decide +kernel
theorem dX12_goesOn_57 : decode cX12_goesOn 57 = .ok (.bipush 47, 2) := by decide +kernel
theorem dX12_goesOn_59 : decode cX12_goesOn 59 = .ok (.invokevirtual 255, 3) := by decide +kernel
theorem dX12_goesOn_62 : decode cX12_goesOn 62 = .ok (.ifCond .ne 12, 3) := by decide +kernel
theorem dX12_goesOn_65 : decode cX12_goesOn 65 = .ok (.aload_n 0, 1) := by decide +kernel
theorem dX12_goesOn_66 : decode cX12_goesOn 66 = .ok (.bipush 37, 2) := by decide +kernel
theorem dX12_goesOn_68 : decode cX12_goesOn 68 = .ok (.invokevirtual 255, 3) := by decide +kernel
theorem dX12_goesOn_71 : decode cX12_goesOn 71 = .ok (.ifCond .eq 104, 3) := by decide +kernel
theorem dX12_goesOn_74 : decode cX12_goesOn 74 = .ok (.aload_n 0, 1) := by decide +kernel
theorem dX12_goesOn_75 : decode cX12_goesOn 75 = .ok (.aload_n 0, 1) := by decide +kernel
theorem dX12_goesOn_76 : decode cX12_goesOn 76 = .ok (.bipush 43, 2) := by decide +kernel
theorem dX12_goesOn_78 : decode cX12_goesOn 78 = .ok (.invokevirtual 255, 3) := by decide +kernel
theorem dX12_goesOn_81 : decode cX12_goesOn 81 = .ok (.ifCond .ne 12, 3) := by decide +kernel
theorem dX12_goesOn_84 : decode cX12_goesOn 84 = .ok (.aload_n 0, 1) := by decide +kernel
theorem dX12_goesOn_85 : decode cX12_goesOn 85 = .ok (.bipush 45, 2) := by decide +kernel
theorem dX12_goesOn_87 : decode cX12_goesOn 87 = .ok (.invokevirtual 255, 3) := by decide +kernel
theorem dX12_goesOn_90 : decode cX12_goesOn 90 = .ok (.ifCond .eq 7, 3) := by decide +kernel
theorem dX12_goesOn_93 : decode cX12_goesOn 93 = .ok (.iconst 5, 1) := by decide +kernel
theorem dX12_goesOn_94 : decode cX12_goesOn 94 = .ok (.goto 5, 3) := by decide +kernel
theorem dX12_goesOn_97 : decode cX12_goesOn 97 = .ok (.bipush 6, 2) := by decide +kernel
theorem dX12_goesOn_99 : decode cX12_goesOn 99 = .ok (.invokevirtual 328, 3) := by decide +kernel
theorem dX12_goesOn_102 : decode cX12_goesOn 102 = .ok (.aload_n 0, 1) := by decide +kernel
theorem dX12_goesOn_103 : decode cX12_goesOn 103 = .ok (.aload_n 0, 1) := by decide +kernel
theorem dX12_goesOn_104 : decode cX12_goesOn 104 = .ok (.bipush 43, 2) := by decide +kernel
theorem dX12_goesOn_106 : decode cX12_goesOn 106 = .ok (.invokevirtual 255, 3) := by decide +kernel
theorem dX12_goesOn_109 : decode cX12_goesOn 109 = .ok (.ifCond .eq 8, 3) := by decide +kernel
theorem dX12_goesOn_112 : decode cX12_goesOn 112 = .ok (.bipush 6, 2) := by decide +kernel
theorem dX12_goesOn_114 : decode cX12_goesOn 114 = .ok (.goto 47, 3) := by decide +kernel
theorem dX12_goesOn_117 : decode cX12_goesOn 117 = .ok (.aload_n 0, 1) := by decide +kernel
theorem dX12_goesOn_118 : decode cX12_goesOn 118 = .ok (.bipush 45, 2) := by decide +kernel
theorem dX12_goesOn_120 : decode cX12_goesOn 120 = .ok (.invokevirtual 255, 3) := by decide +kernel
theorem dX12_goesOn_123 : decode cX12_goesOn 123 = .ok (.ifCond .eq 8, 3) := by decide +kernel
theorem dX12_goesOn_126 : decode cX12_goesOn 126 = .ok (.bipush 7, 2) := by decide +kernel
theorem dX12_goesOn_128 : decode cX12_goesOn 128 = .ok (.goto 33, 3) := by decide +kernel
theorem dX12_goesOn_131 : decode cX12_goesOn 131 = .ok (.aload_n 0, 1) := by decide +kernel
theorem dX12_goesOn_132 : decode cX12_goesOn 132 = .ok (.bipush 42, 2) := by decide +kernel
theorem dX12_goesOn_134 : decode cX12_goesOn 134 = .ok (.invokevirtual 255, 3) := by decide +kernel
theorem dX12_goesOn_137 : decode cX12_goesOn 137 = .ok (.ifCond .eq 8, 3) := by decide +kernel
theorem dX12_goesOn_140 : decode cX12_goesOn 140 = .ok (.bipush 8, 2) := by decide +kernel
theorem dX12_goesOn_142 : decode cX12_goesOn 142 = .ok (.goto 19, 3) := by decide +kernel
theorem dX12_goesOn_145 : decode cX12_goesOn 145 = .ok (.aload_n 0, 1) := by decide +kernel
theorem dX12_goesOn_146 : decode cX12_goesOn 146 = .ok (.bipush 47, 2) := by decide +kernel
theorem dX12_goesOn_148 : decode cX12_goesOn 148 = .ok (.invokevirtual 255, 3) := by decide +kernel
theorem dX12_goesOn_151 : decode cX12_goesOn 151 = .ok (.ifCond .eq 8, 3) := by decide +kernel
theorem dX12_goesOn_154 : decode cX12_goesOn 154 = .ok (.bipush 9, 2) := by decide +kernel
theorem dX12_goesOn_156 : decode cX12_goesOn 156 = .ok (.goto 5, 3) := by decide +kernel
theorem dX12_goesOn_159 : decode cX12_goesOn 159 = .ok (.bipush 10, 2) := by decide +kernel
theorem dX12_goesOn_161 : decode cX12_goesOn 161 = .ok (.invokevirtual 319, 3) := by decide +kernel
theorem dX12_goesOn_164 : decode cX12_goesOn 164 = .ok (.aload_n 0, 1) := by decide +kernel
theorem dX12_goesOn_165 : decode cX12_goesOn 165 = .ok (.invokevirtual 258, 3) := by decide +kernel
theorem dX12_goesOn_168 : decode cX12_goesOn 168 = .ok (.aload_n 0, 1) := by decide +kernel
theorem dX12_goesOn_169 : decode cX12_goesOn 169 = .ok (.iconst 0, 1) := by decide +kernel
theorem dX12_goesOn_170 : decode cX12_goesOn 170 = .ok (.putfield 137, 3) := by decide +kernel
theorem dX12_goesOn_173 : decode cX12_goesOn 173 = .ok (.iconst 1, 1) := by decide +kernel
theorem dX12_goesOn_174 : decode cX12_goesOn 174 = .ok (.ireturn, 1) := by decide +kernel
theorem dX12_goesOn_175 : decode cX12_goesOn 175 = .ok (.iload_n 3, 1) := by decide +kernel
theorem dX12_goesOn_176 : decode cX12_goesOn 176 = .ok (.ifCond .eq 96, 3) := by decide +kernel
theorem dX12_goesOn_179 : decode cX12_goesOn 179 = .ok (.aload_n 0, 1) := by decide +kernel
theorem dX12_goesOn_180 : decode cX12_goesOn 180 = .ok (.getfield 113, 3) := by decide +kernel
theorem dX12_goesOn_183 : decode cX12_goesOn 183 = .ok (.iload_n 1, 1) := by decide +kernel
theorem dX12_goesOn_184 : decode cX12_goesOn 184 = .ok (.iaload, 1) := by decide +kernel
theorem dX12_goesOn_185 : decode cX12_goesOn 185 = .ok (.ifCond .ne 87, 3) := by decide +kernel
theorem dX12_goesOn_188 : decode cX12_goesOn 188 = .ok (.aload_n 0, 1) := by decide +kernel
theorem dX12_goesOn_189 : decode cX12_goesOn 189 = .ok (.bipush 60, 2) := by decide +kernel
theorem dX12_goesOn_191 : decode cX12_goesOn 191 = .ok (.invokevirtual 255, 3) := by decide +kernel
theorem dX12_goesOn_194 : decode cX12_goesOn 194 = .ok (.ifCond .ne 21, 3) := by decide +kernel
theorem dX12_goesOn_197 : decode cX12_goesOn 197 = .ok (.aload_n 0, 1) := by decide +kernel
theorem dX12_goesOn_198 : decode cX12_goesOn 198 = .ok (.bipush 62, 2) := by decide +kernel
theorem dX12_goesOn_200 : decode cX12_goesOn 200 = .ok (.invokevirtual 255, 3) := by decide +kernel
theorem dX12_goesOn_203 : decode cX12_goesOn 203 = .ok (.ifCond .ne 12, 3) := by decide +kernel
theorem dX12_goesOn_206 : decode cX12_goesOn 206 = .ok (.aload_n 0, 1) := by decide +kernel
theorem dX12_goesOn_207 : decode cX12_goesOn 207 = .ok (.bipush 61, 2) := by decide +kernel
theorem dX12_goesOn_209 : decode cX12_goesOn 209 = .ok (.invokevirtual 255, 3) := by decide +kernel
theorem dX12_goesOn_212 : decode cX12_goesOn 212 = .ok (.ifCond .eq 60, 3) := by decide +kernel
theorem dX12_goesOn_215 : decode cX12_goesOn 215 = .ok (.aload_n 0, 1) := by decide +kernel
theorem dX12_goesOn_216 : decode cX12_goesOn 216 = .ok (.iconst 5, 1) := by decide +kernel
theorem dX12_goesOn_217 : decode cX12_goesOn 217 = .ok (.invokevirtual 328, 3) := by decide +kernel
theorem dX12_goesOn_220 : decode cX12_goesOn 220 = .ok (.aload_n 0, 1) := by decide +kernel
theorem dX12_goesOn_221 : decode cX12_goesOn 221 = .ok (.aload_n 0, 1) := by decide +kernel
theorem dX12_goesOn_222 : decode cX12_goesOn 222 = .ok (.bipush 60, 2) := by decide +kernel
theorem dX12_goesOn_224 : decode cX12_goesOn 224 = .ok (.invokevirtual 255, 3) := by decide +kernel
theorem dX12_goesOn_227 : decode cX12_goesOn 227 = .ok (.ifCond .eq 8, 3) := by decide +kernel
theorem dX12_goesOn_230 : decode cX12_goesOn 230 = .ok (.bipush 13, 2) := by decide +kernel
theorem dX12_goesOn_232 : decode cX12_goesOn 232 = .ok (.goto 19, 3) := by decide +kernel
theorem dX12_goesOn_235 : decode cX12_goesOn 235 = .ok (.aload_n 0, 1) := by decide +kernel
theorem dX12_goesOn_236 : decode cX12_goesOn 236 = .ok (.bipush 62, 2) := by decide +kernel
theorem dX12_goesOn_238 : decode cX12_goesOn 238 = .ok (.invokevirtual 255, 3) := by decide +kernel
theorem dX12_goesOn_241 : decode cX12_goesOn 241 = .ok (.ifCond .eq 8, 3) := by decide +kernel
theorem dX12_goesOn_244 : decode cX12_goesOn 244 = .ok (.bipush 14, 2) := by decide +kernel
theorem dX12_goesOn_246 : decode cX12_goesOn 246 = .ok (.goto 5, 3) := by decide +kernel
theorem dX12_goesOn_249 : decode cX12_goesOn 249 = .ok (.bipush 15, 2) := by decide +kernel
theorem dX12_goesOn_251 : decode cX12_goesOn 251 = .ok (.invokevirtual 319, 3) := by decide +kernel
theorem dX12_goesOn_254 : decode cX12_goesOn 254 = .ok (.aload_n 0, 1) := by decide +kernel
theorem dX12_goesOn_255 : decode cX12_goesOn 255 = .ok (.getfield 113, 3) := by decide +kernel
theorem dX12_goesOn_258 : decode cX12_goesOn 258 = .ok (.iload_n 1, 1) := by decide +kernel
theorem dX12_goesOn_259 : decode cX12_goesOn 259 = .ok (.iconst 1, 1) := by decide +kernel
theorem dX12_goesOn_260 : decode cX12_goesOn 260 = .ok (.iastore, 1) := by decide +kernel
theorem dX12_goesOn_261 : decode cX12_goesOn 261 = .ok (.aload_n 0, 1) := by decide +kernel
theorem dX12_goesOn_262 : decode cX12_goesOn 262 = .ok (.invokevirtual 258, 3) := by decide +kernel
theorem dX12_goesOn_265 : decode cX12_goesOn 265 = .ok (.aload_n 0, 1) := by decide +kernel
theorem dX12_goesOn_266 : decode cX12_goesOn 266 = .ok (.iconst 0, 1) := by decide +kernel
theorem dX12_goesOn_267 : decode cX12_goesOn 267 = .ok (.putfield 137, 3) := by decide +kernel
theorem dX12_goesOn_270 : decode cX12_goesOn 270 = .ok (.iconst 1, 1) := by decide +kernel
theorem dX12_goesOn_271 : decode cX12_goesOn 271 = .ok (.ireturn, 1) := by decide +kernel
theorem dX12_goesOn_272 : decode cX12_goesOn 272 = .ok (.iload_n 3, 1) := by decide +kernel
theorem dX12_goesOn_273 : decode cX12_goesOn 273 = .ok (.ifCond .eq 114, 3) := by decide +kernel
theorem dX12_goesOn_276 : decode cX12_goesOn 276 = .ok (.aload_n 0, 1) := by decide +kernel
theorem dX12_goesOn_277 : decode cX12_goesOn 277 = .ok (.ldc2_w 279, 3) := by decide +kernel
theorem dX12_goesOn_280 : decode cX12_goesOn 280 = .ok (.invokevirtual 316, 3) := by decide +kernel
theorem dX12_goesOn_283 : decode cX12_goesOn 283 = .ok (.ifCond .ne 13, 3) := by decide +kernel
theorem dX12_goesOn_286 : decode cX12_goesOn 286 = .ok (.aload_n 0, 1) := by decide +kernel
theorem dX12_goesOn_287 : decode cX12_goesOn 287 = .ok (.ldc2_w 277, 3) := by decide +kernel
theorem dX12_goesOn_290 : decode cX12_goesOn 290 = .ok (.invokevirtual 316, 3) := by decide +kernel
theorem dX12_goesOn_293 : decode cX12_goesOn 293 = .ok (.ifCond .eq 94, 3) := by decide +kernel
theorem dX12_goesOn_296 : decode cX12_goesOn 296 = .ok (.aload_n 0, 1) := by decide +kernel
theorem dX12_goesOn_297 : decode cX12_goesOn 297 = .ok (.getfield 113, 3) := by decide +kernel
theorem dX12_goesOn_300 : decode cX12_goesOn 300 = .ok (.iload_n 1, 1) := by decide +kernel
theorem dX12_goesOn_301 : decode cX12_goesOn 301 = .ok (.iaload, 1) := by decide +kernel
theorem dX12_goesOn_302 : decode cX12_goesOn 302 = .ok (.ifCond .ne 12, 3) := by decide +kernel
theorem dX12_goesOn_305 : decode cX12_goesOn 305 = .ok (.aload_n 0, 1) := by decide +kernel
theorem dX12_goesOn_306 : decode cX12_goesOn 306 = .ok (.iconst 1, 1) := by decide +kernel
theorem dX12_goesOn_307 : decode cX12_goesOn 307 = .ok (.aload_n 0, 1) := by decide +kernel
theorem dX12_goesOn_308 : decode cX12_goesOn 308 = .ok (.getfield 23, 3) := by decide +kernel
theorem dX12_goesOn_311 : decode cX12_goesOn 311 = .ok (.invokevirtual 251, 3) := by decide +kernel
theorem dX12_goesOn_314 : decode cX12_goesOn 314 = .ok (.aload_n 0, 1) := by decide +kernel
theorem dX12_goesOn_315 : decode cX12_goesOn 315 = .ok (.getfield 36, 3) := by decide +kernel
theorem dX12_goesOn_318 : decode cX12_goesOn 318 = .ok (.ifCond .le 5, 3) := by decide +kernel
theorem dX12_goesOn_321 : decode cX12_goesOn 321 = .ok (.iconst 0, 1) := by decide +kernel
theorem dX12_goesOn_322 : decode cX12_goesOn 322 = .ok (.ireturn, 1) := by decide +kernel
theorem dX12_goesOn_323 : decode cX12_goesOn 323 = .ok (.aload_n 0, 1) := by decide +kernel
theorem dX12_goesOn_324 : decode cX12_goesOn 324 = .ok (.ldc2_w 279, 3) := by decide +kernel
theorem dX12_goesOn_327 : decode cX12_goesOn 327 = .ok (.invokevirtual 316, 3) := by decide +kernel
theorem dX12_goesOn_330 : decode cX12_goesOn 330 = .ok (.istore 4, 2) := by decide +kernel
theorem dX12_goesOn_332 : decode cX12_goesOn 332 = .ok (.aload_n 0, 1) := by decide +kernel
theorem dX12_goesOn_333 : decode cX12_goesOn 333 = .ok (.iload 4, 2) := by decide +kernel
theorem dX12_goesOn_335 : decode cX12_goesOn 335 = .ok (.ifCond .eq 7, 3) := by decide +kernel
theorem dX12_goesOn_338 : decode cX12_goesOn 338 = .ok (.iconst 2, 1) := by decide +kernel
theorem dX12_goesOn_339 : decode cX12_goesOn 339 = .ok (.goto 4, 3) := by decide +kernel
theorem dX12_goesOn_342 : decode cX12_goesOn 342 = .ok (.iconst 1, 1) := by decide +kernel
theorem dX12_goesOn_343 : decode cX12_goesOn 343 = .ok (.invokevirtual 328, 3) := by decide +kernel
theorem dX12_goesOn_346 : decode cX12_goesOn 346 = .ok (.aload_n 0, 1) := by decide +kernel
theorem dX12_goesOn_347 : decode cX12_goesOn 347 = .ok (.iload 4, 2) := by decide +kernel
theorem dX12_goesOn_349 : decode cX12_goesOn 349 = .ok (.ifCond .eq 8, 3) := by decide +kernel
theorem dX12_goesOn_352 : decode cX12_goesOn 352 = .ok (.bipush 16, 2) := by decide +kernel
theorem dX12_goesOn_354 : decode cX12_goesOn 354 = .ok (.goto 5, 3) := by decide +kernel
theorem dX12_goesOn_357 : decode cX12_goesOn 357 = .ok (.bipush 17, 2) := by decide +kernel
theorem dX12_goesOn_359 : decode cX12_goesOn 359 = .ok (.invokevirtual 319, 3) := by decide +kernel
theorem dX12_goesOn_362 : decode cX12_goesOn 362 = .ok (.aload_n 0, 1) := by decide +kernel
theorem dX12_goesOn_363 : decode cX12_goesOn 363 = .ok (.getfield 113, 3) := by decide +kernel
theorem dX12_goesOn_366 : decode cX12_goesOn 366 = .ok (.iload_n 1, 1) := by decide +kernel
theorem dX12_goesOn_367 : decode cX12_goesOn 367 = .ok (.iconst 0, 1) := by decide +kernel
theorem dX12_goesOn_368 : decode cX12_goesOn 368 = .ok (.iastore, 1) := by decide +kernel
theorem dX12_goesOn_369 : decode cX12_goesOn 369 = .ok (.aload_n 0, 1) := by decide +kernel
theorem dX12_goesOn_370 : decode cX12_goesOn 370 = .ok (.getfield 116, 3) := by decide +kernel
theorem dX12_goesOn_373 : decode cX12_goesOn 373 = .ok (.iload_n 1, 1) := by decide +kernel
theorem dX12_goesOn_374 : decode cX12_goesOn 374 = .ok (.iconst 1, 1) := by decide +kernel
theorem dX12_goesOn_375 : decode cX12_goesOn 375 = .ok (.bastore, 1) := by decide +kernel
theorem dX12_goesOn_376 : decode cX12_goesOn 376 = .ok (.aload_n 0, 1) := by decide +kernel
theorem dX12_goesOn_377 : decode cX12_goesOn 377 = .ok (.invokevirtual 258, 3) := by decide +kernel
theorem dX12_goesOn_380 : decode cX12_goesOn 380 = .ok (.aload_n 0, 1) := by decide +kernel
theorem dX12_goesOn_381 : decode cX12_goesOn 381 = .ok (.iconst 0, 1) := by decide +kernel
theorem dX12_goesOn_382 : decode cX12_goesOn 382 = .ok (.putfield 137, 3) := by decide +kernel
theorem dX12_goesOn_385 : decode cX12_goesOn 385 = .ok (.iconst 1, 1) := by decide +kernel
theorem dX12_goesOn_386 : decode cX12_goesOn 386 = .ok (.ireturn, 1) := by decide +kernel
theorem dX12_goesOn_387 : decode cX12_goesOn 387 = .ok (.iload_n 3, 1) := by decide +kernel
theorem dX12_goesOn_388 : decode cX12_goesOn 388 = .ok (.ifCond .eq 21, 3) := by decide +kernel
theorem dX12_goesOn_391 : decode cX12_goesOn 391 = .ok (.aload_n 0, 1) := by decide +kernel
theorem dX12_goesOn_392 : decode cX12_goesOn 392 = .ok (.getfield 113, 3) := by decide +kernel
theorem dX12_goesOn_395 : decode cX12_goesOn 395 = .ok (.iload_n 1, 1) := by decide +kernel
theorem dX12_goesOn_396 : decode cX12_goesOn 396 = .ok (.iaload, 1) := by decide +kernel
theorem dX12_goesOn_397 : decode cX12_goesOn 397 = .ok (.ifCond .ne 12, 3) := by decide +kernel
theorem dX12_goesOn_400 : decode cX12_goesOn 400 = .ok (.aload_n 0, 1) := by decide +kernel
theorem dX12_goesOn_401 : decode cX12_goesOn 401 = .ok (.iconst 1, 1) := by decide +kernel
theorem dX12_goesOn_402 : decode cX12_goesOn 402 = .ok (.aload_n 0, 1) := by decide +kernel
theorem dX12_goesOn_403 : decode cX12_goesOn 403 = .ok (.getfield 23, 3) := by decide +kernel
theorem dX12_goesOn_406 : decode cX12_goesOn 406 = .ok (.invokevirtual 251, 3) := by decide +kernel
theorem dX12_goesOn_409 : decode cX12_goesOn 409 = .ok (.iload_n 2, 1) := by decide +kernel
theorem dX12_goesOn_410 : decode cX12_goesOn 410 = .ok (.iconst 2, 1) := by decide +kernel
theorem dX12_goesOn_411 : decode cX12_goesOn 411 = .ok (.if_icmp .ge 17, 3) := by decide +kernel
theorem dX12_goesOn_414 : decode cX12_goesOn 414 = .ok (.aload_n 0, 1) := by decide +kernel
theorem dX12_goesOn_415 : decode cX12_goesOn 415 = .ok (.getfield 36, 3) := by decide +kernel
theorem dX12_goesOn_418 : decode cX12_goesOn 418 = .ok (.ifCond .ne 8, 3) := by decide +kernel
theorem dX12_goesOn_421 : decode cX12_goesOn 421 = .ok (.aload_n 0, 1) := by decide +kernel
theorem dX12_goesOn_422 : decode cX12_goesOn 422 = .ok (.iconst 1, 1) := by decide +kernel
theorem dX12_goesOn_423 : decode cX12_goesOn 423 = .ok (.invokevirtual 328, 3) := by decide +kernel
theorem dX12_goesOn_426 : decode cX12_goesOn 426 = .ok (.iconst 0, 1) := by decide +kernel
theorem dX12_goesOn_427 : decode cX12_goesOn 427 = .ok (.ireturn, 1) := by decide +kernel
theorem dX12_goesOn_428 : decode cX12_goesOn 428 = .ok (.iload_n 2, 1) := by decide +kernel
theorem dX12_goesOn_429 : decode cX12_goesOn 429 = .ok (.iconst 3, 1) := by decide +kernel
theorem dX12_goesOn_430 : decode cX12_goesOn 430 = .ok (.if_icmp .ne 53, 3) := by decide +kernel
theorem dX12_goesOn_433 : decode cX12_goesOn 433 = .ok (.aload_n 0, 1) := by decide +kernel
theorem dX12_goesOn_434 : decode cX12_goesOn 434 = .ok (.bipush 44, 2) := by decide +kernel
theorem dX12_goesOn_436 : decode cX12_goesOn 436 = .ok (.invokevirtual 255, 3) := by decide +kernel
theorem dX12_goesOn_439 : decode cX12_goesOn 439 = .ok (.ifCond .ne 12, 3) := by decide +kernel
theorem dX12_goesOn_442 : decode cX12_goesOn 442 = .ok (.aload_n 0, 1) := by decide +kernel
theorem dX12_goesOn_443 : decode cX12_goesOn 443 = .ok (.iconst 1, 1) := by decide +kernel
theorem dX12_goesOn_444 : decode cX12_goesOn 444 = .ok (.aload_n 0, 1) := by decide +kernel
theorem dX12_goesOn_445 : decode cX12_goesOn 445 = .ok (.getfield 23, 3) := by decide +kernel
theorem dX12_goesOn_448 : decode cX12_goesOn 448 = .ok (.invokevirtual 251, 3) := by decide +kernel
theorem dX12_goesOn_451 : decode cX12_goesOn 451 = .ok (.aload_n 0, 1) := by decide +kernel
theorem dX12_goesOn_452 : decode cX12_goesOn 452 = .ok (.getfield 36, 3) := by decide +kernel
theorem dX12_goesOn_455 : decode cX12_goesOn 455 = .ok (.ifCond .le 5, 3) := by decide +kernel
theorem dX12_goesOn_458 : decode cX12_goesOn 458 = .ok (.iconst 0, 1) := by decide +kernel
theorem dX12_goesOn_459 : decode cX12_goesOn 459 = .ok (.ireturn, 1) := by decide +kernel
theorem dX12_goesOn_460 : decode cX12_goesOn 460 = .ok (.aload_n 0, 1) := by decide +kernel
theorem dX12_goesOn_461 : decode cX12_goesOn 461 = .ok (.iconst 1, 1) := by decide +kernel
theorem dX12_goesOn_462 : decode cX12_goesOn 462 = .ok (.invokevirtual 328, 3) := by decide +kernel
theorem dX12_goesOn_465 : decode cX12_goesOn 465 = .ok (.aload_n 0, 1) := by decide +kernel
theorem dX12_goesOn_466 : decode cX12_goesOn 466 = .ok (.getfield 110, 3) := by decide +kernel
theorem dX12_goesOn_469 : decode cX12_goesOn 469 = .ok (.iload_n 1, 1) := by decide +kernel
theorem dX12_goesOn_470 : decode cX12_goesOn 470 = .ok (.iconst 4, 1) := by decide +kernel
theorem dX12_goesOn_471 : decode cX12_goesOn 471 = .ok (.iastore, 1) := by decide +kernel
theorem dX12_goesOn_472 : decode cX12_goesOn 472 = .ok (.aload_n 0, 1) := by decide +kernel
theorem dX12_goesOn_473 : decode cX12_goesOn 473 = .ok (.invokevirtual 258, 3) := by decide +kernel
theorem dX12_goesOn_476 : decode cX12_goesOn 476 = .ok (.aload_n 0, 1) := by decide +kernel
theorem dX12_goesOn_477 : decode cX12_goesOn 477 = .ok (.iconst 0, 1) := by decide +kernel
theorem dX12_goesOn_478 : decode cX12_goesOn 478 = .ok (.putfield 137, 3) := by decide +kernel
theorem dX12_goesOn_481 : decode cX12_goesOn 481 = .ok (.iconst 1, 1) := by decide +kernel
theorem dX12_goesOn_482 : decode cX12_goesOn 482 = .ok (.ireturn, 1) := by decide +kernel
theorem dX12_goesOn_483 : decode cX12_goesOn 483 = .ok (.aload_n 0, 1) := by decide +kernel
theorem dX12_goesOn_484 : decode cX12_goesOn 484 = .ok (.iload_n 2, 1) := by decide +kernel
theorem dX12_goesOn_485 : decode cX12_goesOn 485 = .ok (.iconst 5, 1) := by decide +kernel
theorem dX12_goesOn_486 : decode cX12_goesOn 486 = .ok (.if_icmp .ne 8, 3) := by decide +kernel
theorem dX12_goesOn_489 : decode cX12_goesOn 489 = .ok (.bipush 93, 2) := by decide +kernel
theorem dX12_goesOn_491 : decode cX12_goesOn 491 = .ok (.goto 5, 3) := by decide +kernel
theorem dX12_goesOn_494 : decode cX12_goesOn 494 = .ok (.bipush 41, 2) := by decide +kernel
theorem dX12_goesOn_496 : decode cX12_goesOn 496 = .ok (.invokevirtual 255, 3) := by decide +kernel
theorem dX12_goesOn_499 : decode cX12_goesOn 499 = .ok (.ifCond .ne 12, 3) := by decide +kernel
theorem dX12_goesOn_502 : decode cX12_goesOn 502 = .ok (.aload_n 0, 1) := by decide +kernel
theorem dX12_goesOn_503 : decode cX12_goesOn 503 = .ok (.iconst 1, 1) := by decide +kernel
theorem dX12_goesOn_504 : decode cX12_goesOn 504 = .ok (.aload_n 0, 1) := by decide +kernel
theorem dX12_goesOn_505 : decode cX12_goesOn 505 = .ok (.getfield 23, 3) := by decide +kernel
theorem dX12_goesOn_508 : decode cX12_goesOn 508 = .ok (.invokevirtual 251, 3) := by decide +kernel
theorem dX12_goesOn_511 : decode cX12_goesOn 511 = .ok (.aload_n 0, 1) := by decide +kernel
theorem dX12_goesOn_512 : decode cX12_goesOn 512 = .ok (.getfield 36, 3) := by decide +kernel
theorem dX12_goesOn_515 : decode cX12_goesOn 515 = .ok (.ifCond .le 5, 3) := by decide +kernel
theorem dX12_goesOn_518 : decode cX12_goesOn 518 = .ok (.iconst 0, 1) := by decide +kernel
theorem dX12_goesOn_519 : decode cX12_goesOn 519 = .ok (.ireturn, 1) := by decide +kernel
theorem dX12_goesOn_520 : decode cX12_goesOn 520 = .ok (.aload_n 0, 1) := by decide +kernel
theorem dX12_goesOn_521 : decode cX12_goesOn 521 = .ok (.iconst 1, 1) := by decide +kernel
theorem dX12_goesOn_522 : decode cX12_goesOn 522 = .ok (.invokevirtual 328, 3) := by decide +kernel
theorem dX12_goesOn_525 : decode cX12_goesOn 525 = .ok (.aload_n 0, 1) := by decide +kernel
theorem dX12_goesOn_526 : decode cX12_goesOn 526 = .ok (.dup, 1) := by decide +kernel
theorem dX12_goesOn_527 : decode cX12_goesOn 527 = .ok (.getfield 125, 3) := by decide +kernel
theorem dX12_goesOn_530 : decode cX12_goesOn 530 = .ok (.iconst 1, 1) := by decide +kernel
theorem dX12_goesOn_531 : decode cX12_goesOn 531 = .ok (.isub, 1) := by decide +kernel
theorem dX12_goesOn_532 : decode cX12_goesOn 532 = .ok (.putfield 125, 3) := by decide +kernel
theorem dX12_goesOn_535 : decode cX12_goesOn 535 = .ok (.aload_n 0, 1) := by decide +kernel
theorem dX12_goesOn_536 : decode cX12_goesOn 536 = .ok (.dup, 1) := by decide +kernel
theorem dX12_goesOn_537 : decode cX12_goesOn 537 = .ok (.getfield 128, 3) := by decide +kernel
theorem dX12_goesOn_540 : decode cX12_goesOn 540 = .ok (.iconst 1, 1) := by decide +kernel
theorem dX12_goesOn_541 : decode cX12_goesOn 541 = .ok (.isub, 1) := by decide +kernel
theorem dX12_goesOn_542 : decode cX12_goesOn 542 = .ok (.putfield 128, 3) := by decide +kernel
theorem dX12_goesOn_545 : decode cX12_goesOn 545 = .ok (.iload_n 2, 1) := by decide +kernel
theorem dX12_goesOn_546 : decode cX12_goesOn 546 = .ok (.iconst 4, 1) := by decide +kernel
theorem dX12_goesOn_547 : decode cX12_goesOn 547 = .ok (.if_icmp .ne 14, 3) := by decide +kernel
theorem dX12_goesOn_550 : decode cX12_goesOn 550 = .ok (.aload_n 0, 1) := by decide +kernel
theorem dX12_goesOn_551 : decode cX12_goesOn 551 = .ok (.aload_n 0, 1) := by decide +kernel
theorem dX12_goesOn_552 : decode cX12_goesOn 552 = .ok (.getfield 119, 3) := by decide +kernel
theorem dX12_goesOn_555 : decode cX12_goesOn 555 = .ok (.iload_n 1, 1) := by decide +kernel
theorem dX12_goesOn_556 : decode cX12_goesOn 556 = .ok (.iaload, 1) := by decide +kernel
theorem dX12_goesOn_557 : decode cX12_goesOn 557 = .ok (.iconst 0, 1) := by decide +kernel
theorem dX12_goesOn_558 : decode cX12_goesOn 558 = .ok (.invokevirtual 307, 3) := by decide +kernel
theorem dX12_goesOn_561 : decode cX12_goesOn 561 = .ok (.iload_n 2, 1) := by decide +kernel
theorem dX12_goesOn_562 : decode cX12_goesOn 562 = .ok (.iconst 5, 1) := by decide +kernel
theorem dX12_goesOn_563 : decode cX12_goesOn 563 = .ok (.if_icmp .ne 15, 3) := by decide +kernel
theorem dX12_goesOn_566 : decode cX12_goesOn 566 = .ok (.aload_n 0, 1) := by decide +kernel
theorem dX12_goesOn_567 : decode cX12_goesOn 567 = .ok (.getfield 113, 3) := by decide +kernel
theorem dX12_goesOn_570 : decode cX12_goesOn 570 = .ok (.aload_n 0, 1) := by decide +kernel
theorem dX12_goesOn_571 : decode cX12_goesOn 571 = .ok (.getfield 125, 3) := by decide +kernel
theorem dX12_goesOn_574 : decode cX12_goesOn 574 = .ok (.iconst 1, 1) := by decide +kernel
theorem dX12_goesOn_575 : decode cX12_goesOn 575 = .ok (.isub, 1) := by decide +kernel
theorem dX12_goesOn_576 : decode cX12_goesOn 576 = .ok (.iconst 2, 1) := by decide +kernel
theorem dX12_goesOn_577 : decode cX12_goesOn 577 = .ok (.iastore, 1) := by decide +kernel
theorem dX12_goesOn_578 : decode cX12_goesOn 578 = .ok (.aload_n 0, 1) := by decide +kernel
theorem dX12_goesOn_579 : decode cX12_goesOn 579 = .ok (.invokevirtual 258, 3) := by decide +kernel
theorem dX12_goesOn_582 : decode cX12_goesOn 582 = .ok (.iconst 1, 1) := by decide +kernel
theorem dX12_goesOn_583 : decode cX12_goesOn 583 = .ok (.ireturn, 1) := by decide +kernel
set_option maxRecDepth 20000 in
theorem ggX12_reads_X12_pushes : GoodIn wsX12_reads wsX12_pushes := goodIn_r _ [10, 11, 2, 12, 13, 14, 4, 112, 113, 114, 115, 116, 117, 118, 119, 120, 121, 122, 123, 124, 125, 126, 127, 128, 129, 130, 131, 132, 133, 134, 135, 136, 137, 138, 139, 140, 141, 142, 143, 144, 145, 146, 147, 148, 149, 150, 151, 152, 153, 154, 155, 156, 157, 158, 159, 160, 161, 162, 163, 164, 165, 166, 167, 168, 169, 170, 171, 172, 173, 174, 175, 176, 177, 178, 179, 180, 181, 182, 183, 184, 185, 186] rfl (by decide +kernel)
set_option maxRecDepth 20000 in
theorem gX12_reads_X12_pushes : GoodIn wsX12_reads (wsV RX12 310 RX12 yX12_pushes wsX12_pushes) := goodIn_app (goodIn_of _ (by decide +kernel)) ggX12_reads_X12_pushes
set_option maxRecDepth 20000 in
theorem ggX12_reads_X12_part : GoodIn wsX12_reads wsX12_part := goodIn_r _ [18, 2, 11, 13, 19, 20, 12, 21, 22, 23, 1, 24, 25, 26, 27, 28, 29, 30, 31, 32, 9, 33, 34, 35, 36, 37, 38, 39, 40, 41, 42, 43, 4, 44, 45, 46, 47, 48, 49, 50, 51, 52, 53, 54, 55, 56, 57, 58, 59, 60, 61, 62, 63, 64, 65, 66, 67, 68, 69, 3, 6, 7, 8, 10, 14, 70, 71, 72, 73, 74, 75, 76, 77, 78, 79, 80, 81, 82, 83, 84, 85, 86, 87, 88, 89, 90, 91, 92, 93, 94, 95, 96, 97, 98, 99, 100, 112, 113, 114, 115, 116, 117, 118, 119, 120, 121, 122, 123, 124, 125, 126, 127, 128, 129, 130, 131, 132, 133, 134, 135, 136, 137, 138, 139, 140, 141, 142, 143, 144, 145, 146, 147, 148, 149, 150, 151, 152, 153, 154, 155, 156, 157, 158, 159, 160, 161, 162, 163, 164, 165, 166, 167, 168, 169, 170, 171, 172, 173, 174, 175, 176, 177, 178, 179, 180, 181, 182, 183, 184, 185, 186] rfl (by decide +kernel)
set_option maxRecDepth 20000 in
theorem gX12_reads_X12_part : GoodIn wsX12_reads (wsV RX12 331 RX12 yX12_part wsX12_part) := goodIn_app (goodIn_of _ (by decide +kernel)) ggX12_reads_X12_part
set_option maxRecDepth 20000 in
theorem ggX12_reads_X12_goesOn : GoodIn wsX12_reads wsX12_goesOn := goodIn_r _ [104, 2, 11, 12, 5, 94, 93, 23, 1, 13, 3, 24, 31, 32, 9, 33, 62, 63, 64, 65, 29, 30, 105, 106, 107, 108, 4, 14, 43, 109, 110, 111, 70, 71, 72, 73, 74, 75, 76, 77, 39, 40, 41, 42, 44, 45, 46, 47, 48, 49, 50, 38, 51, 52, 53, 54, 55, 56, 57, 58, 59, 60, 61, 34, 35, 36, 37, 112, 113, 114, 115, 116, 117, 118, 119, 120, 121, 122, 123, 124, 125, 126, 127, 128, 129, 130, 131, 132, 133, 134, 135, 136, 137, 138, 139, 140, 141, 142, 143, 144, 145, 146, 147, 148, 149, 150, 151, 152, 153, 154, 155, 156, 157, 158, 159, 160, 161, 162, 163, 164, 165, 166, 167, 168, 169, 170, 171, 172, 173, 174, 175, 176, 177, 178, 179, 180, 181, 182, 183, 184, 185, 186] rfl (by decide +kernel)
set_option maxRecDepth 20000 in
theorem gX12_reads_X12_goesOn : GoodIn wsX12_reads (wsV RX12 335 RX12 yX12_goesOn wsX12_goesOn) := goodIn_app (goodIn_of _ (by decide +kernel)) ggX12_reads_X12_goesOn
theorem dX12_reads_0 : decode cX12_reads 0 = .ok (.aload_n 0, 1) := by decide +kernel
theorem dX12_reads_1 : decode cX12_reads 1 = .ok (.getfield 36, 3) := by decide +kernel
theorem dX12_reads_4 : decode cX12_reads 4 = .ok (.ifCond .le 4, 3) := by decide +kernel
theorem dX12_reads_7 : decode cX12_reads 7 = .ok (.return_, 1) := by decide +kernel
theorem dX12_reads_8 : decode cX12_reads 8 = .ok (.aload_n 0, 1) := by decide +kernel
theorem dX12_reads_9 : decode cX12_reads 9 = .ok (.iconst 0, 1) := by decide +kernel
theorem dX12_reads_10 : decode cX12_reads 10 = .ok (.putfield 125, 3) := by decide +kernel
theorem dX12_reads_13 : decode cX12_reads 13 = .ok (.aload_n 0, 1) := by decide +kernel
theorem dX12_reads_14 : decode cX12_reads 14 = .ok (.iconst 0, 1) := by decide +kernel
theorem dX12_reads_15 : decode cX12_reads 15 = .ok (.putfield 128, 3) := by decide +kernel
theorem dX12_reads_18 : decode cX12_reads 18 = .ok (.aload_n 0, 1) := by decide +kernel
theorem dX12_reads_19 : decode cX12_reads 19 = .ok (.iconst 0, 1) := by decide +kernel
theorem dX12_reads_20 : decode cX12_reads 20 = .ok (.putfield 134, 3) := by decide +kernel
theorem dX12_reads_23 : decode cX12_reads 23 = .ok (.aload_n 0, 1) := by decide +kernel
theorem dX12_reads_24 : decode cX12_reads 24 = .ok (.iconst 0, 1) := by decide +kernel
theorem dX12_reads_25 : decode cX12_reads 25 = .ok (.putfield 137, 3) := by decide +kernel
theorem dX12_reads_28 : decode cX12_reads 28 = .ok (.aload_n 0, 1) := by decide +kernel
theorem dX12_reads_29 : decode cX12_reads 29 = .ok (.iload_n 1, 1) := by decide +kernel
theorem dX12_reads_30 : decode cX12_reads 30 = .ok (.ifCond .eq 7, 3) := by decide +kernel
theorem dX12_reads_33 : decode cX12_reads 33 = .ok (.iconst 1, 1) := by decide +kernel
theorem dX12_reads_34 : decode cX12_reads 34 = .ok (.goto 4, 3) := by decide +kernel
theorem dX12_reads_37 : decode cX12_reads 37 = .ok (.iconst 0, 1) := by decide +kernel
theorem dX12_reads_38 : decode cX12_reads 38 = .ok (.invokevirtual 310, 3) := by decide +kernel
theorem dX12_reads_41 : decode cX12_reads 41 = .ok (.iconst 1, 1) := by decide +kernel
theorem dX12_reads_42 : decode cX12_reads 42 = .ok (.istore_n 2, 1) := by decide +kernel
theorem dX12_reads_43 : decode cX12_reads 43 = .ok (.iload_n 2, 1) := by decide +kernel
theorem dX12_reads_44 : decode cX12_reads 44 = .ok (.ifCond .eq 46, 3) := by decide +kernel
theorem dX12_reads_47 : decode cX12_reads 47 = .ok (.aload_n 0, 1) := by decide +kernel
theorem dX12_reads_48 : decode cX12_reads 48 = .ok (.getfield 137, 3) := by decide +kernel
theorem dX12_reads_51 : decode cX12_reads 51 = .ok (.ifCond .ne 14, 3) := by decide +kernel
theorem dX12_reads_54 : decode cX12_reads 54 = .ok (.aload_n 0, 1) := by decide +kernel
theorem dX12_reads_55 : decode cX12_reads 55 = .ok (.aload_n 0, 1) := by decide +kernel
theorem dX12_reads_56 : decode cX12_reads 56 = .ok (.invokevirtual 331, 3) := by decide +kernel
theorem dX12_reads_59 : decode cX12_reads 59 = .ok (.putfield 137, 3) := by decide +kernel
theorem dX12_reads_62 : decode cX12_reads 62 = .ok (.goto 8, 3) := by decide +kernel
theorem dX12_reads_65 : decode cX12_reads 65 = .ok (.aload_n 0, 1) := by decide +kernel
theorem dX12_reads_66 : decode cX12_reads 66 = .ok (.invokevirtual 335, 3) := by decide +kernel
theorem dX12_reads_69 : decode cX12_reads 69 = .ok (.istore_n 2, 1) := by decide +kernel
theorem dX12_reads_70 : decode cX12_reads 70 = .ok (.iload_n 2, 1) := by decide +kernel
theorem dX12_reads_71 : decode cX12_reads 71 = .ok (.ifCond .eq 14, 3) := by decide +kernel
theorem dX12_reads_74 : decode cX12_reads 74 = .ok (.aload_n 0, 1) := by decide +kernel
theorem dX12_reads_75 : decode cX12_reads 75 = .ok (.getfield 36, 3) := by decide +kernel
theorem dX12_reads_78 : decode cX12_reads 78 = .ok (.ifCond .ne 7, 3) := by decide +kernel
theorem dX12_reads_81 : decode cX12_reads 81 = .ok (.iconst 1, 1) := by decide +kernel
theorem dX12_reads_82 : decode cX12_reads 82 = .ok (.goto 4, 3) := by decide +kernel
theorem dX12_reads_85 : decode cX12_reads 85 = .ok (.iconst 0, 1) := by decide +kernel
theorem dX12_reads_86 : decode cX12_reads 86 = .ok (.istore_n 2, 1) := by decide +kernel
theorem dX12_reads_87 : decode cX12_reads 87 = .ok (.goto (-44), 3) := by decide +kernel
theorem dX12_reads_90 : decode cX12_reads 90 = .ok (.return_, 1) := by decide +kernel
set_option maxRecDepth 20000 in
theorem ggX12_counts_X12_blame : GoodIn wsX12_counts wsX12_blame := goodIn_r _ [7, 2, 8, 25, 26, 27, 28, 29, 30, 31, 32, 33, 34, 35, 36, 37, 38, 39, 40, 41, 42, 43, 44, 45, 46, 47, 48, 49, 50, 51, 52, 53, 54, 55, 56, 57, 58, 59, 60, 61, 62, 63, 64, 65, 66, 67, 68, 69, 70, 71, 72, 73, 74, 75, 76, 77, 78, 79, 80, 81, 82, 83, 84, 85, 86, 87, 88, 89, 90, 91, 92, 93, 94, 95, 96, 97, 98, 99] rfl (by decide +kernel)
set_option maxRecDepth 20000 in
theorem gX12_counts_X12_blame : GoodIn wsX12_counts (wsV RX12 251 RX12 yX12_blame wsX12_blame) := goodIn_app (goodIn_of _ (by decide +kernel)) ggX12_counts_X12_blame
set_option maxRecDepth 20000 in
theorem ggX12_counts_X12_next : GoodIn wsX12_counts wsX12_next := goodIn_r _ [12, 13, 14, 15, 1, 16, 17, 18, 19, 20, 6, 21, 22, 23, 24, 3, 4, 5, 7, 2, 8, 25, 26, 27, 28, 29, 30, 31, 32, 33, 34, 35, 36, 37, 38, 39, 40, 41, 42, 43, 44, 45, 46, 47, 48, 49, 50, 51, 52, 53, 54, 55, 56, 57, 58, 59, 60, 61, 62, 63, 64, 65, 66, 67, 68, 69, 70, 71, 72, 73, 74, 75, 76, 77, 78, 79, 80, 81, 82, 83, 84, 85, 86, 87, 88, 89, 90, 91, 92, 93, 94, 95, 96, 97, 98, 99] rfl (by decide +kernel)
set_option maxRecDepth 20000 in
theorem gX12_counts_X12_next : GoodIn wsX12_counts (wsV RX12 258 RX12 yX12_next wsX12_next) := goodIn_app (goodIn_of _ (by decide +kernel)) ggX12_counts_X12_next
theorem dX12_counts_0 : decode cX12_counts 0 = .ok (.iload_n 1, 1) := by decide +kernel
theorem dX12_counts_1 : decode cX12_counts 1 = .ok (.ifCond .eq 12, 3) := by decide +kernel
theorem dX12_counts_4 : decode cX12_counts 4 = .ok (.aload_n 0, 1) := by decide +kernel
theorem dX12_counts_5 : decode cX12_counts 5 = .ok (.iconst 5, 1) := by decide +kernel
theorem dX12_counts_6 : decode cX12_counts 6 = .ok (.aload_n 0, 1) := by decide +kernel
theorem dX12_counts_7 : decode cX12_counts 7 = .ok (.getfield 23, 3) := by decide +kernel
theorem dX12_counts_10 : decode cX12_counts 10 = .ok (.invokevirtual 251, 3) := by decide +kernel
theorem dX12_counts_13 : decode cX12_counts 13 = .ok (.aload_n 0, 1) := by decide +kernel
theorem dX12_counts_14 : decode cX12_counts 14 = .ok (.getfield 36, 3) := by decide +kernel
theorem dX12_counts_17 : decode cX12_counts 17 = .ok (.ifCond .ne 7, 3) := by decide +kernel
theorem dX12_counts_20 : decode cX12_counts 20 = .ok (.aload_n 0, 1) := by decide +kernel
theorem dX12_counts_21 : decode cX12_counts 21 = .ok (.invokevirtual 258, 3) := by decide +kernel
theorem dX12_counts_24 : decode cX12_counts 24 = .ok (.return_, 1) := by decide +kernel
set_option maxRecDepth 20000 in
theorem ggX12_must__X12_isWord : GoodIn wsX12_must_ wsX12_isWord := goodIn_r _ [7, 8, 9, 29, 30, 31, 32, 33, 34, 35, 36, 37, 38, 39, 40, 41, 42, 43, 44, 45, 46, 47, 48, 49, 50, 51, 52, 53, 54, 55, 56, 57, 58, 59, 60, 61, 62, 63, 64, 65, 66, 67, 68, 69, 70, 71, 72, 73, 74, 75, 76, 77, 78, 79, 80, 81, 82, 83, 84, 85, 86, 87, 88, 89, 90, 91, 92, 93, 94, 95, 96, 97, 98, 99, 100, 101, 102, 103] rfl (by decide +kernel)
set_option maxRecDepth 20000 in
theorem gX12_must__X12_isWord : GoodIn wsX12_must_ (wsV RX12 316 RX12 yX12_isWord wsX12_isWord) := goodIn_app (goodIn_of _ (by decide +kernel)) ggX12_must__X12_isWord
set_option maxRecDepth 20000 in
theorem ggX12_must__X12_blame : GoodIn wsX12_must_ wsX12_blame := goodIn_r _ [13, 1, 14, 29, 30, 31, 32, 33, 34, 35, 36, 37, 38, 39, 40, 41, 42, 43, 44, 45, 46, 47, 48, 49, 50, 51, 52, 53, 54, 55, 56, 57, 58, 59, 60, 61, 62, 63, 64, 65, 66, 67, 68, 69, 70, 71, 72, 73, 74, 75, 76, 77, 78, 79, 80, 81, 82, 83, 84, 85, 86, 87, 88, 89, 90, 91, 92, 93, 94, 95, 96, 97, 98, 99, 100, 101, 102, 103] rfl (by decide +kernel)
set_option maxRecDepth 20000 in
theorem gX12_must__X12_blame : GoodIn wsX12_must_ (wsV RX12 251 RX12 yX12_blame wsX12_blame) := goodIn_app (goodIn_of _ (by decide +kernel)) ggX12_must__X12_blame
set_option maxRecDepth 20000 in
theorem ggX12_must__X12_next : GoodIn wsX12_must_ wsX12_next := goodIn_r _ [18, 19, 20, 21, 2, 8, 22, 9, 23, 24, 6, 25, 26, 27, 28, 10, 11, 12, 13, 1, 14, 29, 30, 31, 32, 33, 34, 35, 36, 37, 38, 39, 40, 41, 42, 43, 44, 45, 46, 47, 48, 49, 50, 51, 52, 53, 54, 55, 56, 57, 58, 59, 60, 61, 62, 63, 64, 65, 66, 67, 68, 69, 70, 71, 72, 73, 74, 75, 76, 77, 78, 79, 80, 81, 82, 83, 84, 85, 86, 87, 88, 89, 90, 91, 92, 93, 94, 95, 96, 97, 98, 99, 100, 101, 102, 103] rfl (by decide +kernel)
set_option maxRecDepth 20000 in
theorem gX12_must__X12_next : GoodIn wsX12_must_ (wsV RX12 258 RX12 yX12_next wsX12_next) := goodIn_app (goodIn_of _ (by decide +kernel)) ggX12_must__X12_next
theorem dX12_must__0 : decode cX12_must_ 0 = .ok (.aload_n 0, 1) := by decide +kernel
theorem dX12_must__1 : decode cX12_must_ 1 = .ok (.getfield 36, 3) := by decide +kernel
theorem dX12_must__4 : decode cX12_must_ 4 = .ok (.ifCond .le 4, 3) := by decide +kernel
theorem dX12_must__7 : decode cX12_must_ 7 = .ok (.return_, 1) := by decide +kernel
theorem dX12_must__8 : decode cX12_must_ 8 = .ok (.aload_n 0, 1) := by decide +kernel
theorem dX12_must__9 : decode cX12_must_ 9 = .ok (.lload_n 1, 1) := by decide +kernel
theorem dX12_must__10 : decode cX12_must_ 10 = .ok (.invokevirtual 316, 3) := by decide +kernel
theorem dX12_must__13 : decode cX12_must_ 13 = .ok (.ifCond .ne 12, 3) := by decide +kernel
theorem dX12_must__16 : decode cX12_must_ 16 = .ok (.aload_n 0, 1) := by decide +kernel
theorem dX12_must__17 : decode cX12_must_ 17 = .ok (.iconst 1, 1) := by decide +kernel
theorem dX12_must__18 : decode cX12_must_ 18 = .ok (.aload_n 0, 1) := by decide +kernel
theorem dX12_must__19 : decode cX12_must_ 19 = .ok (.getfield 23, 3) := by decide +kernel
theorem dX12_must__22 : decode cX12_must_ 22 = .ok (.invokevirtual 251, 3) := by decide +kernel
theorem dX12_must__25 : decode cX12_must_ 25 = .ok (.aload_n 0, 1) := by decide +kernel
theorem dX12_must__26 : decode cX12_must_ 26 = .ok (.getfield 36, 3) := by decide +kernel
theorem dX12_must__29 : decode cX12_must_ 29 = .ok (.ifCond .ne 7, 3) := by decide +kernel
theorem dX12_must__32 : decode cX12_must_ 32 = .ok (.aload_n 0, 1) := by decide +kernel
theorem dX12_must__33 : decode cX12_must_ 33 = .ok (.invokevirtual 258, 3) := by decide +kernel
theorem dX12_must__36 : decode cX12_must_ 36 = .ok (.return_, 1) := by decide +kernel
set_option maxRecDepth 20000 in
theorem ggX12_who_X12_counts : GoodIn wsX12_who wsX12_counts := goodIn_r _ [14, 6, 3, 15, 16, 17, 13, 18, 19, 20, 21, 22, 23, 24, 25, 26, 4, 27, 5, 28, 29, 30, 31, 32, 33, 70, 71, 72, 73, 74, 75, 76, 77, 78, 79, 80, 81, 82, 83, 84, 85, 86, 87, 88, 89, 90, 91, 92, 93, 94, 95, 96, 97, 98, 99, 100, 101, 102, 103, 104, 105, 106, 107, 108, 109, 110, 111, 112, 113, 114, 115, 116, 117, 118, 119, 120, 121, 122, 123, 124, 125, 126, 127, 128, 129, 130, 131, 132, 133, 134, 135, 136, 137, 138, 139, 140, 141, 142, 143, 144] rfl (by decide +kernel)
set_option maxRecDepth 20000 in
theorem gX12_who_X12_counts : GoodIn wsX12_who (wsV RX12 338 RX12 yX12_counts wsX12_counts) := goodIn_app (goodIn_of _ (by decide +kernel)) ggX12_who_X12_counts
set_option maxRecDepth 20000 in
theorem ggX12_who_X12_isOwn : GoodIn wsX12_who wsX12_isOwn := goodIn_r _ [37, 38, 8, 39, 40, 41, 42, 43, 44, 45, 46, 47, 48, 49, 50, 51, 52, 53] (by decide +kernel) (by decide +kernel)
set_option maxRecDepth 20000 in
theorem gX12_who_X12_isOwn : GoodIn wsX12_who (wsV RX12 295 RX12 yX12_isOwn wsX12_isOwn) := goodIn_app (goodIn_of _ (by decide +kernel)) ggX12_who_X12_isOwn
set_option maxRecDepth 20000 in
theorem ggX12_who_X12_blame : GoodIn wsX12_who wsX12_blame := goodIn_r _ [18, 3, 19, 70, 71, 72, 73, 74, 75, 76, 77, 78, 79, 80, 81, 82, 83, 84, 85, 86, 87, 88, 89, 90, 91, 92, 93, 94, 95, 96, 97, 98, 99, 100, 101, 102, 103, 104, 105, 106, 107, 108, 109, 110, 111, 112, 113, 114, 115, 116, 117, 118, 119, 120, 121, 122, 123, 124, 125, 126, 127, 128, 129, 130, 131, 132, 133, 134, 135, 136, 137, 138, 139, 140, 141, 142, 143, 144] rfl (by decide +kernel)
set_option maxRecDepth 20000 in
theorem gX12_who_X12_blame : GoodIn wsX12_who (wsV RX12 251 RX12 yX12_blame wsX12_blame) := goodIn_app (goodIn_of _ (by decide +kernel)) ggX12_who_X12_blame
set_option maxRecDepth 20000 in
theorem ggX12_who_X12_whoOf : GoodIn wsX12_who wsX12_whoOf := goodIn_r _ [57, 1, 2, 7, 70, 71, 72, 73, 74, 75, 76, 77, 78, 79, 80, 81, 82, 83, 84, 85, 86, 87, 88, 89, 90, 91, 92, 93, 94, 95, 96, 97, 98, 99, 100, 101, 102, 103, 104, 105, 106, 107, 108, 109, 110, 111, 112, 113, 114, 115, 116, 117, 118, 119, 120, 121, 122, 123, 124, 125, 126, 127, 128, 129, 130, 131, 132, 133, 134, 135, 136, 137, 138, 139, 140, 141, 142, 143, 144] rfl (by decide +kernel)
set_option maxRecDepth 20000 in
theorem gX12_who_X12_whoOf : GoodIn wsX12_who (wsV RX12 299 RX12 yX12_whoOf wsX12_whoOf) := goodIn_app (goodIn_of _ (by decide +kernel)) ggX12_who_X12_whoOf
set_option maxRecDepth 20000 in
theorem ggX12_who_X12_next : GoodIn wsX12_who wsX12_next := goodIn_r _ [23, 24, 25, 26, 6, 4, 27, 5, 28, 29, 13, 30, 31, 32, 33, 15, 16, 17, 18, 3, 19, 70, 71, 72, 73, 74, 75, 76, 77, 78, 79, 80, 81, 82, 83, 84, 85, 86, 87, 88, 89, 90, 91, 92, 93, 94, 95, 96, 97, 98, 99, 100, 101, 102, 103, 104, 105, 106, 107, 108, 109, 110, 111, 112, 113, 114, 115, 116, 117, 118, 119, 120, 121, 122, 123, 124, 125, 126, 127, 128, 129, 130, 131, 132, 133, 134, 135, 136, 137, 138, 139, 140, 141, 142, 143, 144] rfl (by decide +kernel)
set_option maxRecDepth 20000 in
theorem gX12_who_X12_next : GoodIn wsX12_who (wsV RX12 258 RX12 yX12_next wsX12_next) := goodIn_app (goodIn_of _ (by decide +kernel)) ggX12_who_X12_next
set_option maxRecDepth 20000 in
theorem ggX12_who_X12_must_ : GoodIn wsX12_who wsX12_must_ := goodIn_r _ [61, 3, 6, 62, 63, 64, 13, 65, 4, 5, 15, 16, 17, 18, 19, 20, 21, 22, 23, 24, 25, 26, 27, 28, 29, 30, 31, 32, 33, 70, 71, 72, 73, 74, 75, 76, 77, 78, 79, 80, 81, 82, 83, 84, 85, 86, 87, 88, 89, 90, 91, 92, 93, 94, 95, 96, 97, 98, 99, 100, 101, 102, 103, 104, 105, 106, 107, 108, 109, 110, 111, 112, 113, 114, 115, 116, 117, 118, 119, 120, 121, 122, 123, 124, 125, 126, 127, 128, 129, 130, 131, 132, 133, 134, 135, 136, 137, 138, 139, 140, 141, 142, 143, 144] rfl (by decide +kernel)
set_option maxRecDepth 20000 in
theorem gX12_who_X12_must_ : GoodIn wsX12_who (wsV RX12 341 RX12 yX12_must_ wsX12_must_) := goodIn_app (goodIn_of _ (by decide +kernel)) ggX12_who_X12_must_
set_option maxRecDepth 20000 in
theorem ggX12_who_X12_number : GoodIn wsX12_who wsX12_number := goodIn_r _ [69, 3, 4, 6, 27, 15, 16, 17, 13, 18, 19, 20, 21, 22, 23, 24, 25, 26, 5, 28, 29, 30, 31, 32, 33, 70, 71, 72, 73, 74, 75, 76, 77, 78, 79, 80, 81, 82, 83, 84, 85, 86, 87, 88, 89, 90, 91, 92, 93, 94, 95, 96, 97, 98, 99, 100, 101, 102, 103, 104, 105, 106, 107, 108, 109, 110, 111, 112, 113, 114, 115, 116, 117, 118, 119, 120, 121, 122, 123, 124, 125, 126, 127, 128, 129, 130, 131, 132, 133, 134, 135, 136, 137, 138, 139, 140, 141, 142, 143, 144] rfl (by decide +kernel)
set_option maxRecDepth 20000 in
theorem gX12_who_X12_number : GoodIn wsX12_who (wsV RX12 345 RX12 yX12_number wsX12_number) := goodIn_app (goodIn_of _ (by decide +kernel)) ggX12_who_X12_number
theorem dX12_who_0 : decode cX12_who 0 = .ok (.aload_n 0, 1) := by decide +kernel
theorem dX12_who_1 : decode cX12_who 1 = .ok (.aload_n 0, 1) := by decide +kernel
theorem dX12_who_2 : decode cX12_who 2 = .ok (.getfield 51, 3) := by decide +kernel
theorem dX12_who_5 : decode cX12_who 5 = .ok (.aload_n 0, 1) := by decide +kernel
theorem dX12_who_6 : decode cX12_who 6 = .ok (.getfield 107, 3) := by decide +kernel
theorem dX12_who_9 : decode cX12_who 9 = .ok (.iaload, 1) := by decide +kernel
theorem dX12_who_10 : decode cX12_who 10 = .ok (.bipush 12, 2) := by decide +kernel
theorem dX12_who_12 : decode cX12_who 12 = .ok (.if_icmp .ne 7, 3) := by decide +kernel
theorem dX12_who_15 : decode cX12_who 15 = .ok (.iconst 1, 1) := by decide +kernel
theorem dX12_who_16 : decode cX12_who 16 = .ok (.goto 4, 3) := by decide +kernel
theorem dX12_who_19 : decode cX12_who 19 = .ok (.iconst 0, 1) := by decide +kernel
theorem dX12_who_20 : decode cX12_who 20 = .ok (.invokevirtual 338, 3) := by decide +kernel
theorem dX12_who_23 : decode cX12_who 23 = .ok (.aload_n 0, 1) := by decide +kernel
theorem dX12_who_24 : decode cX12_who 24 = .ok (.getfield 36, 3) := by decide +kernel
theorem dX12_who_27 : decode cX12_who 27 = .ok (.ifCond .le 4, 3) := by decide +kernel
theorem dX12_who_30 : decode cX12_who 30 = .ok (.return_, 1) := by decide +kernel
theorem dX12_who_31 : decode cX12_who 31 = .ok (.aload_n 0, 1) := by decide +kernel
theorem dX12_who_32 : decode cX12_who 32 = .ok (.getfield 20, 3) := by decide +kernel
theorem dX12_who_35 : decode cX12_who 35 = .ok (.iconst 1, 1) := by decide +kernel
theorem dX12_who_36 : decode cX12_who 36 = .ok (.if_icmp .ne 14, 3) := by decide +kernel
theorem dX12_who_39 : decode cX12_who 39 = .ok (.aload_n 0, 1) := by decide +kernel
theorem dX12_who_40 : decode cX12_who 40 = .ok (.aload_n 0, 1) := by decide +kernel
theorem dX12_who_41 : decode cX12_who 41 = .ok (.getfield 32, 3) := by decide +kernel
theorem dX12_who_44 : decode cX12_who 44 = .ok (.invokevirtual 295, 3) := by decide +kernel
theorem dX12_who_47 : decode cX12_who 47 = .ok (.ifCond .eq 12, 3) := by decide +kernel
theorem dX12_who_50 : decode cX12_who 50 = .ok (.aload_n 0, 1) := by decide +kernel
theorem dX12_who_51 : decode cX12_who 51 = .ok (.iconst 1, 1) := by decide +kernel
theorem dX12_who_52 : decode cX12_who 52 = .ok (.aload_n 0, 1) := by decide +kernel
theorem dX12_who_53 : decode cX12_who 53 = .ok (.getfield 23, 3) := by decide +kernel
theorem dX12_who_56 : decode cX12_who 56 = .ok (.invokevirtual 251, 3) := by decide +kernel
theorem dX12_who_59 : decode cX12_who 59 = .ok (.aload_n 0, 1) := by decide +kernel
theorem dX12_who_60 : decode cX12_who 60 = .ok (.getfield 36, 3) := by decide +kernel
theorem dX12_who_63 : decode cX12_who 63 = .ok (.ifCond .ne 24, 3) := by decide +kernel
theorem dX12_who_66 : decode cX12_who 66 = .ok (.aload_n 0, 1) := by decide +kernel
theorem dX12_who_67 : decode cX12_who 67 = .ok (.aload_n 0, 1) := by decide +kernel
theorem dX12_who_68 : decode cX12_who 68 = .ok (.getfield 32, 3) := by decide +kernel
theorem dX12_who_71 : decode cX12_who 71 = .ok (.invokevirtual 299, 3) := by decide +kernel
theorem dX12_who_74 : decode cX12_who 74 = .ok (.iconst (-1), 1) := by decide +kernel
theorem dX12_who_75 : decode cX12_who 75 = .ok (.if_icmp .eq 12, 3) := by decide +kernel
theorem dX12_who_78 : decode cX12_who 78 = .ok (.aload_n 0, 1) := by decide +kernel
theorem dX12_who_79 : decode cX12_who 79 = .ok (.iconst 2, 1) := by decide +kernel
theorem dX12_who_80 : decode cX12_who 80 = .ok (.aload_n 0, 1) := by decide +kernel
theorem dX12_who_81 : decode cX12_who 81 = .ok (.getfield 23, 3) := by decide +kernel
theorem dX12_who_84 : decode cX12_who 84 = .ok (.invokevirtual 251, 3) := by decide +kernel
theorem dX12_who_87 : decode cX12_who 87 = .ok (.aload_n 0, 1) := by decide +kernel
theorem dX12_who_88 : decode cX12_who 88 = .ok (.getfield 36, 3) := by decide +kernel
theorem dX12_who_91 : decode cX12_who 91 = .ok (.ifCond .le 4, 3) := by decide +kernel
theorem dX12_who_94 : decode cX12_who 94 = .ok (.return_, 1) := by decide +kernel
theorem dX12_who_95 : decode cX12_who 95 = .ok (.bipush 12, 2) := by decide +kernel
theorem dX12_who_97 : decode cX12_who 97 = .ok (.aload_n 0, 1) := by decide +kernel
theorem dX12_who_98 : decode cX12_who 98 = .ok (.getfield 107, 3) := by decide +kernel
theorem dX12_who_101 : decode cX12_who 101 = .ok (.imul, 1) := by decide +kernel
theorem dX12_who_102 : decode cX12_who 102 = .ok (.aload_n 0, 1) := by decide +kernel
theorem dX12_who_103 : decode cX12_who 103 = .ok (.getfield 51, 3) := by decide +kernel
theorem dX12_who_106 : decode cX12_who 106 = .ok (.aload_n 0, 1) := by decide +kernel
theorem dX12_who_107 : decode cX12_who 107 = .ok (.getfield 107, 3) := by decide +kernel
theorem dX12_who_110 : decode cX12_who 110 = .ok (.iaload, 1) := by decide +kernel
theorem dX12_who_111 : decode cX12_who 111 = .ok (.iadd, 1) := by decide +kernel
theorem dX12_who_112 : decode cX12_who 112 = .ok (.istore_n 1, 1) := by decide +kernel
theorem dX12_who_113 : decode cX12_who 113 = .ok (.aload_n 0, 1) := by decide +kernel
theorem dX12_who_114 : decode cX12_who 114 = .ok (.getfield 63, 3) := by decide +kernel
theorem dX12_who_117 : decode cX12_who 117 = .ok (.iload_n 1, 1) := by decide +kernel
theorem dX12_who_118 : decode cX12_who 118 = .ok (.aload_n 0, 1) := by decide +kernel
theorem dX12_who_119 : decode cX12_who 119 = .ok (.getfield 32, 3) := by decide +kernel
theorem dX12_who_122 : decode cX12_who 122 = .ok (.lastore, 1) := by decide +kernel
theorem dX12_who_123 : decode cX12_who 123 = .ok (.aload_n 0, 1) := by decide +kernel
theorem dX12_who_124 : decode cX12_who 124 = .ok (.invokevirtual 258, 3) := by decide +kernel
theorem dX12_who_127 : decode cX12_who 127 = .ok (.aload_n 0, 1) := by decide +kernel
theorem dX12_who_128 : decode cX12_who 128 = .ok (.ldc2_w 263, 3) := by decide +kernel
theorem dX12_who_131 : decode cX12_who 131 = .ok (.invokevirtual 341, 3) := by decide +kernel
theorem dX12_who_134 : decode cX12_who 134 = .ok (.aload_n 0, 1) := by decide +kernel
theorem dX12_who_135 : decode cX12_who 135 = .ok (.getfield 67, 3) := by decide +kernel
theorem dX12_who_138 : decode cX12_who 138 = .ok (.iload_n 1, 1) := by decide +kernel
theorem dX12_who_139 : decode cX12_who 139 = .ok (.aload_n 0, 1) := by decide +kernel
theorem dX12_who_140 : decode cX12_who 140 = .ok (.invokevirtual 345, 3) := by decide +kernel
theorem dX12_who_143 : decode cX12_who 143 = .ok (.iastore, 1) := by decide +kernel
theorem dX12_who_144 : decode cX12_who 144 = .ok (.aload_n 0, 1) := by decide +kernel
theorem dX12_who_145 : decode cX12_who 145 = .ok (.getfield 36, 3) := by decide +kernel
theorem dX12_who_148 : decode cX12_who 148 = .ok (.ifCond .ne 16, 3) := by decide +kernel
theorem dX12_who_151 : decode cX12_who 151 = .ok (.aload_n 0, 1) := by decide +kernel
theorem dX12_who_152 : decode cX12_who 152 = .ok (.getfield 51, 3) := by decide +kernel
theorem dX12_who_155 : decode cX12_who 155 = .ok (.aload_n 0, 1) := by decide +kernel
theorem dX12_who_156 : decode cX12_who 156 = .ok (.getfield 107, 3) := by decide +kernel
theorem dX12_who_159 : decode cX12_who 159 = .ok (.dup2, 1) := by decide +kernel
theorem dX12_who_160 : decode cX12_who 160 = .ok (.iaload, 1) := by decide +kernel
theorem dX12_who_161 : decode cX12_who 161 = .ok (.iconst 1, 1) := by decide +kernel
theorem dX12_who_162 : decode cX12_who 162 = .ok (.iadd, 1) := by decide +kernel
theorem dX12_who_163 : decode cX12_who 163 = .ok (.iastore, 1) := by decide +kernel
theorem dX12_who_164 : decode cX12_who 164 = .ok (.return_, 1) := by decide +kernel
set_option maxRecDepth 20000 in
theorem ggX12_road_X12_counts : GoodIn wsX12_road wsX12_counts := goodIn_r _ [19, 6, 3, 20, 21, 22, 18, 23, 24, 25, 26, 27, 28, 29, 30, 31, 32, 33, 34, 35, 36, 37, 38, 39, 40, 136, 137, 138, 139, 140, 141, 142, 143, 144, 145, 146, 147, 148, 149, 150, 151, 152, 153, 154, 155, 156, 157, 158, 159, 160, 161, 162, 163, 164, 165, 166, 167, 168, 169, 170, 171, 172, 173, 174, 175, 176, 177, 178, 179, 180, 181, 182, 183, 184, 185, 186, 187, 188, 189, 190, 191, 192, 193, 194, 195, 196, 197, 198, 199, 200, 201, 202, 203, 204, 205, 206, 207, 208, 209, 210] rfl (by decide +kernel)
set_option maxRecDepth 20000 in
theorem gX12_road_X12_counts : GoodIn wsX12_road (wsV RX12 338 RX12 yX12_counts wsX12_counts) := goodIn_app (goodIn_of _ (by decide +kernel)) ggX12_road_X12_counts
set_option maxRecDepth 20000 in
theorem ggX12_road_X12_whoRead : GoodIn wsX12_road wsX12_whoRead := goodIn_r _ [44, 3, 32, 34, 6, 45, 46, 47, 18, 48, 49, 50, 51, 7, 12, 52, 53, 54, 55, 56, 57, 58, 59, 60, 61, 62, 63, 20, 21, 22, 23, 24, 64, 65, 66, 67, 68, 2, 69, 136, 137, 138, 139, 140, 141, 142, 143, 144, 145, 146, 147, 148, 149, 150, 151, 152, 153, 154, 155, 156, 157, 158, 159, 160, 161, 162, 163, 164, 165, 166, 167, 168, 169, 170, 171, 172, 173, 174, 175, 176, 177, 178, 179, 180, 181, 182, 183, 184, 185, 186, 187, 188, 189, 190, 191, 192, 193, 194, 195, 196, 197, 198, 199, 200, 201, 202, 203, 204, 205, 206, 207, 208, 209, 210] rfl (by decide +kernel)
set_option maxRecDepth 20000 in
theorem gX12_road_X12_whoRead : GoodIn wsX12_road (wsV RX12 325 RX12 yX12_whoRead wsX12_whoRead) := goodIn_app (goodIn_of _ (by decide +kernel)) ggX12_road_X12_whoRead
set_option maxRecDepth 20000 in
theorem ggX12_road_X12_next : GoodIn wsX12_road wsX12_next := goodIn_r _ [28, 29, 30, 31, 6, 32, 33, 34, 35, 36, 18, 37, 38, 39, 40, 20, 21, 22, 23, 3, 24, 136, 137, 138, 139, 140, 141, 142, 143, 144, 145, 146, 147, 148, 149, 150, 151, 152, 153, 154, 155, 156, 157, 158, 159, 160, 161, 162, 163, 164, 165, 166, 167, 168, 169, 170, 171, 172, 173, 174, 175, 176, 177, 178, 179, 180, 181, 182, 183, 184, 185, 186, 187, 188, 189, 190, 191, 192, 193, 194, 195, 196, 197, 198, 199, 200, 201, 202, 203, 204, 205, 206, 207, 208, 209, 210] rfl (by decide +kernel)
set_option maxRecDepth 20000 in
theorem gX12_road_X12_next : GoodIn wsX12_road (wsV RX12 258 RX12 yX12_next wsX12_next) := goodIn_app (goodIn_of _ (by decide +kernel)) ggX12_road_X12_next
set_option maxRecDepth 20000 in
theorem ggX12_road_X12_roadOf : GoodIn wsX12_road wsX12_roadOf := goodIn_r _ [73, 2, 1, 4, 5, 136, 137, 138, 139, 140, 141, 142, 143, 144, 145, 146, 147, 148, 149, 150, 151, 152, 153, 154, 155, 156, 157, 158, 159, 160, 161, 162, 163, 164, 165, 166, 167, 168, 169, 170, 171, 172, 173, 174, 175, 176, 177, 178, 179, 180, 181, 182, 183, 184, 185, 186, 187, 188, 189, 190, 191, 192, 193, 194, 195, 196, 197, 198, 199, 200, 201, 202, 203, 204, 205, 206, 207, 208, 209, 210] rfl (by decide +kernel)
set_option maxRecDepth 20000 in
theorem gX12_road_X12_roadOf : GoodIn wsX12_road (wsV RX12 349 RX12 yX12_roadOf wsX12_roadOf) := goodIn_app (goodIn_of _ (by decide +kernel)) ggX12_road_X12_roadOf
set_option maxRecDepth 20000 in
theorem ggX12_road_X12_blame : GoodIn wsX12_road wsX12_blame := goodIn_r _ [23, 3, 24, 136, 137, 138, 139, 140, 141, 142, 143, 144, 145, 146, 147, 148, 149, 150, 151, 152, 153, 154, 155, 156, 157, 158, 159, 160, 161, 162, 163, 164, 165, 166, 167, 168, 169, 170, 171, 172, 173, 174, 175, 176, 177, 178, 179, 180, 181, 182, 183, 184, 185, 186, 187, 188, 189, 190, 191, 192, 193, 194, 195, 196, 197, 198, 199, 200, 201, 202, 203, 204, 205, 206, 207, 208, 209, 210] rfl (by decide +kernel)
set_option maxRecDepth 20000 in
theorem gX12_road_X12_blame : GoodIn wsX12_road (wsV RX12 251 RX12 yX12_blame wsX12_blame) := goodIn_app (goodIn_of _ (by decide +kernel)) ggX12_road_X12_blame
set_option maxRecDepth 20000 in
theorem ggX12_road_X12_must_ : GoodIn wsX12_road wsX12_must_ := goodIn_r _ [77, 3, 6, 78, 79, 80, 18, 81, 32, 34, 20, 21, 22, 23, 24, 25, 26, 27, 28, 29, 30, 31, 33, 35, 36, 37, 38, 39, 40, 136, 137, 138, 139, 140, 141, 142, 143, 144, 145, 146, 147, 148, 149, 150, 151, 152, 153, 154, 155, 156, 157, 158, 159, 160, 161, 162, 163, 164, 165, 166, 167, 168, 169, 170, 171, 172, 173, 174, 175, 176, 177, 178, 179, 180, 181, 182, 183, 184, 185, 186, 187, 188, 189, 190, 191, 192, 193, 194, 195, 196, 197, 198, 199, 200, 201, 202, 203, 204, 205, 206, 207, 208, 209, 210] rfl (by decide +kernel)
set_option maxRecDepth 20000 in
theorem gX12_road_X12_must_ : GoodIn wsX12_road (wsV RX12 341 RX12 yX12_must_ wsX12_must_) := goodIn_app (goodIn_of _ (by decide +kernel)) ggX12_road_X12_must_
set_option maxRecDepth 20000 in
theorem ggX12_road_X12_reads : GoodIn wsX12_road wsX12_reads := goodIn_r _ [85, 3, 86, 87, 88, 89, 90, 91, 92, 18, 93, 94, 95, 96, 97, 98, 99, 100, 101, 57, 58, 62, 63, 6, 102, 50, 59, 60, 61, 32, 33, 103, 104, 105, 78, 79, 80, 81, 34, 106, 107, 108, 109, 110, 25, 26, 27, 28, 29, 30, 31, 35, 36, 37, 38, 39, 40, 20, 21, 22, 23, 24, 111, 112, 113, 114, 115, 116, 117, 118, 119, 120, 121, 122, 123, 2, 9, 124, 41, 42, 43, 44, 45, 46, 47, 48, 49, 51, 7, 12, 52, 53, 54, 55, 56, 64, 65, 66, 67, 68, 69, 125, 126, 127, 128, 129, 130, 131, 132, 133, 134, 135, 136, 137, 138, 139, 140, 141, 142, 143, 144, 145, 146, 147, 148, 149, 150, 151, 152, 153, 154, 155, 156, 157, 158, 159, 160, 161, 162, 163, 164, 165, 166, 167, 168, 169, 170, 171, 172, 173, 174, 175, 176, 177, 178, 179, 180, 181, 182, 183, 184, 185, 186, 187, 188, 189, 190, 191, 192, 193, 194, 195, 196, 197, 198, 199, 200, 201, 202, 203, 204, 205, 206, 207, 208, 209, 210] rfl (by decide +kernel)
set_option maxRecDepth 20000 in
theorem gX12_road_X12_reads : GoodIn wsX12_road (wsV RX12 353 RX12 yX12_reads wsX12_reads) := goodIn_app (goodIn_of _ (by decide +kernel)) ggX12_road_X12_reads
set_option maxRecDepth 20000 in
theorem ggX12_road_X12_isWord : GoodIn wsX12_road wsX12_isWord := goodIn_r _ [81, 32, 34, 136, 137, 138, 139, 140, 141, 142, 143, 144, 145, 146, 147, 148, 149, 150, 151, 152, 153, 154, 155, 156, 157, 158, 159, 160, 161, 162, 163, 164, 165, 166, 167, 168, 169, 170, 171, 172, 173, 174, 175, 176, 177, 178, 179, 180, 181, 182, 183, 184, 185, 186, 187, 188, 189, 190, 191, 192, 193, 194, 195, 196, 197, 198, 199, 200, 201, 202, 203, 204, 205, 206, 207, 208, 209, 210] rfl (by decide +kernel)
set_option maxRecDepth 20000 in
theorem gX12_road_X12_isWord : GoodIn wsX12_road (wsV RX12 316 RX12 yX12_isWord wsX12_isWord) := goodIn_app (goodIn_of _ (by decide +kernel)) ggX12_road_X12_isWord
theorem dX12_road_0 : decode cX12_road 0 = .ok (.aload_n 0, 1) := by decide +kernel
theorem dX12_road_1 : decode cX12_road 1 = .ok (.aload_n 0, 1) := by decide +kernel
theorem dX12_road_2 : decode cX12_road 2 = .ok (.getfield 54, 3) := by decide +kernel
theorem dX12_road_5 : decode cX12_road 5 = .ok (.aload_n 0, 1) := by decide +kernel
theorem dX12_road_6 : decode cX12_road 6 = .ok (.getfield 107, 3) := by decide +kernel
theorem dX12_road_9 : decode cX12_road 9 = .ok (.iaload, 1) := by decide +kernel
theorem dX12_road_10 : decode cX12_road 10 = .ok (.bipush 30, 2) := by decide +kernel
theorem dX12_road_12 : decode cX12_road 12 = .ok (.if_icmp .ne 7, 3) := by decide +kernel
theorem dX12_road_15 : decode cX12_road 15 = .ok (.iconst 1, 1) := by decide +kernel
theorem dX12_road_16 : decode cX12_road 16 = .ok (.goto 4, 3) := by decide +kernel
theorem dX12_road_19 : decode cX12_road 19 = .ok (.iconst 0, 1) := by decide +kernel
theorem dX12_road_20 : decode cX12_road 20 = .ok (.invokevirtual 338, 3) := by decide +kernel
theorem dX12_road_23 : decode cX12_road 23 = .ok (.aload_n 0, 1) := by decide +kernel
theorem dX12_road_24 : decode cX12_road 24 = .ok (.getfield 36, 3) := by decide +kernel
theorem dX12_road_27 : decode cX12_road 27 = .ok (.ifCond .le 4, 3) := by decide +kernel
theorem dX12_road_30 : decode cX12_road 30 = .ok (.return_, 1) := by decide +kernel
theorem dX12_road_31 : decode cX12_road 31 = .ok (.bipush 30, 2) := by decide +kernel
theorem dX12_road_33 : decode cX12_road 33 = .ok (.aload_n 0, 1) := by decide +kernel
theorem dX12_road_34 : decode cX12_road 34 = .ok (.getfield 107, 3) := by decide +kernel
theorem dX12_road_37 : decode cX12_road 37 = .ok (.imul, 1) := by decide +kernel
theorem dX12_road_38 : decode cX12_road 38 = .ok (.aload_n 0, 1) := by decide +kernel
theorem dX12_road_39 : decode cX12_road 39 = .ok (.getfield 54, 3) := by decide +kernel
theorem dX12_road_42 : decode cX12_road 42 = .ok (.aload_n 0, 1) := by decide +kernel
theorem dX12_road_43 : decode cX12_road 43 = .ok (.getfield 107, 3) := by decide +kernel
theorem dX12_road_46 : decode cX12_road 46 = .ok (.iaload, 1) := by decide +kernel
theorem dX12_road_47 : decode cX12_road 47 = .ok (.iadd, 1) := by decide +kernel
theorem dX12_road_48 : decode cX12_road 48 = .ok (.istore_n 1, 1) := by decide +kernel
theorem dX12_road_49 : decode cX12_road 49 = .ok (.aload_n 0, 1) := by decide +kernel
theorem dX12_road_50 : decode cX12_road 50 = .ok (.getfield 70, 3) := by decide +kernel
theorem dX12_road_53 : decode cX12_road 53 = .ok (.iload_n 1, 1) := by decide +kernel
theorem dX12_road_54 : decode cX12_road 54 = .ok (.aload_n 0, 1) := by decide +kernel
theorem dX12_road_55 : decode cX12_road 55 = .ok (.iconst (-1), 1) := by decide +kernel
theorem dX12_road_56 : decode cX12_road 56 = .ok (.invokevirtual 325, 3) := by decide +kernel
theorem dX12_road_59 : decode cX12_road 59 = .ok (.iastore, 1) := by decide +kernel
theorem dX12_road_60 : decode cX12_road 60 = .ok (.aload_n 0, 1) := by decide +kernel
theorem dX12_road_61 : decode cX12_road 61 = .ok (.getfield 36, 3) := by decide +kernel
theorem dX12_road_64 : decode cX12_road 64 = .ok (.ifCond .ne 7, 3) := by decide +kernel
theorem dX12_road_67 : decode cX12_road 67 = .ok (.aload_n 0, 1) := by decide +kernel
theorem dX12_road_68 : decode cX12_road 68 = .ok (.invokevirtual 258, 3) := by decide +kernel
theorem dX12_road_71 : decode cX12_road 71 = .ok (.aload_n 0, 1) := by decide +kernel
theorem dX12_road_72 : decode cX12_road 72 = .ok (.getfield 73, 3) := by decide +kernel
theorem dX12_road_75 : decode cX12_road 75 = .ok (.iload_n 1, 1) := by decide +kernel
theorem dX12_road_76 : decode cX12_road 76 = .ok (.aload_n 0, 1) := by decide +kernel
theorem dX12_road_77 : decode cX12_road 77 = .ok (.aload_n 0, 1) := by decide +kernel
theorem dX12_road_78 : decode cX12_road 78 = .ok (.getfield 70, 3) := by decide +kernel
theorem dX12_road_81 : decode cX12_road 81 = .ok (.iload_n 1, 1) := by decide +kernel
theorem dX12_road_82 : decode cX12_road 82 = .ok (.iaload, 1) := by decide +kernel
theorem dX12_road_83 : decode cX12_road 83 = .ok (.invokevirtual 325, 3) := by decide +kernel
theorem dX12_road_86 : decode cX12_road 86 = .ok (.iastore, 1) := by decide +kernel
theorem dX12_road_87 : decode cX12_road 87 = .ok (.aload_n 0, 1) := by decide +kernel
theorem dX12_road_88 : decode cX12_road 88 = .ok (.getfield 36, 3) := by decide +kernel
theorem dX12_road_91 : decode cX12_road 91 = .ok (.ifCond .ne 32, 3) := by decide +kernel
theorem dX12_road_94 : decode cX12_road 94 = .ok (.aload_n 0, 1) := by decide +kernel
theorem dX12_road_95 : decode cX12_road 95 = .ok (.aload_n 0, 1) := by decide +kernel
theorem dX12_road_96 : decode cX12_road 96 = .ok (.getfield 70, 3) := by decide +kernel
theorem dX12_road_99 : decode cX12_road 99 = .ok (.iload_n 1, 1) := by decide +kernel
theorem dX12_road_100 : decode cX12_road 100 = .ok (.iaload, 1) := by decide +kernel
theorem dX12_road_101 : decode cX12_road 101 = .ok (.aload_n 0, 1) := by decide +kernel
theorem dX12_road_102 : decode cX12_road 102 = .ok (.getfield 73, 3) := by decide +kernel
theorem dX12_road_105 : decode cX12_road 105 = .ok (.iload_n 1, 1) := by decide +kernel
theorem dX12_road_106 : decode cX12_road 106 = .ok (.iaload, 1) := by decide +kernel
theorem dX12_road_107 : decode cX12_road 107 = .ok (.invokevirtual 349, 3) := by decide +kernel
theorem dX12_road_110 : decode cX12_road 110 = .ok (.iconst (-1), 1) := by decide +kernel
theorem dX12_road_111 : decode cX12_road 111 = .ok (.if_icmp .eq 12, 3) := by decide +kernel
theorem dX12_road_114 : decode cX12_road 114 = .ok (.aload_n 0, 1) := by decide +kernel

