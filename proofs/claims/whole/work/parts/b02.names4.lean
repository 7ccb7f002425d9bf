theorem dX2_twoAt_1 : decode cX2_twoAt 1 = .ok (.iload_n 1, 1) := by decide +kernel
theorem dX2_twoAt_2 : decode cX2_twoAt 2 = .ok (.invokevirtual 32, 3) := by decide +kernel
theorem dX2_twoAt_5 : decode cX2_twoAt 5 = .ok (.bipush 8, 2) := by decide +kernel
theorem dX2_twoAt_7 : decode cX2_twoAt 7 = .ok (.ishl, 1) := by decide +kernel
theorem dX2_twoAt_8 : decode cX2_twoAt 8 = .ok (.aload_n 0, 1) := by decide +kernel
theorem dX2_twoAt_9 : decode cX2_twoAt 9 = .ok (.iload_n 1, 1) := by decide +kernel
theorem dX2_twoAt_10 : decode cX2_twoAt 10 = .ok (.iconst 1, 1) := by decide +kernel
theorem dX2_twoAt_11 : decode cX2_twoAt 11 = .ok (.iadd, 1) := by decide +kernel
theorem dX2_twoAt_12 : decode cX2_twoAt 12 = .ok (.invokevirtual 32, 3) := by decide +kernel
theorem dX2_twoAt_15 : decode cX2_twoAt 15 = .ok (.iadd, 1) := by decide +kernel
theorem dX2_twoAt_16 : decode cX2_twoAt 16 = .ok (.ireturn, 1) := by decide +kernel
set_option maxRecDepth 20000 in
theorem ggX2_numberAt_X2_twoAt : GoodIn wsX2_numberAt wsX2_twoAt := goodIn_r _ [5, 6, 7, 8, 4, 9, 10, 11, 12, 13] (by decide +kernel) (by decide +kernel)
set_option maxRecDepth 20000 in
theorem gX2_numberAt_X2_twoAt : GoodIn wsX2_numberAt (wsV RX2 36 RX2 yX2_twoAt wsX2_twoAt) := goodIn_app (goodIn_of _ (by decide +kernel)) ggX2_numberAt_X2_twoAt
theorem dX2_numberAt_0 : decode cX2_numberAt 0 = .ok (.aload_n 0, 1) := by decide +kernel
theorem dX2_numberAt_1 : decode cX2_numberAt 1 = .ok (.iload_n 1, 1) := by decide +kernel
theorem dX2_numberAt_2 : decode cX2_numberAt 2 = .ok (.invokevirtual 36, 3) := by decide +kernel
theorem dX2_numberAt_5 : decode cX2_numberAt 5 = .ok (.bipush 16, 2) := by decide +kernel
theorem dX2_numberAt_7 : decode cX2_numberAt 7 = .ok (.ishl, 1) := by decide +kernel
theorem dX2_numberAt_8 : decode cX2_numberAt 8 = .ok (.aload_n 0, 1) := by decide +kernel
theorem dX2_numberAt_9 : decode cX2_numberAt 9 = .ok (.iload_n 1, 1) := by decide +kernel
theorem dX2_numberAt_10 : decode cX2_numberAt 10 = .ok (.iconst 2, 1) := by decide +kernel
theorem dX2_numberAt_11 : decode cX2_numberAt 11 = .ok (.iadd, 1) := by decide +kernel
theorem dX2_numberAt_12 : decode cX2_numberAt 12 = .ok (.invokevirtual 36, 3) := by decide +kernel
theorem dX2_numberAt_15 : decode cX2_numberAt 15 = .ok (.iadd, 1) := by decide +kernel
theorem dX2_numberAt_16 : decode cX2_numberAt 16 = .ok (.ireturn, 1) := by decide +kernel
set_option maxRecDepth 20000 in
theorem ggX2_checkOf_X2_at : GoodIn wsX2_checkOf wsX2_at := goodIn_r _ [6, 7, 8, 9, 10] (by decide +kernel) (by decide +kernel)
set_option maxRecDepth 20000 in
theorem gX2_checkOf_X2_at : GoodIn wsX2_checkOf (wsV RX2 32 RX2 yX2_at wsX2_at) := goodIn_app (goodIn_of _ (by decide +kernel)) ggX2_checkOf_X2_at
theorem dX2_checkOf_0 : decode cX2_checkOf 0 = .ok (.iconst 1, 1) := by decide +kernel
theorem dX2_checkOf_1 : decode cX2_checkOf 1 = .ok (.istore_n 2, 1) := by decide +kernel
theorem dX2_checkOf_2 : decode cX2_checkOf 2 = .ok (.iconst 0, 1) := by decide +kernel
theorem dX2_checkOf_3 : decode cX2_checkOf 3 = .ok (.istore_n 3, 1) := by decide +kernel
theorem dX2_checkOf_4 : decode cX2_checkOf 4 = .ok (.iload_n 3, 1) := by decide +kernel
theorem dX2_checkOf_5 : decode cX2_checkOf 5 = .ok (.iload_n 1, 1) := by decide +kernel
theorem dX2_checkOf_6 : decode cX2_checkOf 6 = .ok (.if_icmp .ge 23, 3) := by decide +kernel
theorem dX2_checkOf_9 : decode cX2_checkOf 9 = .ok (.bipush 31, 2) := by decide +kernel
theorem dX2_checkOf_11 : decode cX2_checkOf 11 = .ok (.iload_n 2, 1) := by decide +kernel
theorem dX2_checkOf_12 : decode cX2_checkOf 12 = .ok (.imul, 1) := by decide +kernel
theorem dX2_checkOf_13 : decode cX2_checkOf 13 = .ok (.aload_n 0, 1) := by decide +kernel
theorem dX2_checkOf_14 : decode cX2_checkOf 14 = .ok (.iload_n 3, 1) := by decide +kernel
theorem dX2_checkOf_15 : decode cX2_checkOf 15 = .ok (.invokevirtual 32, 3) := by decide +kernel
theorem dX2_checkOf_18 : decode cX2_checkOf 18 = .ok (.iadd, 1) := by decide +kernel
theorem dX2_checkOf_19 : decode cX2_checkOf 19 = .ok (.ldc 39, 2) := by decide +kernel
theorem dX2_checkOf_21 : decode cX2_checkOf 21 = .ok (.irem, 1) := by decide +kernel
theorem dX2_checkOf_22 : decode cX2_checkOf 22 = .ok (.istore_n 2, 1) := by decide +kernel
theorem dX2_checkOf_23 : decode cX2_checkOf 23 = .ok (.iinc 3 1, 3) := by decide +kernel
theorem dX2_checkOf_26 : decode cX2_checkOf 26 = .ok (.goto (-22), 3) := by decide +kernel
theorem dX2_checkOf_29 : decode cX2_checkOf 29 = .ok (.iload_n 2, 1) := by decide +kernel
theorem dX2_checkOf_30 : decode cX2_checkOf 30 = .ok (.ireturn, 1) := by decide +kernel
theorem dX3_init_0 : decode cX3_init 0 = .ok (.aload_n 0, 1) := by decide +kernel
theorem dX3_init_1 : decode cX3_init 1 = .ok (.invokespecial 3, 3) := by decide +kernel
theorem dX3_init_4 : decode cX3_init 4 = .ok (.aload_n 0, 1) := by decide +kernel
theorem dX3_init_5 : decode cX3_init 5 = .ok (.bipush 30, 2) := by decide +kernel
theorem dX3_init_7 : decode cX3_init 7 = .ok (.newarray .boolean, 2) := by decide +kernel
theorem dX3_init_9 : decode cX3_init 9 = .ok (.putfield 9, 3) := by decide +kernel
theorem dX3_init_12 : decode cX3_init 12 = .ok (.aload_n 0, 1) := by decide +kernel
theorem dX3_init_13 : decode cX3_init 13 = .ok (.bipush 30, 2) := by decide +kernel
theorem dX3_init_15 : decode cX3_init 15 = .ok (.newarray .int, 2) := by decide +kernel
theorem dX3_init_17 : decode cX3_init 17 = .ok (.putfield 15, 3) := by decide +kernel
theorem dX3_init_20 : decode cX3_init 20 = .ok (.aload_n 0, 1) := by decide +kernel
theorem dX3_init_21 : decode cX3_init 21 = .ok (.bipush 12, 2) := by decide +kernel
theorem dX3_init_23 : decode cX3_init 23 = .ok (.newarray .int, 2) := by decide +kernel
theorem dX3_init_25 : decode cX3_init 25 = .ok (.putfield 19, 3) := by decide +kernel
theorem dX3_init_28 : decode cX3_init 28 = .ok (.aload_n 0, 1) := by decide +kernel
theorem dX3_init_29 : decode cX3_init 29 = .ok (.bipush 12, 2) := by decide +kernel
theorem dX3_init_31 : decode cX3_init 31 = .ok (.newarray .int, 2) := by decide +kernel
theorem dX3_init_33 : decode cX3_init 33 = .ok (.putfield 22, 3) := by decide +kernel
theorem dX3_init_36 : decode cX3_init 36 = .ok (.aload_n 0, 1) := by decide +kernel
theorem dX3_init_37 : decode cX3_init 37 = .ok (.bipush 6, 2) := by decide +kernel
theorem dX3_init_39 : decode cX3_init 39 = .ok (.newarray .int, 2) := by decide +kernel
theorem dX3_init_41 : decode cX3_init 41 = .ok (.putfield 25, 3) := by decide +kernel
theorem dX3_init_44 : decode cX3_init 44 = .ok (.aload_n 0, 1) := by decide +kernel
theorem dX3_init_45 : decode cX3_init 45 = .ok (.sipush 6006, 3) := by decide +kernel
theorem dX3_init_48 : decode cX3_init 48 = .ok (.newarray .int, 2) := by decide +kernel
theorem dX3_init_50 : decode cX3_init 50 = .ok (.putfield 28, 3) := by decide +kernel
theorem dX3_init_53 : decode cX3_init 53 = .ok (.aload_n 0, 1) := by decide +kernel
theorem dX3_init_54 : decode cX3_init 54 = .ok (.aload_n 1, 1) := by decide +kernel
theorem dX3_init_55 : decode cX3_init 55 = .ok (.putfield 31, 3) := by decide +kernel
theorem dX3_init_58 : decode cX3_init 58 = .ok (.aload_n 0, 1) := by decide +kernel
theorem dX3_init_59 : decode cX3_init 59 = .ok (.aload_n 1, 1) := by decide +kernel
theorem dX3_init_60 : decode cX3_init 60 = .ok (.getfield 35, 3) := by decide +kernel
theorem dX3_init_63 : decode cX3_init 63 = .ok (.putfield 41, 3) := by decide +kernel
theorem dX3_init_66 : decode cX3_init 66 = .ok (.return_, 1) := by decide +kernel
theorem dX3_clear_0 : decode cX3_clear 0 = .ok (.iconst 0, 1) := by decide +kernel
theorem dX3_clear_1 : decode cX3_clear 1 = .ok (.istore_n 1, 1) := by decide +kernel
theorem dX3_clear_2 : decode cX3_clear 2 = .ok (.iload_n 1, 1) := by decide +kernel
theorem dX3_clear_3 : decode cX3_clear 3 = .ok (.bipush 30, 2) := by decide +kernel
theorem dX3_clear_5 : decode cX3_clear 5 = .ok (.if_icmp .ge 16, 3) := by decide +kernel
theorem dX3_clear_8 : decode cX3_clear 8 = .ok (.aload_n 0, 1) := by decide +kernel
theorem dX3_clear_9 : decode cX3_clear 9 = .ok (.getfield 9, 3) := by decide +kernel
theorem dX3_clear_12 : decode cX3_clear 12 = .ok (.iload_n 1, 1) := by decide +kernel
theorem dX3_clear_13 : decode cX3_clear 13 = .ok (.iconst 0, 1) := by decide +kernel
theorem dX3_clear_14 : decode cX3_clear 14 = .ok (.bastore, 1) := by decide +kernel
theorem dX3_clear_15 : decode cX3_clear 15 = .ok (.iinc 1 1, 3) := by decide +kernel
theorem dX3_clear_18 : decode cX3_clear 18 = .ok (.goto (-16), 3) := by decide +kernel
theorem dX3_clear_21 : decode cX3_clear 21 = .ok (.aload_n 0, 1) := by decide +kernel
theorem dX3_clear_22 : decode cX3_clear 22 = .ok (.iconst 0, 1) := by decide +kernel
theorem dX3_clear_23 : decode cX3_clear 23 = .ok (.putfield 42, 3) := by decide +kernel
theorem dX3_clear_26 : decode cX3_clear 26 = .ok (.return_, 1) := by decide +kernel
set_option maxRecDepth 20000 in
theorem ggX3_become_X3_clear : GoodIn wsX3_become wsX3_clear := goodIn_r _ [5, 6, 7, 13, 14, 15, 16, 17, 18, 19, 20, 21, 22, 23] (by decide +kernel) (by decide +kernel)
set_option maxRecDepth 20000 in
theorem gX3_become_X3_clear : GoodIn wsX3_become (wsV RX3 46 RX3 yX3_clear wsX3_clear) := goodIn_app (goodIn_of _ (by decide +kernel)) ggX3_become_X3_clear
set_option maxRecDepth 20000 in
theorem ggX3_become_X3_put : GoodIn wsX3_become wsX3_put := goodIn_r _ [11, 6, 7, 12, 13, 14, 15, 16, 17, 18, 19, 20, 21, 22, 23] (by decide +kernel) (by decide +kernel)
set_option maxRecDepth 20000 in
theorem gX3_become_X3_put : GoodIn wsX3_become (wsV RX3 49 RX3 yX3_put wsX3_put) := goodIn_app (goodIn_of _ (by decide +kernel)) ggX3_become_X3_put
theorem dX3_become_0 : decode cX3_become 0 = .ok (.aload_n 0, 1) := by decide +kernel
theorem dX3_become_1 : decode cX3_become 1 = .ok (.invokevirtual 46, 3) := by decide +kernel
theorem dX3_become_4 : decode cX3_become 4 = .ok (.iconst 0, 1) := by decide +kernel
theorem dX3_become_5 : decode cX3_become 5 = .ok (.istore_n 3, 1) := by decide +kernel
theorem dX3_become_6 : decode cX3_become 6 = .ok (.iload_n 3, 1) := by decide +kernel
theorem dX3_become_7 : decode cX3_become 7 = .ok (.bipush 30, 2) := by decide +kernel
theorem dX3_become_9 : decode cX3_become 9 = .ok (.if_icmp .ge 23, 3) := by decide +kernel
theorem dX3_become_12 : decode cX3_become 12 = .ok (.aload_n 1, 1) := by decide +kernel
theorem dX3_become_13 : decode cX3_become 13 = .ok (.iload_n 3, 1) := by decide +kernel
theorem dX3_become_14 : decode cX3_become 14 = .ok (.baload, 1) := by decide +kernel
theorem dX3_become_15 : decode cX3_become 15 = .ok (.ifCond .eq 11, 3) := by decide +kernel
theorem dX3_become_18 : decode cX3_become 18 = .ok (.aload_n 0, 1) := by decide +kernel
theorem dX3_become_19 : decode cX3_become 19 = .ok (.iload_n 3, 1) := by decide +kernel
theorem dX3_become_20 : decode cX3_become 20 = .ok (.aload_n 2, 1) := by decide +kernel
theorem dX3_become_21 : decode cX3_become 21 = .ok (.iload_n 3, 1) := by decide +kernel
theorem dX3_become_22 : decode cX3_become 22 = .ok (.iaload, 1) := by decide +kernel
theorem dX3_become_23 : decode cX3_become 23 = .ok (.invokevirtual 49, 3) := by decide +kernel
theorem dX3_become_26 : decode cX3_become 26 = .ok (.iinc 3 1, 3) := by decide +kernel
theorem dX3_become_29 : decode cX3_become 29 = .ok (.goto (-23), 3) := by decide +kernel
theorem dX3_become_32 : decode cX3_become 32 = .ok (.return_, 1) := by decide +kernel
set_option maxRecDepth 20000 in
theorem ggX3_tell_X6_pairOf : GoodIn wsX3_tell wsX6_pairOf := goodIn_r _ [7, 8, 9, 17, 18, 19, 20, 21, 22, 23, 24, 25, 26, 27, 28, 29, 30, 31, 32, 33, 34, 35, 36] (by decide +kernel) (by decide +kernel)
set_option maxRecDepth 20000 in
theorem gX3_tell_X6_pairOf : GoodIn wsX3_tell (wsV RX3 58 RX6 yX6_pairOf wsX6_pairOf) := goodIn_app (goodIn_of _ (by decide +kernel)) ggX3_tell_X6_pairOf
set_option maxRecDepth 20000 in
theorem ggX3_tell_X3_put : GoodIn wsX3_tell wsX3_put := goodIn_r _ [14, 2, 15, 16, 37, 38, 39, 40, 41, 42, 43, 44, 45, 46, 47] (by decide +kernel) (by decide +kernel)
set_option maxRecDepth 20000 in
theorem gX3_tell_X3_put : GoodIn wsX3_tell (wsV RX3 49 RX3 yX3_put wsX3_put) := goodIn_app (goodIn_of _ (by decide +kernel)) ggX3_tell_X3_put
theorem dX3_tell_0 : decode cX3_tell 0 = .ok (.iconst 0, 1) := by decide +kernel
theorem dX3_tell_1 : decode cX3_tell 1 = .ok (.istore 4, 2) := by decide +kernel
theorem dX3_tell_3 : decode cX3_tell 3 = .ok (.iconst 0, 1) := by decide +kernel
theorem dX3_tell_4 : decode cX3_tell 4 = .ok (.istore 5, 2) := by decide +kernel
theorem dX3_tell_6 : decode cX3_tell 6 = .ok (.iload 5, 2) := by decide +kernel
theorem dX3_tell_8 : decode cX3_tell 8 = .ok (.aload_n 1, 1) := by decide +kernel
theorem dX3_tell_9 : decode cX3_tell 9 = .ok (.getfield 53, 3) := by decide +kernel
theorem dX3_tell_12 : decode cX3_tell 12 = .ok (.if_icmp .ge 36, 3) := by decide +kernel
theorem dX3_tell_15 : decode cX3_tell 15 = .ok (.aload_n 0, 1) := by decide +kernel
theorem dX3_tell_16 : decode cX3_tell 16 = .ok (.getfield 9, 3) := by decide +kernel
theorem dX3_tell_19 : decode cX3_tell 19 = .ok (.iload 5, 2) := by decide +kernel
theorem dX3_tell_21 : decode cX3_tell 21 = .ok (.baload, 1) := by decide +kernel
theorem dX3_tell_22 : decode cX3_tell 22 = .ok (.ifCond .eq 20, 3) := by decide +kernel
theorem dX3_tell_25 : decode cX3_tell 25 = .ok (.iload 5, 2) := by decide +kernel
theorem dX3_tell_27 : decode cX3_tell 27 = .ok (.iload_n 2, 1) := by decide +kernel
theorem dX3_tell_28 : decode cX3_tell 28 = .ok (.if_icmp .eq 14, 3) := by decide +kernel
theorem dX3_tell_31 : decode cX3_tell 31 = .ok (.iload 4, 2) := by decide +kernel
theorem dX3_tell_33 : decode cX3_tell 33 = .ok (.aload_n 1, 1) := by decide +kernel
theorem dX3_tell_34 : decode cX3_tell 34 = .ok (.iload 5, 2) := by decide +kernel
theorem dX3_tell_36 : decode cX3_tell 36 = .ok (.invokevirtual 58, 3) := by decide +kernel
theorem dX3_tell_39 : decode cX3_tell 39 = .ok (.ior, 1) := by decide +kernel
theorem dX3_tell_40 : decode cX3_tell 40 = .ok (.istore 4, 2) := by decide +kernel
theorem dX3_tell_42 : decode cX3_tell 42 = .ok (.iinc 5 1, 3) := by decide +kernel
theorem dX3_tell_45 : decode cX3_tell 45 = .ok (.goto (-39), 3) := by decide +kernel
theorem dX3_tell_48 : decode cX3_tell 48 = .ok (.iload 4, 2) := by decide +kernel
theorem dX3_tell_50 : decode cX3_tell 50 = .ok (.aload_n 1, 1) := by decide +kernel
theorem dX3_tell_51 : decode cX3_tell 51 = .ok (.iload_n 2, 1) := by decide +kernel
theorem dX3_tell_52 : decode cX3_tell 52 = .ok (.invokevirtual 58, 3) := by decide +kernel
theorem dX3_tell_55 : decode cX3_tell 55 = .ok (.iand, 1) := by decide +kernel
theorem dX3_tell_56 : decode cX3_tell 56 = .ok (.ifCond .eq 5, 3) := by decide +kernel
theorem dX3_tell_59 : decode cX3_tell 59 = .ok (.iconst 0, 1) := by decide +kernel
theorem dX3_tell_60 : decode cX3_tell 60 = .ok (.ireturn, 1) := by decide +kernel
theorem dX3_tell_61 : decode cX3_tell 61 = .ok (.aload_n 0, 1) := by decide +kernel
theorem dX3_tell_62 : decode cX3_tell 62 = .ok (.iload_n 2, 1) := by decide +kernel
theorem dX3_tell_63 : decode cX3_tell 63 = .ok (.iload_n 3, 1) := by decide +kernel
theorem dX3_tell_64 : decode cX3_tell 64 = .ok (.invokevirtual 49, 3) := by decide +kernel
theorem dX3_tell_67 : decode cX3_tell 67 = .ok (.iconst 1, 1) := by decide +kernel
theorem dX3_tell_68 : decode cX3_tell 68 = .ok (.ireturn, 1) := by decide +kernel
theorem dX3_put_0 : decode cX3_put 0 = .ok (.aload_n 0, 1) := by decide +kernel
theorem dX3_put_1 : decode cX3_put 1 = .ok (.getfield 9, 3) := by decide +kernel
theorem dX3_put_4 : decode cX3_put 4 = .ok (.iload_n 1, 1) := by decide +kernel
theorem dX3_put_5 : decode cX3_put 5 = .ok (.baload, 1) := by decide +kernel
theorem dX3_put_6 : decode cX3_put 6 = .ok (.ifCond .ne 20, 3) := by decide +kernel
theorem dX3_put_9 : decode cX3_put 9 = .ok (.aload_n 0, 1) := by decide +kernel
theorem dX3_put_10 : decode cX3_put 10 = .ok (.getfield 9, 3) := by decide +kernel
theorem dX3_put_13 : decode cX3_put 13 = .ok (.iload_n 1, 1) := by decide +kernel
theorem dX3_put_14 : decode cX3_put 14 = .ok (.iconst 1, 1) := by decide +kernel
theorem dX3_put_15 : decode cX3_put 15 = .ok (.bastore, 1) := by decide +kernel
theorem dX3_put_16 : decode cX3_put 16 = .ok (.aload_n 0, 1) := by decide +kernel
theorem dX3_put_17 : decode cX3_put 17 = .ok (.dup, 1) := by decide +kernel
theorem dX3_put_18 : decode cX3_put 18 = .ok (.getfield 42, 3) := by decide +kernel
theorem dX3_put_21 : decode cX3_put 21 = .ok (.iconst 1, 1) := by decide +kernel
theorem dX3_put_22 : decode cX3_put 22 = .ok (.iadd, 1) := by decide +kernel
theorem dX3_put_23 : decode cX3_put 23 = .ok (.putfield 42, 3) := by decide +kernel
theorem dX3_put_26 : decode cX3_put 26 = .ok (.aload_n 0, 1) := by decide +kernel
theorem dX3_put_27 : decode cX3_put 27 = .ok (.getfield 15, 3) := by decide +kernel
theorem dX3_put_30 : decode cX3_put 30 = .ok (.iload_n 1, 1) := by decide +kernel
theorem dX3_put_31 : decode cX3_put 31 = .ok (.iload_n 2, 1) := by decide +kernel
theorem dX3_put_32 : decode cX3_put 32 = .ok (.iastore, 1) := by decide +kernel
theorem dX3_put_33 : decode cX3_put 33 = .ok (.return_, 1) := by decide +kernel
theorem dX3_drop_0 : decode cX3_drop 0 = .ok (.aload_n 0, 1) := by decide +kernel
theorem dX3_drop_1 : decode cX3_drop 1 = .ok (.getfield 9, 3) := by decide +kernel
theorem dX3_drop_4 : decode cX3_drop 4 = .ok (.iload_n 1, 1) := by decide +kernel
theorem dX3_drop_5 : decode cX3_drop 5 = .ok (.baload, 1) := by decide +kernel
theorem dX3_drop_6 : decode cX3_drop 6 = .ok (.ifCond .ne 5, 3) := by decide +kernel
theorem dX3_drop_9 : decode cX3_drop 9 = .ok (.iconst 0, 1) := by decide +kernel
theorem dX3_drop_10 : decode cX3_drop 10 = .ok (.ireturn, 1) := by decide +kernel
theorem dX3_drop_11 : decode cX3_drop 11 = .ok (.aload_n 0, 1) := by decide +kernel
theorem dX3_drop_12 : decode cX3_drop 12 = .ok (.getfield 9, 3) := by decide +kernel
theorem dX3_drop_15 : decode cX3_drop 15 = .ok (.iload_n 1, 1) := by decide +kernel
theorem dX3_drop_16 : decode cX3_drop 16 = .ok (.iconst 0, 1) := by decide +kernel
theorem dX3_drop_17 : decode cX3_drop 17 = .ok (.bastore, 1) := by decide +kernel
theorem dX3_drop_18 : decode cX3_drop 18 = .ok (.aload_n 0, 1) := by decide +kernel
theorem dX3_drop_19 : decode cX3_drop 19 = .ok (.dup, 1) := by decide +kernel
theorem dX3_drop_20 : decode cX3_drop 20 = .ok (.getfield 42, 3) := by decide +kernel
theorem dX3_drop_23 : decode cX3_drop 23 = .ok (.iconst 1, 1) := by decide +kernel
theorem dX3_drop_24 : decode cX3_drop 24 = .ok (.isub, 1) := by decide +kernel
theorem dX3_drop_25 : decode cX3_drop 25 = .ok (.putfield 42, 3) := by decide +kernel
theorem dX3_drop_28 : decode cX3_drop 28 = .ok (.iconst 1, 1) := by decide +kernel
theorem dX3_drop_29 : decode cX3_drop 29 = .ok (.ireturn, 1) := by decide +kernel
set_option maxRecDepth 20000 in
theorem ggX3_settle_X3_part : GoodIn wsX3_settle wsX3_part := goodIn_r _ [20, 7, 3, 12, 13, 1, 21, 22, 23, 24, 25, 26, 27, 28, 29, 30, 31, 32, 36, 37, 38, 39, 40, 41, 42, 43, 44, 45, 46, 47, 48, 49, 50, 51, 52, 53, 54, 55, 33, 34, 35] (by decide +kernel) (by decide +kernel)
set_option maxRecDepth 20000 in
theorem gX3_settle_X3_part : GoodIn wsX3_settle (wsV RX3 78 RX3 yX3_part wsX3_part) := goodIn_app (goodIn_of _ (by decide +kernel)) ggX3_settle_X3_part
theorem dX3_settle_0 : decode cX3_settle 0 = .ok (.aload_n 0, 1) := by decide +kernel
theorem dX3_settle_1 : decode cX3_settle 1 = .ok (.aload_n 0, 1) := by decide +kernel
theorem dX3_settle_2 : decode cX3_settle 2 = .ok (.getfield 31, 3) := by decide +kernel
theorem dX3_settle_5 : decode cX3_settle 5 = .ok (.getfield 35, 3) := by decide +kernel
theorem dX3_settle_8 : decode cX3_settle 8 = .ok (.putfield 41, 3) := by decide +kernel
theorem dX3_settle_11 : decode cX3_settle 11 = .ok (.aload_n 0, 1) := by decide +kernel
theorem dX3_settle_12 : decode cX3_settle 12 = .ok (.iconst 0, 1) := by decide +kernel
theorem dX3_settle_13 : decode cX3_settle 13 = .ok (.putfield 62, 3) := by decide +kernel
theorem dX3_settle_16 : decode cX3_settle 16 = .ok (.iconst 0, 1) := by decide +kernel
theorem dX3_settle_17 : decode cX3_settle 17 = .ok (.istore_n 1, 1) := by decide +kernel
theorem dX3_settle_18 : decode cX3_settle 18 = .ok (.iload_n 1, 1) := by decide +kernel
theorem dX3_settle_19 : decode cX3_settle 19 = .ok (.aload_n 0, 1) := by decide +kernel
theorem dX3_settle_20 : decode cX3_settle 20 = .ok (.getfield 41, 3) := by decide +kernel
theorem dX3_settle_23 : decode cX3_settle 23 = .ok (.getfield 65, 3) := by decide +kernel
theorem dX3_settle_26 : decode cX3_settle 26 = .ok (.if_icmp .ge 31, 3) := by decide +kernel
theorem dX3_settle_29 : decode cX3_settle 29 = .ok (.aload_n 0, 1) := by decide +kernel
theorem dX3_settle_30 : decode cX3_settle 30 = .ok (.getfield 19, 3) := by decide +kernel
theorem dX3_settle_33 : decode cX3_settle 33 = .ok (.iload_n 1, 1) := by decide +kernel
theorem dX3_settle_34 : decode cX3_settle 34 = .ok (.iconst (-1), 1) := by decide +kernel
theorem dX3_settle_35 : decode cX3_settle 35 = .ok (.iastore, 1) := by decide +kernel
theorem dX3_settle_36 : decode cX3_settle 36 = .ok (.aload_n 0, 1) := by decide +kernel
theorem dX3_settle_37 : decode cX3_settle 37 = .ok (.getfield 22, 3) := by decide +kernel
theorem dX3_settle_40 : decode cX3_settle 40 = .ok (.iload_n 1, 1) := by decide +kernel
theorem dX3_settle_41 : decode cX3_settle 41 = .ok (.aload_n 0, 1) := by decide +kernel
theorem dX3_settle_42 : decode cX3_settle 42 = .ok (.getfield 41, 3) := by decide +kernel
theorem dX3_settle_45 : decode cX3_settle 45 = .ok (.getfield 68, 3) := by decide +kernel
theorem dX3_settle_48 : decode cX3_settle 48 = .ok (.iload_n 1, 1) := by decide +kernel
theorem dX3_settle_49 : decode cX3_settle 49 = .ok (.iaload, 1) := by decide +kernel
theorem dX3_settle_50 : decode cX3_settle 50 = .ok (.iastore, 1) := by decide +kernel
theorem dX3_settle_51 : decode cX3_settle 51 = .ok (.iinc 1 1, 3) := by decide +kernel
theorem dX3_settle_54 : decode cX3_settle 54 = .ok (.goto (-36), 3) := by decide +kernel
theorem dX3_settle_57 : decode cX3_settle 57 = .ok (.iconst 0, 1) := by decide +kernel
theorem dX3_settle_58 : decode cX3_settle 58 = .ok (.istore_n 1, 1) := by decide +kernel
theorem dX3_settle_59 : decode cX3_settle 59 = .ok (.iload_n 1, 1) := by decide +kernel
theorem dX3_settle_60 : decode cX3_settle 60 = .ok (.aload_n 0, 1) := by decide +kernel
theorem dX3_settle_61 : decode cX3_settle 61 = .ok (.getfield 41, 3) := by decide +kernel
theorem dX3_settle_64 : decode cX3_settle 64 = .ok (.getfield 53, 3) := by decide +kernel
theorem dX3_settle_67 : decode cX3_settle 67 = .ok (.if_icmp .ge 100, 3) := by decide +kernel
theorem dX3_settle_70 : decode cX3_settle 70 = .ok (.aload_n 0, 1) := by decide +kernel
theorem dX3_settle_71 : decode cX3_settle 71 = .ok (.getfield 9, 3) := by decide +kernel
theorem dX3_settle_74 : decode cX3_settle 74 = .ok (.iload_n 1, 1) := by decide +kernel
theorem dX3_settle_75 : decode cX3_settle 75 = .ok (.baload, 1) := by decide +kernel
theorem dX3_settle_76 : decode cX3_settle 76 = .ok (.ifCond .eq 85, 3) := by decide +kernel
theorem dX3_settle_79 : decode cX3_settle 79 = .ok (.aload_n 0, 1) := by decide +kernel
theorem dX3_settle_80 : decode cX3_settle 80 = .ok (.getfield 31, 3) := by decide +kernel
theorem dX3_settle_83 : decode cX3_settle 83 = .ok (.getfield 71, 3) := by decide +kernel
theorem dX3_settle_86 : decode cX3_settle 86 = .ok (.iload_n 1, 1) := by decide +kernel
theorem dX3_settle_87 : decode cX3_settle 87 = .ok (.baload, 1) := by decide +kernel
theorem dX3_settle_88 : decode cX3_settle 88 = .ok (.ifCond .eq 73, 3) := by decide +kernel
theorem dX3_settle_91 : decode cX3_settle 91 = .ok (.aload_n 0, 1) := by decide +kernel
theorem dX3_settle_92 : decode cX3_settle 92 = .ok (.getfield 62, 3) := by decide +kernel
theorem dX3_settle_95 : decode cX3_settle 95 = .ok (.bipush 6, 2) := by decide +kernel
theorem dX3_settle_97 : decode cX3_settle 97 = .ok (.if_icmp .ge 64, 3) := by decide +kernel
theorem dX3_settle_100 : decode cX3_settle 100 = .ok (.aload_n 0, 1) := by decide +kernel
theorem dX3_settle_101 : decode cX3_settle 101 = .ok (.getfield 19, 3) := by decide +kernel
theorem dX3_settle_104 : decode cX3_settle 104 = .ok (.aload_n 0, 1) := by decide +kernel
theorem dX3_settle_105 : decode cX3_settle 105 = .ok (.getfield 41, 3) := by decide +kernel
theorem dX3_settle_108 : decode cX3_settle 108 = .ok (.getfield 74, 3) := by decide +kernel
theorem dX3_settle_111 : decode cX3_settle 111 = .ok (.iload_n 1, 1) := by decide +kernel
theorem dX3_settle_112 : decode cX3_settle 112 = .ok (.iaload, 1) := by decide +kernel
theorem dX3_settle_113 : decode cX3_settle 113 = .ok (.iload_n 1, 1) := by decide +kernel
theorem dX3_settle_114 : decode cX3_settle 114 = .ok (.iastore, 1) := by decide +kernel
theorem dX3_settle_115 : decode cX3_settle 115 = .ok (.aload_n 0, 1) := by decide +kernel
theorem dX3_settle_116 : decode cX3_settle 116 = .ok (.getfield 19, 3) := by decide +kernel
theorem dX3_settle_119 : decode cX3_settle 119 = .ok (.aload_n 0, 1) := by decide +kernel
theorem dX3_settle_120 : decode cX3_settle 120 = .ok (.getfield 41, 3) := by decide +kernel
theorem dX3_settle_123 : decode cX3_settle 123 = .ok (.getfield 75, 3) := by decide +kernel
theorem dX3_settle_126 : decode cX3_settle 126 = .ok (.iload_n 1, 1) := by decide +kernel
theorem dX3_settle_127 : decode cX3_settle 127 = .ok (.iaload, 1) := by decide +kernel
theorem dX3_settle_128 : decode cX3_settle 128 = .ok (.iload_n 1, 1) := by decide +kernel
theorem dX3_settle_129 : decode cX3_settle 129 = .ok (.iastore, 1) := by decide +kernel
theorem dX3_settle_130 : decode cX3_settle 130 = .ok (.aload_n 0, 1) := by decide +kernel
theorem dX3_settle_131 : decode cX3_settle 131 = .ok (.iload_n 1, 1) := by decide +kernel
theorem dX3_settle_132 : decode cX3_settle 132 = .ok (.aload_n 0, 1) := by decide +kernel
theorem dX3_settle_133 : decode cX3_settle 133 = .ok (.getfield 15, 3) := by decide +kernel
theorem dX3_settle_136 : decode cX3_settle 136 = .ok (.iload_n 1, 1) := by decide +kernel
theorem dX3_settle_137 : decode cX3_settle 137 = .ok (.iaload, 1) := by decide +kernel
theorem dX3_settle_138 : decode cX3_settle 138 = .ok (.invokevirtual 78, 3) := by decide +kernel
theorem dX3_settle_141 : decode cX3_settle 141 = .ok (.aload_n 0, 1) := by decide +kernel
theorem dX3_settle_142 : decode cX3_settle 142 = .ok (.getfield 25, 3) := by decide +kernel
theorem dX3_settle_145 : decode cX3_settle 145 = .ok (.aload_n 0, 1) := by decide +kernel
theorem dX3_settle_146 : decode cX3_settle 146 = .ok (.getfield 62, 3) := by decide +kernel
theorem dX3_settle_149 : decode cX3_settle 149 = .ok (.iload_n 1, 1) := by decide +kernel
theorem dX3_settle_150 : decode cX3_settle 150 = .ok (.iastore, 1) := by decide +kernel
theorem dX3_settle_151 : decode cX3_settle 151 = .ok (.aload_n 0, 1) := by decide +kernel
theorem dX3_settle_152 : decode cX3_settle 152 = .ok (.dup, 1) := by decide +kernel
theorem dX3_settle_153 : decode cX3_settle 153 = .ok (.getfield 62, 3) := by decide +kernel
theorem dX3_settle_156 : decode cX3_settle 156 = .ok (.iconst 1, 1) := by decide +kernel
theorem dX3_settle_157 : decode cX3_settle 157 = .ok (.iadd, 1) := by decide +kernel
theorem dX3_settle_158 : decode cX3_settle 158 = .ok (.putfield 62, 3) := by decide +kernel
theorem dX3_settle_161 : decode cX3_settle 161 = .ok (.iinc 1 1, 3) := by decide +kernel
theorem dX3_settle_164 : decode cX3_settle 164 = .ok (.goto (-105), 3) := by decide +kernel
theorem dX3_settle_167 : decode cX3_settle 167 = .ok (.return_, 1) := by decide +kernel
theorem dX3_part_0 : decode cX3_part 0 = .ok (.aload_n 0, 1) := by decide +kernel
theorem dX3_part_1 : decode cX3_part 1 = .ok (.getfield 22, 3) := by decide +kernel
theorem dX3_part_4 : decode cX3_part 4 = .ok (.aload_n 0, 1) := by decide +kernel
theorem dX3_part_5 : decode cX3_part 5 = .ok (.getfield 41, 3) := by decide +kernel
theorem dX3_part_8 : decode cX3_part 8 = .ok (.getfield 74, 3) := by decide +kernel
theorem dX3_part_11 : decode cX3_part 11 = .ok (.iload_n 1, 1) := by decide +kernel
theorem dX3_part_12 : decode cX3_part 12 = .ok (.iaload, 1) := by decide +kernel
theorem dX3_part_13 : decode cX3_part 13 = .ok (.iload_n 2, 1) := by decide +kernel
theorem dX3_part_14 : decode cX3_part 14 = .ok (.iastore, 1) := by decide +kernel
theorem dX3_part_15 : decode cX3_part 15 = .ok (.aload_n 0, 1) := by decide +kernel
theorem dX3_part_16 : decode cX3_part 16 = .ok (.getfield 22, 3) := by decide +kernel
theorem dX3_part_19 : decode cX3_part 19 = .ok (.aload_n 0, 1) := by decide +kernel
theorem dX3_part_20 : decode cX3_part 20 = .ok (.getfield 41, 3) := by decide +kernel
theorem dX3_part_23 : decode cX3_part 23 = .ok (.getfield 75, 3) := by decide +kernel
theorem dX3_part_26 : decode cX3_part 26 = .ok (.iload_n 1, 1) := by decide +kernel
theorem dX3_part_27 : decode cX3_part 27 = .ok (.iaload, 1) := by decide +kernel
theorem dX3_part_28 : decode cX3_part 28 = .ok (.aload_n 0, 1) := by decide +kernel
theorem dX3_part_29 : decode cX3_part 29 = .ok (.getfield 31, 3) := by decide +kernel
theorem dX3_part_32 : decode cX3_part 32 = .ok (.getfield 81, 3) := by decide +kernel
theorem dX3_part_35 : decode cX3_part 35 = .ok (.iload_n 1, 1) := by decide +kernel
theorem dX3_part_36 : decode cX3_part 36 = .ok (.iaload, 1) := by decide +kernel
theorem dX3_part_37 : decode cX3_part 37 = .ok (.iload_n 2, 1) := by decide +kernel
theorem dX3_part_38 : decode cX3_part 38 = .ok (.isub, 1) := by decide +kernel
theorem dX3_part_39 : decode cX3_part 39 = .ok (.iastore, 1) := by decide +kernel
theorem dX3_part_40 : decode cX3_part 40 = .ok (.return_, 1) := by decide +kernel
theorem dX3_moneyOf_0 : decode cX3_moneyOf 0 = .ok (.aload_n 0, 1) := by decide +kernel
theorem dX3_moneyOf_1 : decode cX3_moneyOf 1 = .ok (.getfield 19, 3) := by decide +kernel
theorem dX3_moneyOf_4 : decode cX3_moneyOf 4 = .ok (.iload_n 1, 1) := by decide +kernel
theorem dX3_moneyOf_5 : decode cX3_moneyOf 5 = .ok (.iaload, 1) := by decide +kernel
theorem dX3_moneyOf_6 : decode cX3_moneyOf 6 = .ok (.istore_n 2, 1) := by decide +kernel
theorem dX3_moneyOf_7 : decode cX3_moneyOf 7 = .ok (.iload_n 2, 1) := by decide +kernel
theorem dX3_moneyOf_8 : decode cX3_moneyOf 8 = .ok (.iconst (-1), 1) := by decide +kernel
theorem dX3_moneyOf_9 : decode cX3_moneyOf 9 = .ok (.if_icmp .ne 10, 3) := by decide +kernel
theorem dX3_moneyOf_12 : decode cX3_moneyOf 12 = .ok (.aload_n 0, 1) := by decide +kernel
theorem dX3_moneyOf_13 : decode cX3_moneyOf 13 = .ok (.getfield 22, 3) := by decide +kernel
theorem dX3_moneyOf_16 : decode cX3_moneyOf 16 = .ok (.iload_n 1, 1) := by decide +kernel
theorem dX3_moneyOf_17 : decode cX3_moneyOf 17 = .ok (.iaload, 1) := by decide +kernel
theorem dX3_moneyOf_18 : decode cX3_moneyOf 18 = .ok (.ireturn, 1) := by decide +kernel
theorem dX3_moneyOf_19 : decode cX3_moneyOf 19 = .ok (.aload_n 0, 1) := by decide +kernel
theorem dX3_moneyOf_20 : decode cX3_moneyOf 20 = .ok (.getfield 41, 3) := by decide +kernel
theorem dX3_moneyOf_23 : decode cX3_moneyOf 23 = .ok (.getfield 74, 3) := by decide +kernel
theorem dX3_moneyOf_26 : decode cX3_moneyOf 26 = .ok (.iload_n 2, 1) := by decide +kernel
theorem dX3_moneyOf_27 : decode cX3_moneyOf 27 = .ok (.iaload, 1) := by decide +kernel
theorem dX3_moneyOf_28 : decode cX3_moneyOf 28 = .ok (.aload_n 0, 1) := by decide +kernel
theorem dX3_moneyOf_29 : decode cX3_moneyOf 29 = .ok (.getfield 41, 3) := by decide +kernel
theorem dX3_moneyOf_32 : decode cX3_moneyOf 32 = .ok (.getfield 75, 3) := by decide +kernel
theorem dX3_moneyOf_35 : decode cX3_moneyOf 35 = .ok (.iload_n 2, 1) := by decide +kernel
theorem dX3_moneyOf_36 : decode cX3_moneyOf 36 = .ok (.iaload, 1) := by decide +kernel
theorem dX3_moneyOf_37 : decode cX3_moneyOf 37 = .ok (.iadd, 1) := by decide +kernel
theorem dX3_moneyOf_38 : decode cX3_moneyOf 38 = .ok (.iload_n 1, 1) := by decide +kernel
theorem dX3_moneyOf_39 : decode cX3_moneyOf 39 = .ok (.isub, 1) := by decide +kernel
theorem dX3_moneyOf_40 : decode cX3_moneyOf 40 = .ok (.istore_n 3, 1) := by decide +kernel
theorem dX3_moneyOf_41 : decode cX3_moneyOf 41 = .ok (.aload_n 0, 1) := by decide +kernel
theorem dX3_moneyOf_42 : decode cX3_moneyOf 42 = .ok (.getfield 22, 3) := by decide +kernel
theorem dX3_moneyOf_45 : decode cX3_moneyOf 45 = .ok (.iload_n 1, 1) := by decide +kernel
theorem dX3_moneyOf_46 : decode cX3_moneyOf 46 = .ok (.iaload, 1) := by decide +kernel
theorem dX3_moneyOf_47 : decode cX3_moneyOf 47 = .ok (.aload_n 0, 1) := by decide +kernel
theorem dX3_moneyOf_48 : decode cX3_moneyOf 48 = .ok (.getfield 41, 3) := by decide +kernel
theorem dX3_moneyOf_51 : decode cX3_moneyOf 51 = .ok (.getfield 84, 3) := by decide +kernel
theorem dX3_moneyOf_54 : decode cX3_moneyOf 54 = .ok (.iload_n 1, 1) := by decide +kernel
theorem dX3_moneyOf_55 : decode cX3_moneyOf 55 = .ok (.aaload, 1) := by decide +kernel
theorem dX3_moneyOf_56 : decode cX3_moneyOf 56 = .ok (.iload_n 3, 1) := by decide +kernel
theorem dX3_moneyOf_57 : decode cX3_moneyOf 57 = .ok (.iaload, 1) := by decide +kernel
theorem dX3_moneyOf_58 : decode cX3_moneyOf 58 = .ok (.isub, 1) := by decide +kernel
theorem dX3_moneyOf_59 : decode cX3_moneyOf 59 = .ok (.ireturn, 1) := by decide +kernel
theorem dX3_offer_0 : decode cX3_offer 0 = .ok (.aload_n 0, 1) := by decide +kernel
theorem dX3_offer_1 : decode cX3_offer 1 = .ok (.getfield 41, 3) := by decide +kernel
theorem dX3_offer_4 : decode cX3_offer 4 = .ok (.getfield 88, 3) := by decide +kernel
theorem dX3_offer_7 : decode cX3_offer 7 = .ok (.iload_n 1, 1) := by decide +kernel
theorem dX3_offer_8 : decode cX3_offer 8 = .ok (.aaload, 1) := by decide +kernel
theorem dX3_offer_9 : decode cX3_offer 9 = .ok (.iload_n 2, 1) := by decide +kernel
theorem dX3_offer_10 : decode cX3_offer 10 = .ok (.iaload, 1) := by decide +kernel
theorem dX3_offer_11 : decode cX3_offer 11 = .ok (.istore_n 3, 1) := by decide +kernel
theorem dX3_offer_12 : decode cX3_offer 12 = .ok (.iload_n 3, 1) := by decide +kernel
theorem dX3_offer_13 : decode cX3_offer 13 = .ok (.iconst (-1), 1) := by decide +kernel
theorem dX3_offer_14 : decode cX3_offer 14 = .ok (.if_icmp .eq 25, 3) := by decide +kernel
theorem dX3_offer_17 : decode cX3_offer 17 = .ok (.iload_n 3, 1) := by decide +kernel
theorem dX3_offer_18 : decode cX3_offer 18 = .ok (.aload_n 0, 1) := by decide +kernel
theorem dX3_offer_19 : decode cX3_offer 19 = .ok (.getfield 19, 3) := by decide +kernel
theorem dX3_offer_22 : decode cX3_offer 22 = .ok (.iload_n 1, 1) := by decide +kernel
theorem dX3_offer_23 : decode cX3_offer 23 = .ok (.iaload, 1) := by decide +kernel
theorem dX3_offer_24 : decode cX3_offer 24 = .ok (.if_icmp .eq 15, 3) := by decide +kernel
theorem dX3_offer_27 : decode cX3_offer 27 = .ok (.aload_n 0, 1) := by decide +kernel
theorem dX3_offer_28 : decode cX3_offer 28 = .ok (.getfield 31, 3) := by decide +kernel
theorem dX3_offer_31 : decode cX3_offer 31 = .ok (.getfield 71, 3) := by decide +kernel
theorem dX3_offer_34 : decode cX3_offer 34 = .ok (.iload_n 3, 1) := by decide +kernel
theorem dX3_offer_35 : decode cX3_offer 35 = .ok (.baload, 1) := by decide +kernel
theorem dX3_offer_36 : decode cX3_offer 36 = .ok (.ifCond .ne 6, 3) := by decide +kernel
theorem dX3_offer_39 : decode cX3_offer 39 = .ok (.ldc 91, 2) := by decide +kernel
theorem dX3_offer_41 : decode cX3_offer 41 = .ok (.ireturn, 1) := by decide +kernel
theorem dX3_offer_42 : decode cX3_offer 42 = .ok (.aload_n 0, 1) := by decide +kernel
theorem dX3_offer_43 : decode cX3_offer 43 = .ok (.getfield 31, 3) := by decide +kernel
theorem dX3_offer_46 : decode cX3_offer 46 = .ok (.getfield 81, 3) := by decide +kernel
theorem dX3_offer_49 : decode cX3_offer 49 = .ok (.iload_n 3, 1) := by decide +kernel
theorem dX3_offer_50 : decode cX3_offer 50 = .ok (.iaload, 1) := by decide +kernel
theorem dX3_offer_51 : decode cX3_offer 51 = .ok (.aload_n 0, 1) := by decide +kernel
theorem dX3_offer_52 : decode cX3_offer 52 = .ok (.getfield 22, 3) := by decide +kernel
theorem dX3_offer_55 : decode cX3_offer 55 = .ok (.iload_n 2, 1) := by decide +kernel
theorem dX3_offer_56 : decode cX3_offer 56 = .ok (.iaload, 1) := by decide +kernel
theorem dX3_offer_57 : decode cX3_offer 57 = .ok (.isub, 1) := by decide +kernel
theorem dX3_offer_58 : decode cX3_offer 58 = .ok (.ireturn, 1) := by decide +kernel
set_option maxRecDepth 20000 in
theorem ggX3_elseOf_X3_offer : GoodIn wsX3_elseOf wsX3_offer := goodIn_r _ [12, 1, 13, 14, 15, 16, 17, 18, 19, 20, 21, 22, 23, 24, 25, 26, 27, 28, 29, 30, 31, 32, 33, 34, 35, 36, 37, 38, 39, 40, 41, 42, 43, 44, 45, 46, 47, 48, 49, 50, 51, 52, 53] (by decide +kernel) (by decide +kernel)
set_option maxRecDepth 20000 in
theorem gX3_elseOf_X3_offer : GoodIn wsX3_elseOf (wsV RX3 92 RX3 yX3_offer wsX3_offer) := goodIn_app (goodIn_of _ (by decide +kernel)) ggX3_elseOf_X3_offer
theorem dX3_elseOf_0 : decode cX3_elseOf 0 = .ok (.aload_n 0, 1) := by decide +kernel
theorem dX3_elseOf_1 : decode cX3_elseOf 1 = .ok (.getfield 41, 3) := by decide +kernel
theorem dX3_elseOf_4 : decode cX3_elseOf 4 = .ok (.getfield 68, 3) := by decide +kernel
theorem dX3_elseOf_7 : decode cX3_elseOf 7 = .ok (.iload_n 1, 1) := by decide +kernel
theorem dX3_elseOf_8 : decode cX3_elseOf 8 = .ok (.iaload, 1) := by decide +kernel
theorem dX3_elseOf_9 : decode cX3_elseOf 9 = .ok (.istore_n 2, 1) := by decide +kernel
theorem dX3_elseOf_10 : decode cX3_elseOf 10 = .ok (.iconst 0, 1) := by decide +kernel
theorem dX3_elseOf_11 : decode cX3_elseOf 11 = .ok (.istore_n 3, 1) := by decide +kernel
theorem dX3_elseOf_12 : decode cX3_elseOf 12 = .ok (.iload_n 3, 1) := by decide +kernel
theorem dX3_elseOf_13 : decode cX3_elseOf 13 = .ok (.aload_n 0, 1) := by decide +kernel
theorem dX3_elseOf_14 : decode cX3_elseOf 14 = .ok (.getfield 41, 3) := by decide +kernel
theorem dX3_elseOf_17 : decode cX3_elseOf 17 = .ok (.getfield 65, 3) := by decide +kernel
theorem dX3_elseOf_20 : decode cX3_elseOf 20 = .ok (.if_icmp .ge 20, 3) := by decide +kernel
theorem dX3_elseOf_23 : decode cX3_elseOf 23 = .ok (.iload_n 2, 1) := by decide +kernel
theorem dX3_elseOf_24 : decode cX3_elseOf 24 = .ok (.aload_n 0, 1) := by decide +kernel
theorem dX3_elseOf_25 : decode cX3_elseOf 25 = .ok (.iload_n 1, 1) := by decide +kernel
theorem dX3_elseOf_26 : decode cX3_elseOf 26 = .ok (.iload_n 3, 1) := by decide +kernel
theorem dX3_elseOf_27 : decode cX3_elseOf 27 = .ok (.invokevirtual 92, 3) := by decide +kernel
theorem dX3_elseOf_30 : decode cX3_elseOf 30 = .ok (.invokestatic 96, 3) := by decide +kernel
theorem dX3_elseOf_33 : decode cX3_elseOf 33 = .ok (.istore_n 2, 1) := by decide +kernel
theorem dX3_elseOf_34 : decode cX3_elseOf 34 = .ok (.iinc 3 1, 3) := by decide +kernel
theorem dX3_elseOf_37 : decode cX3_elseOf 37 = .ok (.goto (-25), 3) := by decide +kernel
theorem dX3_elseOf_40 : decode cX3_elseOf 40 = .ok (.iload_n 2, 1) := by decide +kernel
theorem dX3_elseOf_41 : decode cX3_elseOf 41 = .ok (.ireturn, 1) := by decide +kernel
set_option maxRecDepth 20000 in
theorem ggX3_turnsTo_X3_offer : GoodIn wsX3_turnsTo wsX3_offer := goodIn_r _ [8, 1, 9, 10, 11, 12, 13, 14, 15, 16, 17, 18, 19, 20, 21, 22, 23, 24, 25, 26, 27, 28, 29, 30, 31, 32, 33, 34, 35, 36, 37, 38, 39, 40, 41, 42, 43, 44, 45, 46, 47, 48, 49] (by decide +kernel) (by decide +kernel)
set_option maxRecDepth 20000 in
theorem gX3_turnsTo_X3_offer : GoodIn wsX3_turnsTo (wsV RX3 92 RX3 yX3_offer wsX3_offer) := goodIn_app (goodIn_of _ (by decide +kernel)) ggX3_turnsTo_X3_offer
theorem dX3_turnsTo_0 : decode cX3_turnsTo 0 = .ok (.iconst (-1), 1) := by decide +kernel
theorem dX3_turnsTo_1 : decode cX3_turnsTo 1 = .ok (.istore_n 2, 1) := by decide +kernel
theorem dX3_turnsTo_2 : decode cX3_turnsTo 2 = .ok (.aload_n 0, 1) := by decide +kernel
theorem dX3_turnsTo_3 : decode cX3_turnsTo 3 = .ok (.getfield 41, 3) := by decide +kernel
theorem dX3_turnsTo_6 : decode cX3_turnsTo 6 = .ok (.getfield 68, 3) := by decide +kernel
theorem dX3_turnsTo_9 : decode cX3_turnsTo 9 = .ok (.iload_n 1, 1) := by decide +kernel
theorem dX3_turnsTo_10 : decode cX3_turnsTo 10 = .ok (.iaload, 1) := by decide +kernel
theorem dX3_turnsTo_11 : decode cX3_turnsTo 11 = .ok (.istore_n 3, 1) := by decide +kernel
theorem dX3_turnsTo_12 : decode cX3_turnsTo 12 = .ok (.iconst 0, 1) := by decide +kernel
theorem dX3_turnsTo_13 : decode cX3_turnsTo 13 = .ok (.istore 4, 2) := by decide +kernel
theorem dX3_turnsTo_15 : decode cX3_turnsTo 15 = .ok (.iload 4, 2) := by decide +kernel
theorem dX3_turnsTo_17 : decode cX3_turnsTo 17 = .ok (.aload_n 0, 1) := by decide +kernel
theorem dX3_turnsTo_18 : decode cX3_turnsTo 18 = .ok (.getfield 41, 3) := by decide +kernel
theorem dX3_turnsTo_21 : decode cX3_turnsTo 21 = .ok (.getfield 65, 3) := by decide +kernel
theorem dX3_turnsTo_24 : decode cX3_turnsTo 24 = .ok (.if_icmp .ge 30, 3) := by decide +kernel
theorem dX3_turnsTo_27 : decode cX3_turnsTo 27 = .ok (.aload_n 0, 1) := by decide +kernel
theorem dX3_turnsTo_28 : decode cX3_turnsTo 28 = .ok (.iload_n 1, 1) := by decide +kernel
theorem dX3_turnsTo_29 : decode cX3_turnsTo 29 = .ok (.iload 4, 2) := by decide +kernel
theorem dX3_turnsTo_31 : decode cX3_turnsTo 31 = .ok (.invokevirtual 92, 3) := by decide +kernel
theorem dX3_turnsTo_34 : decode cX3_turnsTo 34 = .ok (.istore 5, 2) := by decide +kernel
theorem dX3_turnsTo_36 : decode cX3_turnsTo 36 = .ok (.iload 5, 2) := by decide +kernel
theorem dX3_turnsTo_38 : decode cX3_turnsTo 38 = .ok (.iload_n 3, 1) := by decide +kernel
theorem dX3_turnsTo_39 : decode cX3_turnsTo 39 = .ok (.if_icmp .le 9, 3) := by decide +kernel
theorem dX3_turnsTo_42 : decode cX3_turnsTo 42 = .ok (.iload 5, 2) := by decide +kernel
theorem dX3_turnsTo_44 : decode cX3_turnsTo 44 = .ok (.istore_n 3, 1) := by decide +kernel
theorem dX3_turnsTo_45 : decode cX3_turnsTo 45 = .ok (.iload 4, 2) := by decide +kernel
theorem dX3_turnsTo_47 : decode cX3_turnsTo 47 = .ok (.istore_n 2, 1) := by decide +kernel
theorem dX3_turnsTo_48 : decode cX3_turnsTo 48 = .ok (.iinc 4 1, 3) := by decide +kernel
theorem dX3_turnsTo_51 : decode cX3_turnsTo 51 = .ok (.goto (-36), 3) := by decide +kernel
theorem dX3_turnsTo_54 : decode cX3_turnsTo 54 = .ok (.iload_n 2, 1) := by decide +kernel
theorem dX3_turnsTo_55 : decode cX3_turnsTo 55 = .ok (.ireturn, 1) := by decide +kernel
set_option maxRecDepth 20000 in
theorem ggX3_chainOf_X3_turnsTo : GoodIn wsX3_chainOf wsX3_turnsTo := goodIn_r _ [7, 1, 8, 2, 9, 10, 11, 6, 12, 13, 14, 15, 16, 17, 18, 19, 20, 21, 22, 23, 24, 25, 26, 27, 28, 29, 30, 31, 32, 33, 34, 35, 36, 37, 38, 39, 40, 41, 42, 43, 44, 45, 46, 47, 48, 49, 50, 51, 52, 53] (by decide +kernel) (by decide +kernel)
set_option maxRecDepth 20000 in
theorem gX3_chainOf_X3_turnsTo : GoodIn wsX3_chainOf (wsV RX3 101 RX3 yX3_turnsTo wsX3_turnsTo) := goodIn_app (goodIn_of _ (by decide +kernel)) ggX3_chainOf_X3_turnsTo
theorem dX3_chainOf_0 : decode cX3_chainOf 0 = .ok (.iconst 0, 1) := by decide +kernel
theorem dX3_chainOf_1 : decode cX3_chainOf 1 = .ok (.istore_n 3, 1) := by decide +kernel
theorem dX3_chainOf_2 : decode cX3_chainOf 2 = .ok (.iload_n 1, 1) := by decide +kernel
theorem dX3_chainOf_3 : decode cX3_chainOf 3 = .ok (.istore 4, 2) := by decide +kernel
theorem dX3_chainOf_5 : decode cX3_chainOf 5 = .ok (.iconst 0, 1) := by decide +kernel
theorem dX3_chainOf_6 : decode cX3_chainOf 6 = .ok (.istore 5, 2) := by decide +kernel
theorem dX3_chainOf_8 : decode cX3_chainOf 8 = .ok (.iload 5, 2) := by decide +kernel
theorem dX3_chainOf_10 : decode cX3_chainOf 10 = .ok (.iload_n 2, 1) := by decide +kernel
theorem dX3_chainOf_11 : decode cX3_chainOf 11 = .ok (.if_icmp .ge 48, 3) := by decide +kernel
theorem dX3_chainOf_14 : decode cX3_chainOf 14 = .ok (.iload 5, 2) := by decide +kernel
theorem dX3_chainOf_16 : decode cX3_chainOf 16 = .ok (.bipush 12, 2) := by decide +kernel
theorem dX3_chainOf_18 : decode cX3_chainOf 18 = .ok (.if_icmp .ge 41, 3) := by decide +kernel
theorem dX3_chainOf_21 : decode cX3_chainOf 21 = .ok (.iload_n 3, 1) := by decide +kernel
theorem dX3_chainOf_22 : decode cX3_chainOf 22 = .ok (.iconst 1, 1) := by decide +kernel
theorem dX3_chainOf_23 : decode cX3_chainOf 23 = .ok (.iload 4, 2) := by decide +kernel
theorem dX3_chainOf_25 : decode cX3_chainOf 25 = .ok (.ishl, 1) := by decide +kernel
theorem dX3_chainOf_26 : decode cX3_chainOf 26 = .ok (.ior, 1) := by decide +kernel
theorem dX3_chainOf_27 : decode cX3_chainOf 27 = .ok (.istore_n 3, 1) := by decide +kernel
theorem dX3_chainOf_28 : decode cX3_chainOf 28 = .ok (.aload_n 0, 1) := by decide +kernel
theorem dX3_chainOf_29 : decode cX3_chainOf 29 = .ok (.iload 4, 2) := by decide +kernel
theorem dX3_chainOf_31 : decode cX3_chainOf 31 = .ok (.invokevirtual 101, 3) := by decide +kernel
theorem dX3_chainOf_34 : decode cX3_chainOf 34 = .ok (.istore 4, 2) := by decide +kernel
theorem dX3_chainOf_36 : decode cX3_chainOf 36 = .ok (.iload 4, 2) := by decide +kernel
theorem dX3_chainOf_38 : decode cX3_chainOf 38 = .ok (.iconst (-1), 1) := by decide +kernel
theorem dX3_chainOf_39 : decode cX3_chainOf 39 = .ok (.if_icmp .eq 12, 3) := by decide +kernel
theorem dX3_chainOf_42 : decode cX3_chainOf 42 = .ok (.iload_n 3, 1) := by decide +kernel
theorem dX3_chainOf_43 : decode cX3_chainOf 43 = .ok (.iload 4, 2) := by decide +kernel
theorem dX3_chainOf_45 : decode cX3_chainOf 45 = .ok (.ishr, 1) := by decide +kernel
theorem dX3_chainOf_46 : decode cX3_chainOf 46 = .ok (.iconst 1, 1) := by decide +kernel
theorem dX3_chainOf_47 : decode cX3_chainOf 47 = .ok (.iand, 1) := by decide +kernel
theorem dX3_chainOf_48 : decode cX3_chainOf 48 = .ok (.ifCond .eq 5, 3) := by decide +kernel
theorem dX3_chainOf_51 : decode cX3_chainOf 51 = .ok (.iconst (-1), 1) := by decide +kernel
theorem dX3_chainOf_52 : decode cX3_chainOf 52 = .ok (.ireturn, 1) := by decide +kernel
theorem dX3_chainOf_53 : decode cX3_chainOf 53 = .ok (.iinc 5 1, 3) := by decide +kernel
theorem dX3_chainOf_56 : decode cX3_chainOf 56 = .ok (.goto (-48), 3) := by decide +kernel
theorem dX3_chainOf_59 : decode cX3_chainOf 59 = .ok (.iload_n 2, 1) := by decide +kernel
theorem dX3_chainOf_60 : decode cX3_chainOf 60 = .ok (.aload_n 0, 1) := by decide +kernel
theorem dX3_chainOf_61 : decode cX3_chainOf 61 = .ok (.getfield 41, 3) := by decide +kernel
theorem dX3_chainOf_64 : decode cX3_chainOf 64 = .ok (.getfield 65, 3) := by decide +kernel
theorem dX3_chainOf_67 : decode cX3_chainOf 67 = .ok (.if_icmp .ge 8, 3) := by decide +kernel
theorem dX3_chainOf_70 : decode cX3_chainOf 70 = .ok (.iload 4, 2) := by decide +kernel
theorem dX3_chainOf_72 : decode cX3_chainOf 72 = .ok (.goto 4, 3) := by decide +kernel
theorem dX3_chainOf_75 : decode cX3_chainOf 75 = .ok (.iconst (-1), 1) := by decide +kernel
theorem dX3_chainOf_76 : decode cX3_chainOf 76 = .ok (.ireturn, 1) := by decide +kernel
theorem dX3_firstLone_0 : decode cX3_firstLone 0 = .ok (.iconst 0, 1) := by decide +kernel
theorem dX3_firstLone_1 : decode cX3_firstLone 1 = .ok (.istore_n 1, 1) := by decide +kernel
theorem dX3_firstLone_2 : decode cX3_firstLone 2 = .ok (.iload_n 1, 1) := by decide +kernel
theorem dX3_firstLone_3 : decode cX3_firstLone 3 = .ok (.aload_n 0, 1) := by decide +kernel
theorem dX3_firstLone_4 : decode cX3_firstLone 4 = .ok (.getfield 41, 3) := by decide +kernel
theorem dX3_firstLone_7 : decode cX3_firstLone 7 = .ok (.getfield 65, 3) := by decide +kernel
theorem dX3_firstLone_10 : decode cX3_firstLone 10 = .ok (.if_icmp .ge 29, 3) := by decide +kernel
theorem dX3_firstLone_13 : decode cX3_firstLone 13 = .ok (.aload_n 0, 1) := by decide +kernel
theorem dX3_firstLone_14 : decode cX3_firstLone 14 = .ok (.getfield 22, 3) := by decide +kernel
theorem dX3_firstLone_17 : decode cX3_firstLone 17 = .ok (.iload_n 1, 1) := by decide +kernel
theorem dX3_firstLone_18 : decode cX3_firstLone 18 = .ok (.iaload, 1) := by decide +kernel
theorem dX3_firstLone_19 : decode cX3_firstLone 19 = .ok (.aload_n 0, 1) := by decide +kernel
theorem dX3_firstLone_20 : decode cX3_firstLone 20 = .ok (.getfield 41, 3) := by decide +kernel
theorem dX3_firstLone_23 : decode cX3_firstLone 23 = .ok (.getfield 68, 3) := by decide +kernel
theorem dX3_firstLone_26 : decode cX3_firstLone 26 = .ok (.iload_n 1, 1) := by decide +kernel
theorem dX3_firstLone_27 : decode cX3_firstLone 27 = .ok (.iaload, 1) := by decide +kernel
theorem dX3_firstLone_28 : decode cX3_firstLone 28 = .ok (.if_icmp .ge 5, 3) := by decide +kernel
theorem dX3_firstLone_31 : decode cX3_firstLone 31 = .ok (.iload_n 1, 1) := by decide +kernel
theorem dX3_firstLone_32 : decode cX3_firstLone 32 = .ok (.ireturn, 1) := by decide +kernel
theorem dX3_firstLone_33 : decode cX3_firstLone 33 = .ok (.iinc 1 1, 3) := by decide +kernel
theorem dX3_firstLone_36 : decode cX3_firstLone 36 = .ok (.goto (-34), 3) := by decide +kernel
theorem dX3_firstLone_39 : decode cX3_firstLone 39 = .ok (.iconst (-1), 1) := by decide +kernel
theorem dX3_firstLone_40 : decode cX3_firstLone 40 = .ok (.ireturn, 1) := by decide +kernel
theorem dX3_firstShort_0 : decode cX3_firstShort 0 = .ok (.iconst 0, 1) := by decide +kernel
theorem dX3_firstShort_1 : decode cX3_firstShort 1 = .ok (.istore_n 2, 1) := by decide +kernel
theorem dX3_firstShort_2 : decode cX3_firstShort 2 = .ok (.iload_n 2, 1) := by decide +kernel
theorem dX3_firstShort_3 : decode cX3_firstShort 3 = .ok (.aload_n 0, 1) := by decide +kernel
theorem dX3_firstShort_4 : decode cX3_firstShort 4 = .ok (.getfield 41, 3) := by decide +kernel
theorem dX3_firstShort_7 : decode cX3_firstShort 7 = .ok (.getfield 53, 3) := by decide +kernel
theorem dX3_firstShort_10 : decode cX3_firstShort 10 = .ok (.if_icmp .ge 104, 3) := by decide +kernel
theorem dX3_firstShort_13 : decode cX3_firstShort 13 = .ok (.aload_n 0, 1) := by decide +kernel
theorem dX3_firstShort_14 : decode cX3_firstShort 14 = .ok (.getfield 41, 3) := by decide +kernel
theorem dX3_firstShort_17 : decode cX3_firstShort 17 = .ok (.getfield 74, 3) := by decide +kernel
theorem dX3_firstShort_20 : decode cX3_firstShort 20 = .ok (.iload_n 2, 1) := by decide +kernel
theorem dX3_firstShort_21 : decode cX3_firstShort 21 = .ok (.iaload, 1) := by decide +kernel
theorem dX3_firstShort_22 : decode cX3_firstShort 22 = .ok (.istore_n 3, 1) := by decide +kernel
theorem dX3_firstShort_23 : decode cX3_firstShort 23 = .ok (.aload_n 0, 1) := by decide +kernel
theorem dX3_firstShort_24 : decode cX3_firstShort 24 = .ok (.getfield 31, 3) := by decide +kernel
theorem dX3_firstShort_27 : decode cX3_firstShort 27 = .ok (.getfield 81, 3) := by decide +kernel
theorem dX3_firstShort_30 : decode cX3_firstShort 30 = .ok (.iload_n 2, 1) := by decide +kernel
theorem dX3_firstShort_31 : decode cX3_firstShort 31 = .ok (.iaload, 1) := by decide +kernel
theorem dX3_firstShort_32 : decode cX3_firstShort 32 = .ok (.iload_n 1, 1) := by decide +kernel
theorem dX3_firstShort_33 : decode cX3_firstShort 33 = .ok (.aload_n 0, 1) := by decide +kernel
theorem dX3_firstShort_34 : decode cX3_firstShort 34 = .ok (.getfield 41, 3) := by decide +kernel
theorem dX3_firstShort_37 : decode cX3_firstShort 37 = .ok (.getfield 104, 3) := by decide +kernel
theorem dX3_firstShort_40 : decode cX3_firstShort 40 = .ok (.iload_n 2, 1) := by decide +kernel
theorem dX3_firstShort_41 : decode cX3_firstShort 41 = .ok (.iaload, 1) := by decide +kernel
theorem dX3_firstShort_42 : decode cX3_firstShort 42 = .ok (.imul, 1) := by decide +kernel
theorem dX3_firstShort_43 : decode cX3_firstShort 43 = .ok (.iadd, 1) := by decide +kernel
theorem dX3_firstShort_44 : decode cX3_firstShort 44 = .ok (.istore 4, 2) := by decide +kernel
theorem dX3_firstShort_46 : decode cX3_firstShort 46 = .ok (.aload_n 0, 1) := by decide +kernel
theorem dX3_firstShort_47 : decode cX3_firstShort 47 = .ok (.getfield 19, 3) := by decide +kernel
theorem dX3_firstShort_50 : decode cX3_firstShort 50 = .ok (.iload_n 3, 1) := by decide +kernel
theorem dX3_firstShort_51 : decode cX3_firstShort 51 = .ok (.iaload, 1) := by decide +kernel
theorem dX3_firstShort_52 : decode cX3_firstShort 52 = .ok (.iload_n 2, 1) := by decide +kernel
theorem dX3_firstShort_53 : decode cX3_firstShort 53 = .ok (.if_icmp .ne 7, 3) := by decide +kernel
theorem dX3_firstShort_56 : decode cX3_firstShort 56 = .ok (.iconst 1, 1) := by decide +kernel
theorem dX3_firstShort_57 : decode cX3_firstShort 57 = .ok (.goto 4, 3) := by decide +kernel
theorem dX3_firstShort_60 : decode cX3_firstShort 60 = .ok (.iconst 0, 1) := by decide +kernel
theorem dX3_firstShort_61 : decode cX3_firstShort 61 = .ok (.istore 5, 2) := by decide +kernel
theorem dX3_firstShort_63 : decode cX3_firstShort 63 = .ok (.aload_n 0, 1) := by decide +kernel
theorem dX3_firstShort_64 : decode cX3_firstShort 64 = .ok (.getfield 31, 3) := by decide +kernel
theorem dX3_firstShort_67 : decode cX3_firstShort 67 = .ok (.getfield 71, 3) := by decide +kernel
theorem dX3_firstShort_70 : decode cX3_firstShort 70 = .ok (.iload_n 2, 1) := by decide +kernel
theorem dX3_firstShort_71 : decode cX3_firstShort 71 = .ok (.baload, 1) := by decide +kernel
theorem dX3_firstShort_72 : decode cX3_firstShort 72 = .ok (.ifCond .eq 36, 3) := by decide +kernel
theorem dX3_firstShort_75 : decode cX3_firstShort 75 = .ok (.iload 5, 2) := by decide +kernel
theorem dX3_firstShort_77 : decode cX3_firstShort 77 = .ok (.ifCond .ne 31, 3) := by decide +kernel
theorem dX3_firstShort_80 : decode cX3_firstShort 80 = .ok (.aload_n 0, 1) := by decide +kernel
theorem dX3_firstShort_81 : decode cX3_firstShort 81 = .ok (.getfield 22, 3) := by decide +kernel
theorem dX3_firstShort_84 : decode cX3_firstShort 84 = .ok (.iload_n 3, 1) := by decide +kernel
theorem dX3_firstShort_85 : decode cX3_firstShort 85 = .ok (.iaload, 1) := by decide +kernel
theorem dX3_firstShort_86 : decode cX3_firstShort 86 = .ok (.aload_n 0, 1) := by decide +kernel
theorem dX3_firstShort_87 : decode cX3_firstShort 87 = .ok (.getfield 22, 3) := by decide +kernel
theorem dX3_firstShort_90 : decode cX3_firstShort 90 = .ok (.aload_n 0, 1) := by decide +kernel
theorem dX3_firstShort_91 : decode cX3_firstShort 91 = .ok (.getfield 41, 3) := by decide +kernel
theorem dX3_firstShort_94 : decode cX3_firstShort 94 = .ok (.getfield 75, 3) := by decide +kernel
theorem dX3_firstShort_97 : decode cX3_firstShort 97 = .ok (.iload_n 2, 1) := by decide +kernel
theorem dX3_firstShort_98 : decode cX3_firstShort 98 = .ok (.iaload, 1) := by decide +kernel
theorem dX3_firstShort_99 : decode cX3_firstShort 99 = .ok (.iaload, 1) := by decide +kernel
theorem dX3_firstShort_100 : decode cX3_firstShort 100 = .ok (.iadd, 1) := by decide +kernel
theorem dX3_firstShort_101 : decode cX3_firstShort 101 = .ok (.iload 4, 2) := by decide +kernel
theorem dX3_firstShort_103 : decode cX3_firstShort 103 = .ok (.if_icmp .ge 5, 3) := by decide +kernel
theorem dX3_firstShort_106 : decode cX3_firstShort 106 = .ok (.iload_n 2, 1) := by decide +kernel
theorem dX3_firstShort_107 : decode cX3_firstShort 107 = .ok (.ireturn, 1) := by decide +kernel
theorem dX3_firstShort_108 : decode cX3_firstShort 108 = .ok (.iinc 2 1, 3) := by decide +kernel
theorem dX3_firstShort_111 : decode cX3_firstShort 111 = .ok (.goto (-109), 3) := by decide +kernel
theorem dX3_firstShort_114 : decode cX3_firstShort 114 = .ok (.iconst (-1), 1) := by decide +kernel
theorem dX3_firstShort_115 : decode cX3_firstShort 115 = .ok (.ireturn, 1) := by decide +kernel
set_option maxRecDepth 20000 in
theorem ggX3_leastAway_X6_everybody : GoodIn wsX3_leastAway wsX6_everybody := goodIn_r _ [9, 10, 28, 29, 30, 31, 32, 33, 34, 35, 36, 37, 38, 39, 40, 41, 42, 43, 44, 45, 46, 47] (by decide +kernel) (by decide +kernel)
set_option maxRecDepth 20000 in
theorem gX3_leastAway_X6_everybody : GoodIn wsX3_leastAway (wsV RX3 107 RX6 yX6_everybody wsX6_everybody) := goodIn_app (goodIn_of _ (by decide +kernel)) ggX3_leastAway_X6_everybody
set_option maxRecDepth 20000 in
theorem ggX3_leastAway_X7_mostOf : GoodIn wsX3_leastAway wsX7_mostOf := goodIn_r _ [15, 16, 48, 49, 50, 51, 52, 53, 54, 55, 56, 57, 58] (by decide +kernel) (by decide +kernel)
set_option maxRecDepth 20000 in
theorem gX3_leastAway_X7_mostOf : GoodIn wsX3_leastAway (wsV RX3 111 RX7 yX7_mostOf wsX7_mostOf) := goodIn_app (goodIn_of _ (by decide +kernel)) ggX3_leastAway_X7_mostOf
theorem dX3_leastAway_0 : decode cX3_leastAway 0 = .ok (.iconst 1, 1) := by decide +kernel
theorem dX3_leastAway_1 : decode cX3_leastAway 1 = .ok (.istore_n 2, 1) := by decide +kernel
theorem dX3_leastAway_2 : decode cX3_leastAway 2 = .ok (.iload_n 2, 1) := by decide +kernel
theorem dX3_leastAway_3 : decode cX3_leastAway 3 = .ok (.aload_n 0, 1) := by decide +kernel
theorem dX3_leastAway_4 : decode cX3_leastAway 4 = .ok (.getfield 41, 3) := by decide +kernel
theorem dX3_leastAway_7 : decode cX3_leastAway 7 = .ok (.invokevirtual 107, 3) := by decide +kernel
theorem dX3_leastAway_10 : decode cX3_leastAway 10 = .ok (.if_icmp .gt 72, 3) := by decide +kernel
theorem dX3_leastAway_13 : decode cX3_leastAway 13 = .ok (.aload_n 1, 1) := by decide +kernel
theorem dX3_leastAway_14 : decode cX3_leastAway 14 = .ok (.iload_n 2, 1) := by decide +kernel
theorem dX3_leastAway_15 : decode cX3_leastAway 15 = .ok (.invokevirtual 111, 3) := by decide +kernel
theorem dX3_leastAway_18 : decode cX3_leastAway 18 = .ok (.istore_n 3, 1) := by decide +kernel
theorem dX3_leastAway_19 : decode cX3_leastAway 19 = .ok (.iconst 0, 1) := by decide +kernel
theorem dX3_leastAway_20 : decode cX3_leastAway 20 = .ok (.istore 4, 2) := by decide +kernel
theorem dX3_leastAway_22 : decode cX3_leastAway 22 = .ok (.iload 4, 2) := by decide +kernel
theorem dX3_leastAway_24 : decode cX3_leastAway 24 = .ok (.aload_n 0, 1) := by decide +kernel
theorem dX3_leastAway_25 : decode cX3_leastAway 25 = .ok (.getfield 41, 3) := by decide +kernel
theorem dX3_leastAway_28 : decode cX3_leastAway 28 = .ok (.getfield 65, 3) := by decide +kernel
theorem dX3_leastAway_31 : decode cX3_leastAway 31 = .ok (.if_icmp .ge 39, 3) := by decide +kernel
theorem dX3_leastAway_34 : decode cX3_leastAway 34 = .ok (.iload_n 2, 1) := by decide +kernel
theorem dX3_leastAway_35 : decode cX3_leastAway 35 = .ok (.iload 4, 2) := by decide +kernel
theorem dX3_leastAway_37 : decode cX3_leastAway 37 = .ok (.ishr, 1) := by decide +kernel
theorem dX3_leastAway_38 : decode cX3_leastAway 38 = .ok (.iconst 1, 1) := by decide +kernel
theorem dX3_leastAway_39 : decode cX3_leastAway 39 = .ok (.iand, 1) := by decide +kernel
theorem dX3_leastAway_40 : decode cX3_leastAway 40 = .ok (.ifCond .eq 24, 3) := by decide +kernel
theorem dX3_leastAway_43 : decode cX3_leastAway 43 = .ok (.iload_n 3, 1) := by decide +kernel
theorem dX3_leastAway_44 : decode cX3_leastAway 44 = .ok (.aload_n 0, 1) := by decide +kernel
theorem dX3_leastAway_45 : decode cX3_leastAway 45 = .ok (.getfield 41, 3) := by decide +kernel
theorem dX3_leastAway_48 : decode cX3_leastAway 48 = .ok (.getfield 68, 3) := by decide +kernel
theorem dX3_leastAway_51 : decode cX3_leastAway 51 = .ok (.iload 4, 2) := by decide +kernel
theorem dX3_leastAway_53 : decode cX3_leastAway 53 = .ok (.iaload, 1) := by decide +kernel
theorem dX3_leastAway_54 : decode cX3_leastAway 54 = .ok (.aload_n 0, 1) := by decide +kernel
theorem dX3_leastAway_55 : decode cX3_leastAway 55 = .ok (.getfield 22, 3) := by decide +kernel
theorem dX3_leastAway_58 : decode cX3_leastAway 58 = .ok (.iload 4, 2) := by decide +kernel
theorem dX3_leastAway_60 : decode cX3_leastAway 60 = .ok (.iaload, 1) := by decide +kernel
theorem dX3_leastAway_61 : decode cX3_leastAway 61 = .ok (.isub, 1) := by decide +kernel
theorem dX3_leastAway_62 : decode cX3_leastAway 62 = .ok (.iadd, 1) := by decide +kernel
theorem dX3_leastAway_63 : decode cX3_leastAway 63 = .ok (.istore_n 3, 1) := by decide +kernel
theorem dX3_leastAway_64 : decode cX3_leastAway 64 = .ok (.iinc 4 1, 3) := by decide +kernel
theorem dX3_leastAway_67 : decode cX3_leastAway 67 = .ok (.goto (-45), 3) := by decide +kernel
theorem dX3_leastAway_70 : decode cX3_leastAway 70 = .ok (.iload_n 3, 1) := by decide +kernel
theorem dX3_leastAway_71 : decode cX3_leastAway 71 = .ok (.ifCond .le 5, 3) := by decide +kernel
theorem dX3_leastAway_74 : decode cX3_leastAway 74 = .ok (.iload_n 2, 1) := by decide +kernel
theorem dX3_leastAway_75 : decode cX3_leastAway 75 = .ok (.ireturn, 1) := by decide +kernel
theorem dX3_leastAway_76 : decode cX3_leastAway 76 = .ok (.iinc 2 1, 3) := by decide +kernel
theorem dX3_leastAway_79 : decode cX3_leastAway 79 = .ok (.goto (-77), 3) := by decide +kernel
theorem dX3_leastAway_82 : decode cX3_leastAway 82 = .ok (.iconst 0, 1) := by decide +kernel
theorem dX3_leastAway_83 : decode cX3_leastAway 83 = .ok (.ireturn, 1) := by decide +kernel
set_option maxRecDepth 20000 in
theorem ggX3_evenFirst_X3_elseOf : GoodIn wsX3_evenFirst wsX3_elseOf := goodIn_r _ [10, 1, 11, 12, 13, 14, 15, 16, 17, 18, 19, 9, 20, 21, 22, 3, 23, 24, 4, 25, 30, 31, 32, 33, 34, 35, 36, 37, 38, 39, 40, 41, 42, 43, 44, 45, 46, 47, 48, 49, 50, 51, 52, 53, 54, 55, 56, 57, 58, 59, 60, 61, 62, 63] (by decide +kernel) (by decide +kernel)
set_option maxRecDepth 20000 in
theorem gX3_evenFirst_X3_elseOf : GoodIn wsX3_evenFirst (wsV RX3 116 RX3 yX3_elseOf wsX3_elseOf) := goodIn_app (goodIn_of _ (by decide +kernel)) ggX3_evenFirst_X3_elseOf
set_option maxRecDepth 20000 in
theorem ggX3_evenFirst_J9_floorDiv_7cf53 : GoodIn wsX3_evenFirst wsJ9_floorDiv_7cf53 := goodIn_r _ [29] (by decide +kernel) (by decide +kernel)
set_option maxRecDepth 20000 in
theorem gX3_evenFirst_J9_floorDiv_7cf53 : GoodIn wsX3_evenFirst (va_wsS RX3 119 yJ9_floorDiv_7cf53 wsJ9_floorDiv_7cf53) := goodIn_app (goodIn_of _ (by decide +kernel)) ggX3_evenFirst_J9_floorDiv_7cf53
theorem dX3_evenFirst_0 : decode cX3_evenFirst 0 = .ok (.aload_n 0, 1) := by decide +kernel
theorem dX3_evenFirst_1 : decode cX3_evenFirst 1 = .ok (.aload_n 0, 1) := by decide +kernel
theorem dX3_evenFirst_2 : decode cX3_evenFirst 2 = .ok (.getfield 41, 3) := by decide +kernel
theorem dX3_evenFirst_5 : decode cX3_evenFirst 5 = .ok (.getfield 74, 3) := by decide +kernel
theorem dX3_evenFirst_8 : decode cX3_evenFirst 8 = .ok (.iload_n 1, 1) := by decide +kernel
theorem dX3_evenFirst_9 : decode cX3_evenFirst 9 = .ok (.iaload, 1) := by decide +kernel
theorem dX3_evenFirst_10 : decode cX3_evenFirst 10 = .ok (.invokevirtual 116, 3) := by decide +kernel
theorem dX3_evenFirst_13 : decode cX3_evenFirst 13 = .ok (.istore_n 2, 1) := by decide +kernel
theorem dX3_evenFirst_14 : decode cX3_evenFirst 14 = .ok (.aload_n 0, 1) := by decide +kernel
theorem dX3_evenFirst_15 : decode cX3_evenFirst 15 = .ok (.getfield 31, 3) := by decide +kernel
theorem dX3_evenFirst_18 : decode cX3_evenFirst 18 = .ok (.getfield 81, 3) := by decide +kernel
theorem dX3_evenFirst_21 : decode cX3_evenFirst 21 = .ok (.iload_n 1, 1) := by decide +kernel
theorem dX3_evenFirst_22 : decode cX3_evenFirst 22 = .ok (.iaload, 1) := by decide +kernel
theorem dX3_evenFirst_23 : decode cX3_evenFirst 23 = .ok (.iload_n 2, 1) := by decide +kernel
theorem dX3_evenFirst_24 : decode cX3_evenFirst 24 = .ok (.isub, 1) := by decide +kernel
theorem dX3_evenFirst_25 : decode cX3_evenFirst 25 = .ok (.aload_n 0, 1) := by decide +kernel
theorem dX3_evenFirst_26 : decode cX3_evenFirst 26 = .ok (.aload_n 0, 1) := by decide +kernel
theorem dX3_evenFirst_27 : decode cX3_evenFirst 27 = .ok (.getfield 41, 3) := by decide +kernel
theorem dX3_evenFirst_30 : decode cX3_evenFirst 30 = .ok (.getfield 75, 3) := by decide +kernel
theorem dX3_evenFirst_33 : decode cX3_evenFirst 33 = .ok (.iload_n 1, 1) := by decide +kernel
theorem dX3_evenFirst_34 : decode cX3_evenFirst 34 = .ok (.iaload, 1) := by decide +kernel
theorem dX3_evenFirst_35 : decode cX3_evenFirst 35 = .ok (.invokevirtual 116, 3) := by decide +kernel
theorem dX3_evenFirst_38 : decode cX3_evenFirst 38 = .ok (.isub, 1) := by decide +kernel
theorem dX3_evenFirst_39 : decode cX3_evenFirst 39 = .ok (.istore_n 3, 1) := by decide +kernel
theorem dX3_evenFirst_40 : decode cX3_evenFirst 40 = .ok (.iload_n 2, 1) := by decide +kernel
theorem dX3_evenFirst_41 : decode cX3_evenFirst 41 = .ok (.iload_n 3, 1) := by decide +kernel
theorem dX3_evenFirst_42 : decode cX3_evenFirst 42 = .ok (.iconst 2, 1) := by decide +kernel
theorem dX3_evenFirst_43 : decode cX3_evenFirst 43 = .ok (.invokestatic 119, 3) := by decide +kernel
theorem dX3_evenFirst_46 : decode cX3_evenFirst 46 = .ok (.iadd, 1) := by decide +kernel
theorem dX3_evenFirst_47 : decode cX3_evenFirst 47 = .ok (.ireturn, 1) := by decide +kernel
set_option maxRecDepth 20000 in
theorem ggX3_firstUneven_X3_evenFirst : GoodIn wsX3_firstUneven wsX3_evenFirst := goodIn_r _ [8, 9, 10, 11, 12, 13, 14, 15, 16, 7, 17, 18, 19, 20, 21, 22, 23, 24, 25, 26, 27, 28, 29, 30, 31, 32, 33, 34, 35, 36, 37, 38, 39, 40, 41, 42, 43, 44, 45, 46, 47, 48, 49, 50, 51, 52, 53, 54, 55, 56, 57, 58, 59, 60, 61, 62, 63, 64, 65, 66, 67, 68, 69, 70] (by decide +kernel) (by decide +kernel)
set_option maxRecDepth 20000 in
theorem gX3_firstUneven_X3_evenFirst : GoodIn wsX3_firstUneven (wsV RX3 122 RX3 yX3_evenFirst wsX3_evenFirst) := goodIn_app (goodIn_of _ (by decide +kernel)) ggX3_firstUneven_X3_evenFirst
theorem dX3_firstUneven_0 : decode cX3_firstUneven 0 = .ok (.iconst 0, 1) := by decide +kernel
theorem dX3_firstUneven_1 : decode cX3_firstUneven 1 = .ok (.istore_n 1, 1) := by decide +kernel
theorem dX3_firstUneven_2 : decode cX3_firstUneven 2 = .ok (.iload_n 1, 1) := by decide +kernel
theorem dX3_firstUneven_3 : decode cX3_firstUneven 3 = .ok (.aload_n 0, 1) := by decide +kernel
theorem dX3_firstUneven_4 : decode cX3_firstUneven 4 = .ok (.getfield 62, 3) := by decide +kernel
theorem dX3_firstUneven_7 : decode cX3_firstUneven 7 = .ok (.if_icmp .ge 40, 3) := by decide +kernel
theorem dX3_firstUneven_10 : decode cX3_firstUneven 10 = .ok (.aload_n 0, 1) := by decide +kernel
theorem dX3_firstUneven_11 : decode cX3_firstUneven 11 = .ok (.getfield 15, 3) := by decide +kernel
theorem dX3_firstUneven_14 : decode cX3_firstUneven 14 = .ok (.aload_n 0, 1) := by decide +kernel
theorem dX3_firstUneven_15 : decode cX3_firstUneven 15 = .ok (.getfield 25, 3) := by decide +kernel
theorem dX3_firstUneven_18 : decode cX3_firstUneven 18 = .ok (.iload_n 1, 1) := by decide +kernel
theorem dX3_firstUneven_19 : decode cX3_firstUneven 19 = .ok (.iaload, 1) := by decide +kernel
theorem dX3_firstUneven_20 : decode cX3_firstUneven 20 = .ok (.iaload, 1) := by decide +kernel
theorem dX3_firstUneven_21 : decode cX3_firstUneven 21 = .ok (.aload_n 0, 1) := by decide +kernel
theorem dX3_firstUneven_22 : decode cX3_firstUneven 22 = .ok (.aload_n 0, 1) := by decide +kernel
theorem dX3_firstUneven_23 : decode cX3_firstUneven 23 = .ok (.getfield 25, 3) := by decide +kernel
theorem dX3_firstUneven_26 : decode cX3_firstUneven 26 = .ok (.iload_n 1, 1) := by decide +kernel
theorem dX3_firstUneven_27 : decode cX3_firstUneven 27 = .ok (.iaload, 1) := by decide +kernel
theorem dX3_firstUneven_28 : decode cX3_firstUneven 28 = .ok (.invokevirtual 122, 3) := by decide +kernel
theorem dX3_firstUneven_31 : decode cX3_firstUneven 31 = .ok (.if_icmp .eq 10, 3) := by decide +kernel
theorem dX3_firstUneven_34 : decode cX3_firstUneven 34 = .ok (.aload_n 0, 1) := by decide +kernel
theorem dX3_firstUneven_35 : decode cX3_firstUneven 35 = .ok (.getfield 25, 3) := by decide +kernel
theorem dX3_firstUneven_38 : decode cX3_firstUneven 38 = .ok (.iload_n 1, 1) := by decide +kernel
theorem dX3_firstUneven_39 : decode cX3_firstUneven 39 = .ok (.iaload, 1) := by decide +kernel
theorem dX3_firstUneven_40 : decode cX3_firstUneven 40 = .ok (.ireturn, 1) := by decide +kernel
theorem dX3_firstUneven_41 : decode cX3_firstUneven 41 = .ok (.iinc 1 1, 3) := by decide +kernel
theorem dX3_firstUneven_44 : decode cX3_firstUneven 44 = .ok (.goto (-42), 3) := by decide +kernel
theorem dX3_firstUneven_47 : decode cX3_firstUneven 47 = .ok (.iconst (-1), 1) := by decide +kernel
theorem dX3_firstUneven_48 : decode cX3_firstUneven 48 = .ok (.ireturn, 1) := by decide +kernel
set_option maxRecDepth 20000 in
theorem ggX3_turnRounds_X3_keep : GoodIn wsX3_turnRounds wsX3_keep := goodIn_r _ [6, 7, 8, 9, 10, 60, 61, 62, 63, 64, 65, 66, 67, 68, 69, 70] (by decide +kernel) (by decide +kernel)
set_option maxRecDepth 20000 in
theorem gX3_turnRounds_X3_keep : GoodIn wsX3_turnRounds (wsV RX3 125 RX3 yX3_keep wsX3_keep) := goodIn_app (goodIn_of _ (by decide +kernel)) ggX3_turnRounds_X3_keep
set_option maxRecDepth 20000 in
theorem ggX3_turnRounds_X3_turnRound : GoodIn wsX3_turnRounds wsX3_turnRound := goodIn_r _ [14, 7, 10, 9, 15, 16, 17, 18, 19, 20, 21, 22, 23, 24, 25, 26, 5, 27, 28, 29, 30, 31, 32, 33, 34, 35, 36, 37, 38, 39, 40, 41, 42, 43, 44, 45, 46, 47, 48, 49, 50, 51, 52, 53, 54, 55, 60, 61, 62, 63, 64, 65, 66, 67, 68, 69, 70, 71, 72, 73, 74, 75, 76, 77, 78, 79, 80, 81, 82, 83, 84, 85, 86, 87, 88, 89, 90, 91, 92, 93] rfl (by decide +kernel)
set_option maxRecDepth 20000 in
theorem gX3_turnRounds_X3_turnRound : GoodIn wsX3_turnRounds (wsV RX3 129 RX3 yX3_turnRound wsX3_turnRound) := goodIn_app (goodIn_of _ (by decide +kernel)) ggX3_turnRounds_X3_turnRound
set_option maxRecDepth 20000 in
theorem ggX3_turnRounds_X3_isAsBehind : GoodIn wsX3_turnRounds wsX3_isAsBehind := goodIn_r _ [59, 7, 8, 9, 10, 60, 61, 62, 63, 64, 65, 66, 67, 68, 69, 70] (by decide +kernel) (by decide +kernel)
set_option maxRecDepth 20000 in
theorem gX3_turnRounds_X3_isAsBehind : GoodIn wsX3_turnRounds (wsV RX3 135 RX3 yX3_isAsBehind wsX3_isAsBehind) := goodIn_app (goodIn_of _ (by decide +kernel)) ggX3_turnRounds_X3_isAsBehind
theorem dX3_turnRounds_0 : decode cX3_turnRounds 0 = .ok (.aload_n 0, 1) := by decide +kernel
theorem dX3_turnRounds_1 : decode cX3_turnRounds 1 = .ok (.iconst 0, 1) := by decide +kernel
theorem dX3_turnRounds_2 : decode cX3_turnRounds 2 = .ok (.invokevirtual 125, 3) := by decide +kernel
theorem dX3_turnRounds_5 : decode cX3_turnRounds 5 = .ok (.iconst 1, 1) := by decide +kernel
theorem dX3_turnRounds_6 : decode cX3_turnRounds 6 = .ok (.istore_n 2, 1) := by decide +kernel
theorem dX3_turnRounds_7 : decode cX3_turnRounds 7 = .ok (.iload_n 2, 1) := by decide +kernel
theorem dX3_turnRounds_8 : decode cX3_turnRounds 8 = .ok (.iload_n 1, 1) := by decide +kernel
theorem dX3_turnRounds_9 : decode cX3_turnRounds 9 = .ok (.if_icmp .gt 76, 3) := by decide +kernel
theorem dX3_turnRounds_12 : decode cX3_turnRounds 12 = .ok (.iload_n 2, 1) := by decide +kernel
theorem dX3_turnRounds_13 : decode cX3_turnRounds 13 = .ok (.sipush 1000, 3) := by decide +kernel
theorem dX3_turnRounds_16 : decode cX3_turnRounds 16 = .ok (.if_icmp .gt 69, 3) := by decide +kernel
theorem dX3_turnRounds_19 : decode cX3_turnRounds 19 = .ok (.aload_n 0, 1) := by decide +kernel
theorem dX3_turnRounds_20 : decode cX3_turnRounds 20 = .ok (.invokevirtual 129, 3) := by decide +kernel
theorem dX3_turnRounds_23 : decode cX3_turnRounds 23 = .ok (.aload_n 0, 1) := by decide +kernel
theorem dX3_turnRounds_24 : decode cX3_turnRounds 24 = .ok (.iconst 2, 1) := by decide +kernel
theorem dX3_turnRounds_25 : decode cX3_turnRounds 25 = .ok (.putfield 132, 3) := by decide +kernel
theorem dX3_turnRounds_28 : decode cX3_turnRounds 28 = .ok (.aload_n 0, 1) := by decide +kernel
theorem dX3_turnRounds_29 : decode cX3_turnRounds 29 = .ok (.iload_n 2, 1) := by decide +kernel
theorem dX3_turnRounds_30 : decode cX3_turnRounds 30 = .ok (.iconst 1, 1) := by decide +kernel
theorem dX3_turnRounds_31 : decode cX3_turnRounds 31 = .ok (.isub, 1) := by decide +kernel
theorem dX3_turnRounds_32 : decode cX3_turnRounds 32 = .ok (.invokevirtual 135, 3) := by decide +kernel
theorem dX3_turnRounds_35 : decode cX3_turnRounds 35 = .ok (.ifCond .eq 10, 3) := by decide +kernel
theorem dX3_turnRounds_38 : decode cX3_turnRounds 38 = .ok (.aload_n 0, 1) := by decide +kernel
theorem dX3_turnRounds_39 : decode cX3_turnRounds 39 = .ok (.iconst 0, 1) := by decide +kernel
theorem dX3_turnRounds_40 : decode cX3_turnRounds 40 = .ok (.putfield 132, 3) := by decide +kernel
theorem dX3_turnRounds_43 : decode cX3_turnRounds 43 = .ok (.iload_n 2, 1) := by decide +kernel
theorem dX3_turnRounds_44 : decode cX3_turnRounds 44 = .ok (.ireturn, 1) := by decide +kernel
theorem dX3_turnRounds_45 : decode cX3_turnRounds 45 = .ok (.iload_n 2, 1) := by decide +kernel
theorem dX3_turnRounds_46 : decode cX3_turnRounds 46 = .ok (.iconst 2, 1) := by decide +kernel
theorem dX3_turnRounds_47 : decode cX3_turnRounds 47 = .ok (.isub, 1) := by decide +kernel
theorem dX3_turnRounds_48 : decode cX3_turnRounds 48 = .ok (.istore_n 3, 1) := by decide +kernel
theorem dX3_turnRounds_49 : decode cX3_turnRounds 49 = .ok (.iload_n 3, 1) := by decide +kernel
theorem dX3_turnRounds_50 : decode cX3_turnRounds 50 = .ok (.ifCond .lt 24, 3) := by decide +kernel
theorem dX3_turnRounds_53 : decode cX3_turnRounds 53 = .ok (.aload_n 0, 1) := by decide +kernel
theorem dX3_turnRounds_54 : decode cX3_turnRounds 54 = .ok (.iload_n 3, 1) := by decide +kernel
theorem dX3_turnRounds_55 : decode cX3_turnRounds 55 = .ok (.invokevirtual 135, 3) := by decide +kernel
theorem dX3_turnRounds_58 : decode cX3_turnRounds 58 = .ok (.ifCond .eq 10, 3) := by decide +kernel
theorem dX3_turnRounds_61 : decode cX3_turnRounds 61 = .ok (.aload_n 0, 1) := by decide +kernel
theorem dX3_turnRounds_62 : decode cX3_turnRounds 62 = .ok (.iconst 1, 1) := by decide +kernel
theorem dX3_turnRounds_63 : decode cX3_turnRounds 63 = .ok (.putfield 132, 3) := by decide +kernel
theorem dX3_turnRounds_66 : decode cX3_turnRounds 66 = .ok (.iload_n 2, 1) := by decide +kernel
theorem dX3_turnRounds_67 : decode cX3_turnRounds 67 = .ok (.ireturn, 1) := by decide +kernel
theorem dX3_turnRounds_68 : decode cX3_turnRounds 68 = .ok (.iinc 3 (-1), 3) := by decide +kernel
theorem dX3_turnRounds_71 : decode cX3_turnRounds 71 = .ok (.goto (-22), 3) := by decide +kernel
theorem dX3_turnRounds_74 : decode cX3_turnRounds 74 = .ok (.aload_n 0, 1) := by decide +kernel
theorem dX3_turnRounds_75 : decode cX3_turnRounds 75 = .ok (.iload_n 2, 1) := by decide +kernel
theorem dX3_turnRounds_76 : decode cX3_turnRounds 76 = .ok (.invokevirtual 125, 3) := by decide +kernel
theorem dX3_turnRounds_79 : decode cX3_turnRounds 79 = .ok (.iinc 2 1, 3) := by decide +kernel
theorem dX3_turnRounds_82 : decode cX3_turnRounds 82 = .ok (.goto (-75), 3) := by decide +kernel
theorem dX3_turnRounds_85 : decode cX3_turnRounds 85 = .ok (.iload_n 1, 1) := by decide +kernel
theorem dX3_turnRounds_86 : decode cX3_turnRounds 86 = .ok (.ireturn, 1) := by decide +kernel
set_option maxRecDepth 20000 in
theorem ggX3_turnRound_X3_evenFirst : GoodIn wsX3_turnRound wsX3_evenFirst := goodIn_r _ [17, 18, 19, 20, 21, 22, 23, 24, 25, 16, 26, 27, 28, 5, 6, 7, 8, 29, 30, 31, 32, 33, 34, 35, 36, 37, 38, 39, 40, 41, 46, 47, 48, 49, 50, 51, 52, 53, 54, 55, 56, 57, 58, 59, 60, 61, 62, 63, 64, 65, 66, 67, 68, 69, 70, 71, 72, 73, 74, 75, 76, 77, 78, 79] (by decide +kernel) (by decide +kernel)
set_option maxRecDepth 20000 in
theorem gX3_turnRound_X3_evenFirst : GoodIn wsX3_turnRound (wsV RX3 122 RX3 yX3_evenFirst wsX3_evenFirst) := goodIn_app (goodIn_of _ (by decide +kernel)) ggX3_turnRound_X3_evenFirst
set_option maxRecDepth 20000 in
theorem ggX3_turnRound_X3_part : GoodIn wsX3_turnRound wsX3_part := goodIn_r _ [45, 37, 18, 19, 22, 20, 21, 46, 47, 48, 49, 50, 51, 52, 53, 54, 55, 56, 57, 58, 59, 60, 61, 62, 63, 64, 65, 66, 67, 68, 69, 70, 71, 72, 73, 74, 75, 76, 77, 78, 79] (by decide +kernel) (by decide +kernel)
set_option maxRecDepth 20000 in
theorem gX3_turnRound_X3_part : GoodIn wsX3_turnRound (wsV RX3 78 RX3 yX3_part wsX3_part) := goodIn_app (goodIn_of _ (by decide +kernel)) ggX3_turnRound_X3_part
theorem dX3_turnRound_0 : decode cX3_turnRound 0 = .ok (.iconst 0, 1) := by decide +kernel
theorem dX3_turnRound_1 : decode cX3_turnRound 1 = .ok (.istore_n 1, 1) := by decide +kernel
theorem dX3_turnRound_2 : decode cX3_turnRound 2 = .ok (.iload_n 1, 1) := by decide +kernel
theorem dX3_turnRound_3 : decode cX3_turnRound 3 = .ok (.aload_n 0, 1) := by decide +kernel
theorem dX3_turnRound_4 : decode cX3_turnRound 4 = .ok (.getfield 62, 3) := by decide +kernel
theorem dX3_turnRound_7 : decode cX3_turnRound 7 = .ok (.if_icmp .ge 50, 3) := by decide +kernel
theorem dX3_turnRound_10 : decode cX3_turnRound 10 = .ok (.aload_n 0, 1) := by decide +kernel
theorem dX3_turnRound_11 : decode cX3_turnRound 11 = .ok (.getfield 25, 3) := by decide +kernel
theorem dX3_turnRound_14 : decode cX3_turnRound 14 = .ok (.iload_n 1, 1) := by decide +kernel
theorem dX3_turnRound_15 : decode cX3_turnRound 15 = .ok (.iaload, 1) := by decide +kernel
theorem dX3_turnRound_16 : decode cX3_turnRound 16 = .ok (.istore_n 2, 1) := by decide +kernel
theorem dX3_turnRound_17 : decode cX3_turnRound 17 = .ok (.aload_n 0, 1) := by decide +kernel
theorem dX3_turnRound_18 : decode cX3_turnRound 18 = .ok (.iload_n 2, 1) := by decide +kernel
theorem dX3_turnRound_19 : decode cX3_turnRound 19 = .ok (.invokevirtual 122, 3) := by decide +kernel
theorem dX3_turnRound_22 : decode cX3_turnRound 22 = .ok (.istore_n 3, 1) := by decide +kernel
theorem dX3_turnRound_23 : decode cX3_turnRound 23 = .ok (.aload_n 0, 1) := by decide +kernel
theorem dX3_turnRound_24 : decode cX3_turnRound 24 = .ok (.getfield 15, 3) := by decide +kernel
theorem dX3_turnRound_27 : decode cX3_turnRound 27 = .ok (.iload_n 2, 1) := by decide +kernel
theorem dX3_turnRound_28 : decode cX3_turnRound 28 = .ok (.iload_n 3, 1) := by decide +kernel
theorem dX3_turnRound_29 : decode cX3_turnRound 29 = .ok (.ldc 139, 2) := by decide +kernel
theorem dX3_turnRound_31 : decode cX3_turnRound 31 = .ok (.invokestatic 96, 3) := by decide +kernel
theorem dX3_turnRound_34 : decode cX3_turnRound 34 = .ok (.ldc 140, 2) := by decide +kernel
theorem dX3_turnRound_36 : decode cX3_turnRound 36 = .ok (.invokestatic 141, 3) := by decide +kernel
theorem dX3_turnRound_39 : decode cX3_turnRound 39 = .ok (.iastore, 1) := by decide +kernel
theorem dX3_turnRound_40 : decode cX3_turnRound 40 = .ok (.aload_n 0, 1) := by decide +kernel
theorem dX3_turnRound_41 : decode cX3_turnRound 41 = .ok (.iload_n 2, 1) := by decide +kernel
theorem dX3_turnRound_42 : decode cX3_turnRound 42 = .ok (.aload_n 0, 1) := by decide +kernel
theorem dX3_turnRound_43 : decode cX3_turnRound 43 = .ok (.getfield 15, 3) := by decide +kernel
theorem dX3_turnRound_46 : decode cX3_turnRound 46 = .ok (.iload_n 2, 1) := by decide +kernel
theorem dX3_turnRound_47 : decode cX3_turnRound 47 = .ok (.iaload, 1) := by decide +kernel
theorem dX3_turnRound_48 : decode cX3_turnRound 48 = .ok (.invokevirtual 78, 3) := by decide +kernel
theorem dX3_turnRound_51 : decode cX3_turnRound 51 = .ok (.iinc 1 1, 3) := by decide +kernel
theorem dX3_turnRound_54 : decode cX3_turnRound 54 = .ok (.goto (-52), 3) := by decide +kernel
theorem dX3_turnRound_57 : decode cX3_turnRound 57 = .ok (.return_, 1) := by decide +kernel
theorem dX3_keep_0 : decode cX3_keep 0 = .ok (.iconst 0, 1) := by decide +kernel
theorem dX3_keep_1 : decode cX3_keep 1 = .ok (.istore_n 2, 1) := by decide +kernel
theorem dX3_keep_2 : decode cX3_keep 2 = .ok (.iload_n 2, 1) := by decide +kernel
theorem dX3_keep_3 : decode cX3_keep 3 = .ok (.aload_n 0, 1) := by decide +kernel
theorem dX3_keep_4 : decode cX3_keep 4 = .ok (.getfield 62, 3) := by decide +kernel
theorem dX3_keep_7 : decode cX3_keep 7 = .ok (.if_icmp .ge 31, 3) := by decide +kernel
theorem dX3_keep_10 : decode cX3_keep 10 = .ok (.aload_n 0, 1) := by decide +kernel
theorem dX3_keep_11 : decode cX3_keep 11 = .ok (.getfield 28, 3) := by decide +kernel
theorem dX3_keep_14 : decode cX3_keep 14 = .ok (.iload_n 1, 1) := by decide +kernel
theorem dX3_keep_15 : decode cX3_keep 15 = .ok (.bipush 6, 2) := by decide +kernel
theorem dX3_keep_17 : decode cX3_keep 17 = .ok (.imul, 1) := by decide +kernel
theorem dX3_keep_18 : decode cX3_keep 18 = .ok (.iload_n 2, 1) := by decide +kernel
theorem dX3_keep_19 : decode cX3_keep 19 = .ok (.iadd, 1) := by decide +kernel
theorem dX3_keep_20 : decode cX3_keep 20 = .ok (.aload_n 0, 1) := by decide +kernel
theorem dX3_keep_21 : decode cX3_keep 21 = .ok (.getfield 15, 3) := by decide +kernel
theorem dX3_keep_24 : decode cX3_keep 24 = .ok (.aload_n 0, 1) := by decide +kernel
theorem dX3_keep_25 : decode cX3_keep 25 = .ok (.getfield 25, 3) := by decide +kernel
theorem dX3_keep_28 : decode cX3_keep 28 = .ok (.iload_n 2, 1) := by decide +kernel
theorem dX3_keep_29 : decode cX3_keep 29 = .ok (.iaload, 1) := by decide +kernel
theorem dX3_keep_30 : decode cX3_keep 30 = .ok (.iaload, 1) := by decide +kernel
theorem dX3_keep_31 : decode cX3_keep 31 = .ok (.iastore, 1) := by decide +kernel
theorem dX3_keep_32 : decode cX3_keep 32 = .ok (.iinc 2 1, 3) := by decide +kernel
theorem dX3_keep_35 : decode cX3_keep 35 = .ok (.goto (-33), 3) := by decide +kernel
theorem dX3_keep_38 : decode cX3_keep 38 = .ok (.return_, 1) := by decide +kernel
theorem dX3_isAsBehind_0 : decode cX3_isAsBehind 0 = .ok (.iconst 0, 1) := by decide +kernel
theorem dX3_isAsBehind_1 : decode cX3_isAsBehind 1 = .ok (.istore_n 2, 1) := by decide +kernel
theorem dX3_isAsBehind_2 : decode cX3_isAsBehind 2 = .ok (.iload_n 2, 1) := by decide +kernel
theorem dX3_isAsBehind_3 : decode cX3_isAsBehind 3 = .ok (.aload_n 0, 1) := by decide +kernel
theorem dX3_isAsBehind_4 : decode cX3_isAsBehind 4 = .ok (.getfield 62, 3) := by decide +kernel
theorem dX3_isAsBehind_7 : decode cX3_isAsBehind 7 = .ok (.if_icmp .ge 36, 3) := by decide +kernel
theorem dX3_isAsBehind_10 : decode cX3_isAsBehind 10 = .ok (.aload_n 0, 1) := by decide +kernel
theorem dX3_isAsBehind_11 : decode cX3_isAsBehind 11 = .ok (.getfield 28, 3) := by decide +kernel
theorem dX3_isAsBehind_14 : decode cX3_isAsBehind 14 = .ok (.iload_n 1, 1) := by decide +kernel
theorem dX3_isAsBehind_15 : decode cX3_isAsBehind 15 = .ok (.bipush 6, 2) := by decide +kernel
theorem dX3_isAsBehind_17 : decode cX3_isAsBehind 17 = .ok (.imul, 1) := by decide +kernel
theorem dX3_isAsBehind_18 : decode cX3_isAsBehind 18 = .ok (.iload_n 2, 1) := by decide +kernel
theorem dX3_isAsBehind_19 : decode cX3_isAsBehind 19 = .ok (.iadd, 1) := by decide +kernel
theorem dX3_isAsBehind_20 : decode cX3_isAsBehind 20 = .ok (.iaload, 1) := by decide +kernel
theorem dX3_isAsBehind_21 : decode cX3_isAsBehind 21 = .ok (.aload_n 0, 1) := by decide +kernel
theorem dX3_isAsBehind_22 : decode cX3_isAsBehind 22 = .ok (.getfield 15, 3) := by decide +kernel
theorem dX3_isAsBehind_25 : decode cX3_isAsBehind 25 = .ok (.aload_n 0, 1) := by decide +kernel
theorem dX3_isAsBehind_26 : decode cX3_isAsBehind 26 = .ok (.getfield 25, 3) := by decide +kernel
theorem dX3_isAsBehind_29 : decode cX3_isAsBehind 29 = .ok (.iload_n 2, 1) := by decide +kernel
theorem dX3_isAsBehind_30 : decode cX3_isAsBehind 30 = .ok (.iaload, 1) := by decide +kernel
theorem dX3_isAsBehind_31 : decode cX3_isAsBehind 31 = .ok (.iaload, 1) := by decide +kernel
theorem dX3_isAsBehind_32 : decode cX3_isAsBehind 32 = .ok (.if_icmp .eq 5, 3) := by decide +kernel
theorem dX3_isAsBehind_35 : decode cX3_isAsBehind 35 = .ok (.iconst 0, 1) := by decide +kernel
theorem dX3_isAsBehind_36 : decode cX3_isAsBehind 36 = .ok (.ireturn, 1) := by decide +kernel
theorem dX3_isAsBehind_37 : decode cX3_isAsBehind 37 = .ok (.iinc 2 1, 3) := by decide +kernel
theorem dX3_isAsBehind_40 : decode cX3_isAsBehind 40 = .ok (.goto (-38), 3) := by decide +kernel
theorem dX3_isAsBehind_43 : decode cX3_isAsBehind 43 = .ok (.iconst 1, 1) := by decide +kernel
theorem dX3_isAsBehind_44 : decode cX3_isAsBehind 44 = .ok (.ireturn, 1) := by decide +kernel
set_option maxRecDepth 20000 in
theorem ggX3_twiceGift_X5_begin : GoodIn wsX3_twiceGift wsX5_begin := goodIn_r _ [18, 19, 20, 12, 21, 22, 23, 24, 25, 26, 27, 95, 96, 97, 98, 99, 100, 101, 102] (by decide +kernel) (by decide +kernel)
set_option maxRecDepth 20000 in
theorem gX3_twiceGift_X5_begin : GoodIn wsX3_twiceGift (wsV RX3 144 RX5 yX5_begin wsX5_begin) := goodIn_app (goodIn_of _ (by decide +kernel)) ggX3_twiceGift_X5_begin
set_option maxRecDepth 20000 in
theorem ggX3_twiceGift_X3_withAlone : GoodIn wsX3_twiceGift wsX3_withAlone := goodIn_r _ [32, 1, 33, 3, 10, 11, 12, 13, 61, 62, 63, 64, 65, 66, 67, 68, 69, 70, 71, 72, 73, 74, 75, 76, 77, 78, 79, 80, 81, 82, 83, 84, 85, 86, 87, 88, 89, 90, 91] (by decide +kernel) (by decide +kernel)
set_option maxRecDepth 20000 in
theorem gX3_twiceGift_X3_withAlone : GoodIn wsX3_twiceGift (wsV RX3 149 RX3 yX3_withAlone wsX3_withAlone) := goodIn_app (goodIn_of _ (by decide +kernel)) ggX3_twiceGift_X3_withAlone
set_option maxRecDepth 20000 in
theorem ggX3_twiceGift_X5_weigh : GoodIn wsX3_twiceGift wsX5_weigh := goodIn_r _ [37, 23, 95, 96, 97, 98, 99, 100, 101, 102] (by decide +kernel) (by decide +kernel)
set_option maxRecDepth 20000 in
theorem gX3_twiceGift_X5_weigh : GoodIn wsX3_twiceGift (wsV RX3 152 RX5 yX5_weigh wsX5_weigh) := goodIn_app (goodIn_of _ (by decide +kernel)) ggX3_twiceGift_X5_weigh
set_option maxRecDepth 20000 in
theorem ggX3_twiceGift_X5_greatest : GoodIn wsX3_twiceGift wsX5_greatest := goodIn_r _ [41, 42, 43, 44, 22, 23, 24, 25, 26, 27, 45, 46, 47, 17, 48, 49, 50, 51, 52, 53, 54, 55, 56, 57, 58, 59, 60, 95, 96, 97, 98, 99, 100, 101, 102] (by decide +kernel) (by decide +kernel)
set_option maxRecDepth 20000 in
theorem gX3_twiceGift_X5_greatest : GoodIn wsX3_twiceGift (wsV RX3 156 RX5 yX5_greatest wsX5_greatest) := goodIn_app (goodIn_of _ (by decide +kernel)) ggX3_twiceGift_X5_greatest
theorem dX3_twiceGift_0 : decode cX3_twiceGift 0 = .ok (.iconst 0, 1) := by decide +kernel
theorem dX3_twiceGift_1 : decode cX3_twiceGift 1 = .ok (.istore_n 2, 1) := by decide +kernel
theorem dX3_twiceGift_2 : decode cX3_twiceGift 2 = .ok (.aload_n 1, 1) := by decide +kernel
theorem dX3_twiceGift_3 : decode cX3_twiceGift 3 = .ok (.aload_n 0, 1) := by decide +kernel
theorem dX3_twiceGift_4 : decode cX3_twiceGift 4 = .ok (.getfield 41, 3) := by decide +kernel
theorem dX3_twiceGift_7 : decode cX3_twiceGift 7 = .ok (.getfield 65, 3) := by decide +kernel
theorem dX3_twiceGift_10 : decode cX3_twiceGift 10 = .ok (.invokevirtual 144, 3) := by decide +kernel
theorem dX3_twiceGift_13 : decode cX3_twiceGift 13 = .ok (.iconst 0, 1) := by decide +kernel
theorem dX3_twiceGift_14 : decode cX3_twiceGift 14 = .ok (.istore_n 3, 1) := by decide +kernel
theorem dX3_twiceGift_15 : decode cX3_twiceGift 15 = .ok (.iload_n 3, 1) := by decide +kernel
theorem dX3_twiceGift_16 : decode cX3_twiceGift 16 = .ok (.aload_n 0, 1) := by decide +kernel
theorem dX3_twiceGift_17 : decode cX3_twiceGift 17 = .ok (.getfield 41, 3) := by decide +kernel
theorem dX3_twiceGift_20 : decode cX3_twiceGift 20 = .ok (.getfield 65, 3) := by decide +kernel
theorem dX3_twiceGift_23 : decode cX3_twiceGift 23 = .ok (.if_icmp .ge 24, 3) := by decide +kernel
theorem dX3_twiceGift_26 : decode cX3_twiceGift 26 = .ok (.iload_n 2, 1) := by decide +kernel
theorem dX3_twiceGift_27 : decode cX3_twiceGift 27 = .ok (.aload_n 0, 1) := by decide +kernel
theorem dX3_twiceGift_28 : decode cX3_twiceGift 28 = .ok (.iload_n 3, 1) := by decide +kernel
theorem dX3_twiceGift_29 : decode cX3_twiceGift 29 = .ok (.invokevirtual 149, 3) := by decide +kernel
theorem dX3_twiceGift_32 : decode cX3_twiceGift 32 = .ok (.aload_n 0, 1) := by decide +kernel
theorem dX3_twiceGift_33 : decode cX3_twiceGift 33 = .ok (.getfield 22, 3) := by decide +kernel
theorem dX3_twiceGift_36 : decode cX3_twiceGift 36 = .ok (.iload_n 3, 1) := by decide +kernel
theorem dX3_twiceGift_37 : decode cX3_twiceGift 37 = .ok (.iaload, 1) := by decide +kernel
theorem dX3_twiceGift_38 : decode cX3_twiceGift 38 = .ok (.isub, 1) := by decide +kernel
theorem dX3_twiceGift_39 : decode cX3_twiceGift 39 = .ok (.iadd, 1) := by decide +kernel
theorem dX3_twiceGift_40 : decode cX3_twiceGift 40 = .ok (.istore_n 2, 1) := by decide +kernel
theorem dX3_twiceGift_41 : decode cX3_twiceGift 41 = .ok (.iinc 3 1, 3) := by decide +kernel
theorem dX3_twiceGift_44 : decode cX3_twiceGift 44 = .ok (.goto (-29), 3) := by decide +kernel
theorem dX3_twiceGift_47 : decode cX3_twiceGift 47 = .ok (.iconst 0, 1) := by decide +kernel
theorem dX3_twiceGift_48 : decode cX3_twiceGift 48 = .ok (.istore_n 3, 1) := by decide +kernel
theorem dX3_twiceGift_49 : decode cX3_twiceGift 49 = .ok (.iload_n 3, 1) := by decide +kernel
theorem dX3_twiceGift_50 : decode cX3_twiceGift 50 = .ok (.aload_n 0, 1) := by decide +kernel
theorem dX3_twiceGift_51 : decode cX3_twiceGift 51 = .ok (.getfield 41, 3) := by decide +kernel
theorem dX3_twiceGift_54 : decode cX3_twiceGift 54 = .ok (.getfield 53, 3) := by decide +kernel
theorem dX3_twiceGift_57 : decode cX3_twiceGift 57 = .ok (.if_icmp .ge 86, 3) := by decide +kernel
theorem dX3_twiceGift_60 : decode cX3_twiceGift 60 = .ok (.aload_n 0, 1) := by decide +kernel
theorem dX3_twiceGift_61 : decode cX3_twiceGift 61 = .ok (.getfield 41, 3) := by decide +kernel
theorem dX3_twiceGift_64 : decode cX3_twiceGift 64 = .ok (.getfield 74, 3) := by decide +kernel
theorem dX3_twiceGift_67 : decode cX3_twiceGift 67 = .ok (.iload_n 3, 1) := by decide +kernel
theorem dX3_twiceGift_68 : decode cX3_twiceGift 68 = .ok (.iaload, 1) := by decide +kernel
theorem dX3_twiceGift_69 : decode cX3_twiceGift 69 = .ok (.istore 4, 2) := by decide +kernel
theorem dX3_twiceGift_71 : decode cX3_twiceGift 71 = .ok (.aload_n 0, 1) := by decide +kernel
theorem dX3_twiceGift_72 : decode cX3_twiceGift 72 = .ok (.getfield 41, 3) := by decide +kernel
theorem dX3_twiceGift_75 : decode cX3_twiceGift 75 = .ok (.getfield 75, 3) := by decide +kernel
theorem dX3_twiceGift_78 : decode cX3_twiceGift 78 = .ok (.iload_n 3, 1) := by decide +kernel
theorem dX3_twiceGift_79 : decode cX3_twiceGift 79 = .ok (.iaload, 1) := by decide +kernel
theorem dX3_twiceGift_80 : decode cX3_twiceGift 80 = .ok (.istore 5, 2) := by decide +kernel
theorem dX3_twiceGift_82 : decode cX3_twiceGift 82 = .ok (.aload_n 0, 1) := by decide +kernel
theorem dX3_twiceGift_83 : decode cX3_twiceGift 83 = .ok (.getfield 31, 3) := by decide +kernel
theorem dX3_twiceGift_86 : decode cX3_twiceGift 86 = .ok (.getfield 71, 3) := by decide +kernel
theorem dX3_twiceGift_89 : decode cX3_twiceGift 89 = .ok (.iload_n 3, 1) := by decide +kernel
theorem dX3_twiceGift_90 : decode cX3_twiceGift 90 = .ok (.baload, 1) := by decide +kernel
theorem dX3_twiceGift_91 : decode cX3_twiceGift 91 = .ok (.ifCond .eq 29, 3) := by decide +kernel
theorem dX3_twiceGift_94 : decode cX3_twiceGift 94 = .ok (.aload_n 0, 1) := by decide +kernel
theorem dX3_twiceGift_95 : decode cX3_twiceGift 95 = .ok (.getfield 31, 3) := by decide +kernel
theorem dX3_twiceGift_98 : decode cX3_twiceGift 98 = .ok (.getfield 81, 3) := by decide +kernel
theorem dX3_twiceGift_101 : decode cX3_twiceGift 101 = .ok (.iload_n 3, 1) := by decide +kernel
theorem dX3_twiceGift_102 : decode cX3_twiceGift 102 = .ok (.iaload, 1) := by decide +kernel
theorem dX3_twiceGift_103 : decode cX3_twiceGift 103 = .ok (.aload_n 0, 1) := by decide +kernel
theorem dX3_twiceGift_104 : decode cX3_twiceGift 104 = .ok (.iload 4, 2) := by decide +kernel
theorem dX3_twiceGift_106 : decode cX3_twiceGift 106 = .ok (.invokevirtual 149, 3) := by decide +kernel
theorem dX3_twiceGift_109 : decode cX3_twiceGift 109 = .ok (.isub, 1) := by decide +kernel
theorem dX3_twiceGift_110 : decode cX3_twiceGift 110 = .ok (.aload_n 0, 1) := by decide +kernel
theorem dX3_twiceGift_111 : decode cX3_twiceGift 111 = .ok (.iload 5, 2) := by decide +kernel
theorem dX3_twiceGift_113 : decode cX3_twiceGift 113 = .ok (.invokevirtual 149, 3) := by decide +kernel
theorem dX3_twiceGift_116 : decode cX3_twiceGift 116 = .ok (.isub, 1) := by decide +kernel
theorem dX3_twiceGift_117 : decode cX3_twiceGift 117 = .ok (.goto 4, 3) := by decide +kernel
theorem dX3_twiceGift_120 : decode cX3_twiceGift 120 = .ok (.iconst 0, 1) := by decide +kernel
theorem dX3_twiceGift_121 : decode cX3_twiceGift 121 = .ok (.istore 6, 2) := by decide +kernel
theorem dX3_twiceGift_123 : decode cX3_twiceGift 123 = .ok (.aload_n 1, 1) := by decide +kernel
theorem dX3_twiceGift_124 : decode cX3_twiceGift 124 = .ok (.iload 4, 2) := by decide +kernel
theorem dX3_twiceGift_126 : decode cX3_twiceGift 126 = .ok (.iload 5, 2) := by decide +kernel
theorem dX3_twiceGift_128 : decode cX3_twiceGift 128 = .ok (.iconst 0, 1) := by decide +kernel
theorem dX3_twiceGift_129 : decode cX3_twiceGift 129 = .ok (.iload 6, 2) := by decide +kernel
theorem dX3_twiceGift_131 : decode cX3_twiceGift 131 = .ok (.invokestatic 96, 3) := by decide +kernel
theorem dX3_twiceGift_134 : decode cX3_twiceGift 134 = .ok (.invokevirtual 152, 3) := by decide +kernel
theorem dX3_twiceGift_137 : decode cX3_twiceGift 137 = .ok (.iinc 3 1, 3) := by decide +kernel
theorem dX3_twiceGift_140 : decode cX3_twiceGift 140 = .ok (.goto (-91), 3) := by decide +kernel
theorem dX3_twiceGift_143 : decode cX3_twiceGift 143 = .ok (.iconst 2, 1) := by decide +kernel
theorem dX3_twiceGift_144 : decode cX3_twiceGift 144 = .ok (.iload_n 2, 1) := by decide +kernel
theorem dX3_twiceGift_145 : decode cX3_twiceGift 145 = .ok (.imul, 1) := by decide +kernel
theorem dX3_twiceGift_146 : decode cX3_twiceGift 146 = .ok (.aload_n 1, 1) := by decide +kernel
theorem dX3_twiceGift_147 : decode cX3_twiceGift 147 = .ok (.invokevirtual 156, 3) := by decide +kernel
theorem dX3_twiceGift_150 : decode cX3_twiceGift 150 = .ok (.iadd, 1) := by decide +kernel
theorem dX3_twiceGift_151 : decode cX3_twiceGift 151 = .ok (.ireturn, 1) := by decide +kernel
theorem dX3_withAlone_0 : decode cX3_withAlone 0 = .ok (.aload_n 0, 1) := by decide +kernel
theorem dX3_withAlone_1 : decode cX3_withAlone 1 = .ok (.getfield 41, 3) := by decide +kernel
theorem dX3_withAlone_4 : decode cX3_withAlone 4 = .ok (.getfield 68, 3) := by decide +kernel
theorem dX3_withAlone_7 : decode cX3_withAlone 7 = .ok (.iload_n 1, 1) := by decide +kernel
theorem dX3_withAlone_8 : decode cX3_withAlone 8 = .ok (.iaload, 1) := by decide +kernel
theorem dX3_withAlone_9 : decode cX3_withAlone 9 = .ok (.aload_n 0, 1) := by decide +kernel
theorem dX3_withAlone_10 : decode cX3_withAlone 10 = .ok (.getfield 22, 3) := by decide +kernel
theorem dX3_withAlone_13 : decode cX3_withAlone 13 = .ok (.iload_n 1, 1) := by decide +kernel
theorem dX3_withAlone_14 : decode cX3_withAlone 14 = .ok (.iaload, 1) := by decide +kernel
theorem dX3_withAlone_15 : decode cX3_withAlone 15 = .ok (.invokestatic 96, 3) := by decide +kernel
theorem dX3_withAlone_18 : decode cX3_withAlone 18 = .ok (.ireturn, 1) := by decide +kernel
set_option maxRecDepth 20000 in
theorem ggX4_init_X2_init : GoodIn wsX4_init wsX2_init := goodIn_r _ [14, 15, 2, 3, 16, 17, 18, 19, 20, 21, 22, 23] (by decide +kernel) (by decide +kernel)
set_option maxRecDepth 20000 in
theorem gX4_init_X2_init : GoodIn wsX4_init (wsX2_init) := ggX4_init_X2_init
theorem dX4_init_0 : decode cX4_init 0 = .ok (.aload_n 0, 1) := by decide +kernel
theorem dX4_init_1 : decode cX4_init 1 = .ok (.invokespecial 3, 3) := by decide +kernel
theorem dX4_init_4 : decode cX4_init 4 = .ok (.aload_n 0, 1) := by decide +kernel
theorem dX4_init_5 : decode cX4_init 5 = .ok (.new 9, 3) := by decide +kernel
theorem dX4_init_8 : decode cX4_init 8 = .ok (.dup, 1) := by decide +kernel
theorem dX4_init_9 : decode cX4_init 9 = .ok (.bipush 59, 2) := by decide +kernel
theorem dX4_init_11 : decode cX4_init 11 = .ok (.invokespecial 11, 3) := by decide +kernel
theorem dX4_init_14 : decode cX4_init 14 = .ok (.putfield 14, 3) := by decide +kernel
theorem dX4_init_17 : decode cX4_init 17 = .ok (.aload_n 0, 1) := by decide +kernel
theorem dX4_init_18 : decode cX4_init 18 = .ok (.bipush 30, 2) := by decide +kernel
theorem dX4_init_20 : decode cX4_init 20 = .ok (.newarray .boolean, 2) := by decide +kernel
theorem dX4_init_22 : decode cX4_init 22 = .ok (.putfield 20, 3) := by decide +kernel
theorem dX4_init_25 : decode cX4_init 25 = .ok (.aload_n 0, 1) := by decide +kernel
theorem dX4_init_26 : decode cX4_init 26 = .ok (.bipush 30, 2) := by decide +kernel
theorem dX4_init_28 : decode cX4_init 28 = .ok (.newarray .int, 2) := by decide +kernel
theorem dX4_init_30 : decode cX4_init 30 = .ok (.putfield 24, 3) := by decide +kernel
theorem dX4_init_33 : decode cX4_init 33 = .ok (.return_, 1) := by decide +kernel
set_option maxRecDepth 20000 in
theorem ggX4_write_X2_cut : GoodIn wsX4_write wsX2_cut := goodIn_r _ [9, 10, 74, 75] (by decide +kernel) (by decide +kernel)
set_option maxRecDepth 20000 in
theorem gX4_write_X2_cut : GoodIn wsX4_write (wsV RX4 28 RX2 yX2_cut wsX2_cut) := goodIn_app (goodIn_of _ (by decide +kernel)) ggX4_write_X2_cut
set_option maxRecDepth 20000 in
theorem ggX4_write_X2_put : GoodIn wsX4_write wsX2_put := goodIn_r _ [14, 10, 15, 74, 75] (by decide +kernel) (by decide +kernel)
set_option maxRecDepth 20000 in
theorem gX4_write_X2_put : GoodIn wsX4_write (wsV RX4 38 RX2 yX2_put wsX2_put) := goodIn_app (goodIn_of _ (by decide +kernel)) ggX4_write_X2_put
set_option maxRecDepth 20000 in
theorem ggX4_write_X2_putTwo : GoodIn wsX4_write wsX2_putTwo := goodIn_r _ [19, 20, 12, 13, 8, 14, 10, 15, 74, 75] (by decide +kernel) (by decide +kernel)
set_option maxRecDepth 20000 in
theorem gX4_write_X2_putTwo : GoodIn wsX4_write (wsV RX4 41 RX2 yX2_putTwo wsX2_putTwo) := goodIn_app (goodIn_of _ (by decide +kernel)) ggX4_write_X2_putTwo
set_option maxRecDepth 20000 in
theorem ggX4_write_X2_putNumber : GoodIn wsX4_write wsX2_putNumber := goodIn_r _ [24, 25, 17, 18, 8, 19, 20, 12, 13, 14, 10, 15, 74, 75] (by decide +kernel) (by decide +kernel)
set_option maxRecDepth 20000 in
theorem gX4_write_X2_putNumber : GoodIn wsX4_write (wsV RX4 48 RX2 yX2_putNumber wsX2_putNumber) := goodIn_app (goodIn_of _ (by decide +kernel)) ggX4_write_X2_putNumber
set_option maxRecDepth 20000 in
theorem ggX4_write_X2_size : GoodIn wsX4_write wsX2_size := goodIn_r _ [29, 10, 74, 75] (by decide +kernel) (by decide +kernel)
set_option maxRecDepth 20000 in
theorem gX4_write_X2_size : GoodIn wsX4_write (wsV RX4 51 RX2 yX2_size wsX2_size) := goodIn_app (goodIn_of _ (by decide +kernel)) ggX4_write_X2_size
set_option maxRecDepth 20000 in
theorem ggX4_write_X2_checkOf : GoodIn wsX4_write wsX2_checkOf := goodIn_r _ [33, 34, 35, 36, 37, 8, 38, 10, 15, 74, 75] (by decide +kernel) (by decide +kernel)
set_option maxRecDepth 20000 in
theorem gX4_write_X2_checkOf : GoodIn wsX4_write (wsV RX4 55 RX2 yX2_checkOf wsX2_checkOf) := goodIn_app (goodIn_of _ (by decide +kernel)) ggX4_write_X2_checkOf
theorem dX4_write_0 : decode cX4_write 0 = .ok (.aload_n 0, 1) := by decide +kernel
theorem dX4_write_1 : decode cX4_write 1 = .ok (.getfield 14, 3) := by decide +kernel
theorem dX4_write_4 : decode cX4_write 4 = .ok (.iconst 0, 1) := by decide +kernel
theorem dX4_write_5 : decode cX4_write 5 = .ok (.invokevirtual 28, 3) := by decide +kernel
theorem dX4_write_8 : decode cX4_write 8 = .ok (.pop, 1) := by decide +kernel
theorem dX4_write_9 : decode cX4_write 9 = .ok (.aload_n 0, 1) := by decide +kernel
theorem dX4_write_10 : decode cX4_write 10 = .ok (.getfield 14, 3) := by decide +kernel
theorem dX4_write_13 : decode cX4_write 13 = .ok (.aload_n 1, 1) := by decide +kernel
theorem dX4_write_14 : decode cX4_write 14 = .ok (.getfield 32, 3) := by decide +kernel
theorem dX4_write_17 : decode cX4_write 17 = .ok (.invokevirtual 38, 3) := by decide +kernel
theorem dX4_write_20 : decode cX4_write 20 = .ok (.aload_n 0, 1) := by decide +kernel
theorem dX4_write_21 : decode cX4_write 21 = .ok (.getfield 14, 3) := by decide +kernel
theorem dX4_write_24 : decode cX4_write 24 = .ok (.iload_n 2, 1) := by decide +kernel
theorem dX4_write_25 : decode cX4_write 25 = .ok (.invokevirtual 41, 3) := by decide +kernel
theorem dX4_write_28 : decode cX4_write 28 = .ok (.iconst 0, 1) := by decide +kernel
theorem dX4_write_29 : decode cX4_write 29 = .ok (.istore 4, 2) := by decide +kernel
theorem dX4_write_31 : decode cX4_write 31 = .ok (.iload 4, 2) := by decide +kernel
theorem dX4_write_33 : decode cX4_write 33 = .ok (.aload_n 1, 1) := by decide +kernel
theorem dX4_write_34 : decode cX4_write 34 = .ok (.getfield 32, 3) := by decide +kernel
theorem dX4_write_37 : decode cX4_write 37 = .ok (.if_icmp .ge 54, 3) := by decide +kernel
theorem dX4_write_40 : decode cX4_write 40 = .ok (.aload_n 3, 1) := by decide +kernel
theorem dX4_write_41 : decode cX4_write 41 = .ok (.getfield 44, 3) := by decide +kernel
theorem dX4_write_44 : decode cX4_write 44 = .ok (.iload 4, 2) := by decide +kernel
theorem dX4_write_46 : decode cX4_write 46 = .ok (.baload, 1) := by decide +kernel
theorem dX4_write_47 : decode cX4_write 47 = .ok (.ifCond .eq 28, 3) := by decide +kernel
theorem dX4_write_50 : decode cX4_write 50 = .ok (.aload_n 0, 1) := by decide +kernel
theorem dX4_write_51 : decode cX4_write 51 = .ok (.getfield 14, 3) := by decide +kernel
theorem dX4_write_54 : decode cX4_write 54 = .ok (.iconst 1, 1) := by decide +kernel
theorem dX4_write_55 : decode cX4_write 55 = .ok (.invokevirtual 38, 3) := by decide +kernel
theorem dX4_write_58 : decode cX4_write 58 = .ok (.aload_n 0, 1) := by decide +kernel
theorem dX4_write_59 : decode cX4_write 59 = .ok (.getfield 14, 3) := by decide +kernel
theorem dX4_write_62 : decode cX4_write 62 = .ok (.aload_n 3, 1) := by decide +kernel
theorem dX4_write_63 : decode cX4_write 63 = .ok (.getfield 47, 3) := by decide +kernel
theorem dX4_write_66 : decode cX4_write 66 = .ok (.iload 4, 2) := by decide +kernel
theorem dX4_write_68 : decode cX4_write 68 = .ok (.iaload, 1) := by decide +kernel
theorem dX4_write_69 : decode cX4_write 69 = .ok (.invokevirtual 48, 3) := by decide +kernel
theorem dX4_write_72 : decode cX4_write 72 = .ok (.goto 13, 3) := by decide +kernel
theorem dX4_write_75 : decode cX4_write 75 = .ok (.aload_n 0, 1) := by decide +kernel
theorem dX4_write_76 : decode cX4_write 76 = .ok (.getfield 14, 3) := by decide +kernel
theorem dX4_write_79 : decode cX4_write 79 = .ok (.sipush 255, 3) := by decide +kernel
theorem dX4_write_82 : decode cX4_write 82 = .ok (.invokevirtual 38, 3) := by decide +kernel
theorem dX4_write_85 : decode cX4_write 85 = .ok (.iinc 4 1, 3) := by decide +kernel
theorem dX4_write_88 : decode cX4_write 88 = .ok (.goto (-57), 3) := by decide +kernel
theorem dX4_write_91 : decode cX4_write 91 = .ok (.aload_n 0, 1) := by decide +kernel
theorem dX4_write_92 : decode cX4_write 92 = .ok (.getfield 14, 3) := by decide +kernel
theorem dX4_write_95 : decode cX4_write 95 = .ok (.aload_n 0, 1) := by decide +kernel
theorem dX4_write_96 : decode cX4_write 96 = .ok (.getfield 14, 3) := by decide +kernel
theorem dX4_write_99 : decode cX4_write 99 = .ok (.aload_n 0, 1) := by decide +kernel
theorem dX4_write_100 : decode cX4_write 100 = .ok (.getfield 14, 3) := by decide +kernel
theorem dX4_write_103 : decode cX4_write 103 = .ok (.invokevirtual 51, 3) := by decide +kernel
theorem dX4_write_106 : decode cX4_write 106 = .ok (.invokevirtual 55, 3) := by decide +kernel
theorem dX4_write_109 : decode cX4_write 109 = .ok (.invokevirtual 41, 3) := by decide +kernel
theorem dX4_write_112 : decode cX4_write 112 = .ok (.aload_n 0, 1) := by decide +kernel
theorem dX4_write_113 : decode cX4_write 113 = .ok (.getfield 14, 3) := by decide +kernel
theorem dX4_write_116 : decode cX4_write 116 = .ok (.invokevirtual 51, 3) := by decide +kernel
theorem dX4_write_119 : decode cX4_write 119 = .ok (.ireturn, 1) := by decide +kernel
set_option maxRecDepth 20000 in
theorem ggX4_read_X2_at : GoodIn wsX4_read wsX2_at := goodIn_r _ [7, 8, 9, 69, 70] (by decide +kernel) (by decide +kernel)
set_option maxRecDepth 20000 in
theorem gX4_read_X2_at : GoodIn wsX4_read (wsV RX4 59 RX2 yX2_at wsX2_at) := goodIn_app (goodIn_of _ (by decide +kernel)) ggX4_read_X2_at
set_option maxRecDepth 20000 in
theorem ggX4_read_X2_size : GoodIn wsX4_read wsX2_size := goodIn_r _ [13, 8, 69, 70] (by decide +kernel) (by decide +kernel)
set_option maxRecDepth 20000 in
theorem gX4_read_X2_size : GoodIn wsX4_read (wsV RX4 51 RX2 yX2_size wsX2_size) := goodIn_app (goodIn_of _ (by decide +kernel)) ggX4_read_X2_size
set_option maxRecDepth 20000 in
theorem ggX4_read_X2_twoAt : GoodIn wsX4_read wsX2_twoAt := goodIn_r _ [17, 18, 4, 5, 6, 7, 8, 9, 69, 70] (by decide +kernel) (by decide +kernel)
set_option maxRecDepth 20000 in
theorem gX4_read_X2_twoAt : GoodIn wsX4_read (wsV RX4 62 RX2 yX2_twoAt wsX2_twoAt) := goodIn_app (goodIn_of _ (by decide +kernel)) ggX4_read_X2_twoAt
set_option maxRecDepth 20000 in
theorem ggX4_read_X4_readDeals : GoodIn wsX4_read wsX4_readDeals := goodIn_r _ [23, 24, 1, 25, 26, 27, 3, 4, 5, 6, 7, 8, 9, 28, 29, 30, 31, 32, 15, 16, 17, 18, 33, 34, 35, 36, 37, 38, 39, 65, 66, 67, 68, 45, 46, 47, 48, 49, 50, 51, 52, 53, 54, 55, 56, 57, 58, 59, 60, 61, 62, 63, 64, 69, 70] (by decide +kernel) (by decide +kernel)
set_option maxRecDepth 20000 in
theorem gX4_read_X4_readDeals : GoodIn wsX4_read (wsV RX4 68 RX4 yX4_readDeals wsX4_readDeals) := goodIn_app (goodIn_of _ (by decide +kernel)) ggX4_read_X4_readDeals
set_option maxRecDepth 20000 in
theorem ggX4_read_X2_checkOf : GoodIn wsX4_read wsX2_checkOf := goodIn_r _ [43, 44, 18, 4, 5, 6, 7, 8, 9, 69, 70] (by decide +kernel) (by decide +kernel)
set_option maxRecDepth 20000 in
theorem gX4_read_X2_checkOf : GoodIn wsX4_read (wsV RX4 55 RX2 yX2_checkOf wsX2_checkOf) := goodIn_app (goodIn_of _ (by decide +kernel)) ggX4_read_X2_checkOf
theorem dX4_read_0 : decode cX4_read 0 = .ok (.aload_n 1, 1) := by decide +kernel
theorem dX4_read_1 : decode cX4_read 1 = .ok (.iconst 0, 1) := by decide +kernel
theorem dX4_read_2 : decode cX4_read 2 = .ok (.invokevirtual 59, 3) := by decide +kernel
theorem dX4_read_5 : decode cX4_read 5 = .ok (.aload_n 2, 1) := by decide +kernel
theorem dX4_read_6 : decode cX4_read 6 = .ok (.getfield 32, 3) := by decide +kernel
theorem dX4_read_9 : decode cX4_read 9 = .ok (.if_icmp .ne 11, 3) := by decide +kernel
theorem dX4_read_12 : decode cX4_read 12 = .ok (.aload_n 1, 1) := by decide +kernel
theorem dX4_read_13 : decode cX4_read 13 = .ok (.invokevirtual 51, 3) := by decide +kernel
theorem dX4_read_16 : decode cX4_read 16 = .ok (.iconst 5, 1) := by decide +kernel
theorem dX4_read_17 : decode cX4_read 17 = .ok (.if_icmp .ge 5, 3) := by decide +kernel
theorem dX4_read_20 : decode cX4_read 20 = .ok (.iconst 0, 1) := by decide +kernel
theorem dX4_read_21 : decode cX4_read 21 = .ok (.ireturn, 1) := by decide +kernel
theorem dX4_read_22 : decode cX4_read 22 = .ok (.aload_n 0, 1) := by decide +kernel
theorem dX4_read_23 : decode cX4_read 23 = .ok (.aload_n 1, 1) := by decide +kernel
theorem dX4_read_24 : decode cX4_read 24 = .ok (.iconst 1, 1) := by decide +kernel
theorem dX4_read_25 : decode cX4_read 25 = .ok (.invokevirtual 62, 3) := by decide +kernel
theorem dX4_read_28 : decode cX4_read 28 = .ok (.putfield 65, 3) := by decide +kernel
theorem dX4_read_31 : decode cX4_read 31 = .ok (.aload_n 0, 1) := by decide +kernel
theorem dX4_read_32 : decode cX4_read 32 = .ok (.aload_n 1, 1) := by decide +kernel
theorem dX4_read_33 : decode cX4_read 33 = .ok (.aload_n 2, 1) := by decide +kernel
theorem dX4_read_34 : decode cX4_read 34 = .ok (.invokevirtual 68, 3) := by decide +kernel
theorem dX4_read_37 : decode cX4_read 37 = .ok (.istore_n 3, 1) := by decide +kernel
theorem dX4_read_38 : decode cX4_read 38 = .ok (.aload_n 0, 1) := by decide +kernel
theorem dX4_read_39 : decode cX4_read 39 = .ok (.getfield 65, 3) := by decide +kernel
theorem dX4_read_42 : decode cX4_read 42 = .ok (.sipush 999, 3) := by decide +kernel
theorem dX4_read_45 : decode cX4_read 45 = .ok (.if_icmp .gt 35, 3) := by decide +kernel
theorem dX4_read_48 : decode cX4_read 48 = .ok (.iload_n 3, 1) := by decide +kernel
theorem dX4_read_49 : decode cX4_read 49 = .ok (.iconst (-1), 1) := by decide +kernel
theorem dX4_read_50 : decode cX4_read 50 = .ok (.if_icmp .eq 30, 3) := by decide +kernel
theorem dX4_read_53 : decode cX4_read 53 = .ok (.aload_n 1, 1) := by decide +kernel
theorem dX4_read_54 : decode cX4_read 54 = .ok (.invokevirtual 51, 3) := by decide +kernel
theorem dX4_read_57 : decode cX4_read 57 = .ok (.iload_n 3, 1) := by decide +kernel
theorem dX4_read_58 : decode cX4_read 58 = .ok (.iconst 2, 1) := by decide +kernel
theorem dX4_read_59 : decode cX4_read 59 = .ok (.iadd, 1) := by decide +kernel
theorem dX4_read_60 : decode cX4_read 60 = .ok (.if_icmp .ne 20, 3) := by decide +kernel
theorem dX4_read_63 : decode cX4_read 63 = .ok (.aload_n 1, 1) := by decide +kernel
theorem dX4_read_64 : decode cX4_read 64 = .ok (.iload_n 3, 1) := by decide +kernel
theorem dX4_read_65 : decode cX4_read 65 = .ok (.invokevirtual 62, 3) := by decide +kernel
theorem dX4_read_68 : decode cX4_read 68 = .ok (.aload_n 1, 1) := by decide +kernel
theorem dX4_read_69 : decode cX4_read 69 = .ok (.iload_n 3, 1) := by decide +kernel
theorem dX4_read_70 : decode cX4_read 70 = .ok (.invokevirtual 55, 3) := by decide +kernel
theorem dX4_read_73 : decode cX4_read 73 = .ok (.if_icmp .ne 7, 3) := by decide +kernel
theorem dX4_read_76 : decode cX4_read 76 = .ok (.iconst 1, 1) := by decide +kernel
theorem dX4_read_77 : decode cX4_read 77 = .ok (.goto 4, 3) := by decide +kernel
theorem dX4_read_80 : decode cX4_read 80 = .ok (.iconst 0, 1) := by decide +kernel
theorem dX4_read_81 : decode cX4_read 81 = .ok (.ireturn, 1) := by decide +kernel
set_option maxRecDepth 20000 in
theorem ggX4_readDeals_X2_at : GoodIn wsX4_readDeals wsX2_at := goodIn_r _ [10, 11, 12, 53, 54] (by decide +kernel) (by decide +kernel)
set_option maxRecDepth 20000 in
theorem gX4_readDeals_X2_at : GoodIn wsX4_readDeals (wsV RX4 59 RX2 yX2_at wsX2_at) := goodIn_app (goodIn_of _ (by decide +kernel)) ggX4_readDeals_X2_at
set_option maxRecDepth 20000 in
theorem ggX4_readDeals_X2_numberAt : GoodIn wsX4_readDeals wsX2_numberAt := goodIn_r _ [16, 17, 18, 19, 9, 20, 21, 7, 8, 10, 11, 12, 53, 54] (by decide +kernel) (by decide +kernel)
set_option maxRecDepth 20000 in
theorem gX4_readDeals_X2_numberAt : GoodIn wsX4_readDeals (wsV RX4 72 RX2 yX2_numberAt wsX2_numberAt) := goodIn_app (goodIn_of _ (by decide +kernel)) ggX4_readDeals_X2_numberAt
set_option maxRecDepth 20000 in
theorem ggX4_readDeals_X6_pairOf : GoodIn wsX4_readDeals wsX6_pairOf := goodIn_r _ [26, 27, 28, 33, 34, 35, 36, 37, 38, 39, 40, 41, 42, 43, 44, 45, 46, 47, 48, 49, 50, 51, 52] (by decide +kernel) (by decide +kernel)
set_option maxRecDepth 20000 in
theorem gX4_readDeals_X6_pairOf : GoodIn wsX4_readDeals (wsV RX4 75 RX6 yX6_pairOf wsX6_pairOf) := goodIn_app (goodIn_of _ (by decide +kernel)) ggX4_readDeals_X6_pairOf
theorem dX4_readDeals_0 : decode cX4_readDeals 0 = .ok (.iconst 3, 1) := by decide +kernel
theorem dX4_readDeals_1 : decode cX4_readDeals 1 = .ok (.istore_n 3, 1) := by decide +kernel
theorem dX4_readDeals_2 : decode cX4_readDeals 2 = .ok (.iconst 0, 1) := by decide +kernel
theorem dX4_readDeals_3 : decode cX4_readDeals 3 = .ok (.istore 4, 2) := by decide +kernel
theorem dX4_readDeals_5 : decode cX4_readDeals 5 = .ok (.iconst 0, 1) := by decide +kernel
theorem dX4_readDeals_6 : decode cX4_readDeals 6 = .ok (.istore 5, 2) := by decide +kernel
theorem dX4_readDeals_8 : decode cX4_readDeals 8 = .ok (.iload 5, 2) := by decide +kernel
theorem dX4_readDeals_10 : decode cX4_readDeals 10 = .ok (.bipush 30, 2) := by decide +kernel
theorem dX4_readDeals_12 : decode cX4_readDeals 12 = .ok (.if_icmp .ge 155, 3) := by decide +kernel
theorem dX4_readDeals_15 : decode cX4_readDeals 15 = .ok (.aload_n 0, 1) := by decide +kernel
theorem dX4_readDeals_16 : decode cX4_readDeals 16 = .ok (.getfield 20, 3) := by decide +kernel
theorem dX4_readDeals_19 : decode cX4_readDeals 19 = .ok (.iload 5, 2) := by decide +kernel
theorem dX4_readDeals_21 : decode cX4_readDeals 21 = .ok (.iload 5, 2) := by decide +kernel
theorem dX4_readDeals_23 : decode cX4_readDeals 23 = .ok (.aload_n 2, 1) := by decide +kernel
theorem dX4_readDeals_24 : decode cX4_readDeals 24 = .ok (.getfield 32, 3) := by decide +kernel
theorem dX4_readDeals_27 : decode cX4_readDeals 27 = .ok (.if_icmp .ge 16, 3) := by decide +kernel
theorem dX4_readDeals_30 : decode cX4_readDeals 30 = .ok (.aload_n 1, 1) := by decide +kernel
theorem dX4_readDeals_31 : decode cX4_readDeals 31 = .ok (.iload_n 3, 1) := by decide +kernel
theorem dX4_readDeals_32 : decode cX4_readDeals 32 = .ok (.invokevirtual 59, 3) := by decide +kernel
theorem dX4_readDeals_35 : decode cX4_readDeals 35 = .ok (.iconst 1, 1) := by decide +kernel
theorem dX4_readDeals_36 : decode cX4_readDeals 36 = .ok (.if_icmp .ne 7, 3) := by decide +kernel
theorem dX4_readDeals_39 : decode cX4_readDeals 39 = .ok (.iconst 1, 1) := by decide +kernel
theorem dX4_readDeals_40 : decode cX4_readDeals 40 = .ok (.goto 4, 3) := by decide +kernel
theorem dX4_readDeals_43 : decode cX4_readDeals 43 = .ok (.iconst 0, 1) := by decide +kernel
theorem dX4_readDeals_44 : decode cX4_readDeals 44 = .ok (.bastore, 1) := by decide +kernel
theorem dX4_readDeals_45 : decode cX4_readDeals 45 = .ok (.aload_n 0, 1) := by decide +kernel
theorem dX4_readDeals_46 : decode cX4_readDeals 46 = .ok (.getfield 20, 3) := by decide +kernel
theorem dX4_readDeals_49 : decode cX4_readDeals 49 = .ok (.iload 5, 2) := by decide +kernel
theorem dX4_readDeals_51 : decode cX4_readDeals 51 = .ok (.baload, 1) := by decide +kernel
theorem dX4_readDeals_52 : decode cX4_readDeals 52 = .ok (.ifCond .eq 84, 3) := by decide +kernel
theorem dX4_readDeals_55 : decode cX4_readDeals 55 = .ok (.aload_n 0, 1) := by decide +kernel
theorem dX4_readDeals_56 : decode cX4_readDeals 56 = .ok (.getfield 24, 3) := by decide +kernel
theorem dX4_readDeals_59 : decode cX4_readDeals 59 = .ok (.iload 5, 2) := by decide +kernel
theorem dX4_readDeals_61 : decode cX4_readDeals 61 = .ok (.aload_n 1, 1) := by decide +kernel
theorem dX4_readDeals_62 : decode cX4_readDeals 62 = .ok (.iload_n 3, 1) := by decide +kernel
theorem dX4_readDeals_63 : decode cX4_readDeals 63 = .ok (.iconst 1, 1) := by decide +kernel
theorem dX4_readDeals_64 : decode cX4_readDeals 64 = .ok (.iadd, 1) := by decide +kernel
theorem dX4_readDeals_65 : decode cX4_readDeals 65 = .ok (.invokevirtual 72, 3) := by decide +kernel
theorem dX4_readDeals_68 : decode cX4_readDeals 68 = .ok (.iastore, 1) := by decide +kernel
theorem dX4_readDeals_69 : decode cX4_readDeals 69 = .ok (.iload 4, 2) := by decide +kernel
theorem dX4_readDeals_71 : decode cX4_readDeals 71 = .ok (.aload_n 2, 1) := by decide +kernel
theorem dX4_readDeals_72 : decode cX4_readDeals 72 = .ok (.iload 5, 2) := by decide +kernel
theorem dX4_readDeals_74 : decode cX4_readDeals 74 = .ok (.invokevirtual 75, 3) := by decide +kernel
theorem dX4_readDeals_77 : decode cX4_readDeals 77 = .ok (.iand, 1) := by decide +kernel
theorem dX4_readDeals_78 : decode cX4_readDeals 78 = .ok (.ifCond .ne 7, 3) := by decide +kernel
theorem dX4_readDeals_81 : decode cX4_readDeals 81 = .ok (.iconst 1, 1) := by decide +kernel
theorem dX4_readDeals_82 : decode cX4_readDeals 82 = .ok (.goto 4, 3) := by decide +kernel
theorem dX4_readDeals_85 : decode cX4_readDeals 85 = .ok (.iconst 0, 1) := by decide +kernel
theorem dX4_readDeals_86 : decode cX4_readDeals 86 = .ok (.istore 6, 2) := by decide +kernel
theorem dX4_readDeals_88 : decode cX4_readDeals 88 = .ok (.iload 6, 2) := by decide +kernel
theorem dX4_readDeals_90 : decode cX4_readDeals 90 = .ok (.ifCond .eq 27, 3) := by decide +kernel
theorem dX4_readDeals_93 : decode cX4_readDeals 93 = .ok (.aload_n 0, 1) := by decide +kernel
theorem dX4_readDeals_94 : decode cX4_readDeals 94 = .ok (.getfield 24, 3) := by decide +kernel
theorem dX4_readDeals_97 : decode cX4_readDeals 97 = .ok (.iload 5, 2) := by decide +kernel
theorem dX4_readDeals_99 : decode cX4_readDeals 99 = .ok (.iaload, 1) := by decide +kernel
theorem dX4_readDeals_100 : decode cX4_readDeals 100 = .ok (.ldc 78, 2) := by decide +kernel
theorem dX4_readDeals_102 : decode cX4_readDeals 102 = .ok (.if_icmp .lt 15, 3) := by decide +kernel
theorem dX4_readDeals_105 : decode cX4_readDeals 105 = .ok (.aload_n 0, 1) := by decide +kernel
theorem dX4_readDeals_106 : decode cX4_readDeals 106 = .ok (.getfield 24, 3) := by decide +kernel
theorem dX4_readDeals_109 : decode cX4_readDeals 109 = .ok (.iload 5, 2) := by decide +kernel
theorem dX4_readDeals_111 : decode cX4_readDeals 111 = .ok (.iaload, 1) := by decide +kernel
theorem dX4_readDeals_112 : decode cX4_readDeals 112 = .ok (.ldc 79, 2) := by decide +kernel
theorem dX4_readDeals_114 : decode cX4_readDeals 114 = .ok (.if_icmp .le 5, 3) := by decide +kernel
theorem dX4_readDeals_117 : decode cX4_readDeals 117 = .ok (.iconst (-1), 1) := by decide +kernel
theorem dX4_readDeals_118 : decode cX4_readDeals 118 = .ok (.ireturn, 1) := by decide +kernel
theorem dX4_readDeals_119 : decode cX4_readDeals 119 = .ok (.iload 4, 2) := by decide +kernel
theorem dX4_readDeals_121 : decode cX4_readDeals 121 = .ok (.aload_n 2, 1) := by decide +kernel
theorem dX4_readDeals_122 : decode cX4_readDeals 122 = .ok (.iload 5, 2) := by decide +kernel
theorem dX4_readDeals_124 : decode cX4_readDeals 124 = .ok (.invokevirtual 75, 3) := by decide +kernel
theorem dX4_readDeals_127 : decode cX4_readDeals 127 = .ok (.ior, 1) := by decide +kernel
theorem dX4_readDeals_128 : decode cX4_readDeals 128 = .ok (.istore 4, 2) := by decide +kernel
theorem dX4_readDeals_130 : decode cX4_readDeals 130 = .ok (.iinc 3 5, 3) := by decide +kernel
theorem dX4_readDeals_133 : decode cX4_readDeals 133 = .ok (.goto 28, 3) := by decide +kernel
theorem dX4_readDeals_136 : decode cX4_readDeals 136 = .ok (.iload 5, 2) := by decide +kernel
theorem dX4_readDeals_138 : decode cX4_readDeals 138 = .ok (.aload_n 2, 1) := by decide +kernel
theorem dX4_readDeals_139 : decode cX4_readDeals 139 = .ok (.getfield 32, 3) := by decide +kernel
theorem dX4_readDeals_142 : decode cX4_readDeals 142 = .ok (.if_icmp .ge 19, 3) := by decide +kernel
theorem dX4_readDeals_145 : decode cX4_readDeals 145 = .ok (.aload_n 1, 1) := by decide +kernel
theorem dX4_readDeals_146 : decode cX4_readDeals 146 = .ok (.iload_n 3, 1) := by decide +kernel
theorem dX4_readDeals_147 : decode cX4_readDeals 147 = .ok (.invokevirtual 59, 3) := by decide +kernel
theorem dX4_readDeals_150 : decode cX4_readDeals 150 = .ok (.sipush 255, 3) := by decide +kernel
theorem dX4_readDeals_153 : decode cX4_readDeals 153 = .ok (.if_icmp .eq 5, 3) := by decide +kernel
theorem dX4_readDeals_156 : decode cX4_readDeals 156 = .ok (.iconst (-1), 1) := by decide +kernel
theorem dX4_readDeals_157 : decode cX4_readDeals 157 = .ok (.ireturn, 1) := by decide +kernel
theorem dX4_readDeals_158 : decode cX4_readDeals 158 = .ok (.iinc 3 1, 3) := by decide +kernel
theorem dX4_readDeals_161 : decode cX4_readDeals 161 = .ok (.iinc 5 1, 3) := by decide +kernel
theorem dX4_readDeals_164 : decode cX4_readDeals 164 = .ok (.goto (-156), 3) := by decide +kernel
theorem dX4_readDeals_167 : decode cX4_readDeals 167 = .ok (.iload_n 3, 1) := by decide +kernel
theorem dX4_readDeals_168 : decode cX4_readDeals 168 = .ok (.ireturn, 1) := by decide +kernel
theorem dX5_init_0 : decode cX5_init 0 = .ok (.aload_n 0, 1) := by decide +kernel
theorem dX5_init_1 : decode cX5_init 1 = .ok (.invokespecial 3, 3) := by decide +kernel
theorem dX5_init_4 : decode cX5_init 4 = .ok (.aload_n 0, 1) := by decide +kernel
theorem dX5_init_5 : decode cX5_init 5 = .ok (.bipush 13, 2) := by decide +kernel
theorem dX5_init_7 : decode cX5_init 7 = .ok (.bipush 13, 2) := by decide +kernel
theorem dX5_init_9 : decode cX5_init 9 = .ok (.multianewarray 11 2, 4) := by decide +kernel
theorem dX5_init_13 : decode cX5_init 13 = .ok (.putfield 13, 3) := by decide +kernel
theorem dX5_init_16 : decode cX5_init 16 = .ok (.aload_n 0, 1) := by decide +kernel
theorem dX5_init_17 : decode cX5_init 17 = .ok (.bipush 13, 2) := by decide +kernel
theorem dX5_init_19 : decode cX5_init 19 = .ok (.newarray .int, 2) := by decide +kernel
theorem dX5_init_21 : decode cX5_init 21 = .ok (.putfield 16, 3) := by decide +kernel
theorem dX5_init_24 : decode cX5_init 24 = .ok (.aload_n 0, 1) := by decide +kernel
theorem dX5_init_25 : decode cX5_init 25 = .ok (.bipush 13, 2) := by decide +kernel
theorem dX5_init_27 : decode cX5_init 27 = .ok (.newarray .int, 2) := by decide +kernel
theorem dX5_init_29 : decode cX5_init 29 = .ok (.putfield 20, 3) := by decide +kernel
theorem dX5_init_32 : decode cX5_init 32 = .ok (.aload_n 0, 1) := by decide +kernel
theorem dX5_init_33 : decode cX5_init 33 = .ok (.bipush 13, 2) := by decide +kernel
theorem dX5_init_35 : decode cX5_init 35 = .ok (.newarray .int, 2) := by decide +kernel
theorem dX5_init_37 : decode cX5_init 37 = .ok (.putfield 23, 3) := by decide +kernel
theorem dX5_init_40 : decode cX5_init 40 = .ok (.aload_n 0, 1) := by decide +kernel
theorem dX5_init_41 : decode cX5_init 41 = .ok (.bipush 13, 2) := by decide +kernel
theorem dX5_init_43 : decode cX5_init 43 = .ok (.newarray .int, 2) := by decide +kernel
theorem dX5_init_45 : decode cX5_init 45 = .ok (.putfield 26, 3) := by decide +kernel
theorem dX5_init_48 : decode cX5_init 48 = .ok (.aload_n 0, 1) := by decide +kernel
theorem dX5_init_49 : decode cX5_init 49 = .ok (.bipush 13, 2) := by decide +kernel
theorem dX5_init_51 : decode cX5_init 51 = .ok (.newarray .int, 2) := by decide +kernel
theorem dX5_init_53 : decode cX5_init 53 = .ok (.putfield 29, 3) := by decide +kernel
theorem dX5_init_56 : decode cX5_init 56 = .ok (.aload_n 0, 1) := by decide +kernel
theorem dX5_init_57 : decode cX5_init 57 = .ok (.bipush 13, 2) := by decide +kernel
theorem dX5_init_59 : decode cX5_init 59 = .ok (.newarray .boolean, 2) := by decide +kernel
theorem dX5_init_61 : decode cX5_init 61 = .ok (.putfield 32, 3) := by decide +kernel
theorem dX5_init_64 : decode cX5_init 64 = .ok (.return_, 1) := by decide +kernel
set_option maxRecDepth 20000 in
theorem ggX5_begin_J7_fill_53178 : GoodIn wsX5_begin wsJ7_fill_53178 := goodIn_r _ [10] (by decide +kernel) (by decide +kernel)
set_option maxRecDepth 20000 in
theorem gX5_begin_J7_fill_53178 : GoodIn wsX5_begin (va_wsS RX5 46 yJ7_fill_53178 wsJ7_fill_53178) := goodIn_app (goodIn_of _ (by decide +kernel)) ggX5_begin_J7_fill_53178
theorem dX5_begin_0 : decode cX5_begin 0 = .ok (.aload_n 0, 1) := by decide +kernel
theorem dX5_begin_1 : decode cX5_begin 1 = .ok (.iload_n 1, 1) := by decide +kernel
theorem dX5_begin_2 : decode cX5_begin 2 = .ok (.bipush 12, 2) := by decide +kernel
theorem dX5_begin_4 : decode cX5_begin 4 = .ok (.invokestatic 36, 3) := by decide +kernel
theorem dX5_begin_7 : decode cX5_begin 7 = .ok (.putfield 42, 3) := by decide +kernel
theorem dX5_begin_10 : decode cX5_begin 10 = .ok (.iconst 0, 1) := by decide +kernel
theorem dX5_begin_11 : decode cX5_begin 11 = .ok (.istore_n 2, 1) := by decide +kernel
theorem dX5_begin_12 : decode cX5_begin 12 = .ok (.iload_n 2, 1) := by decide +kernel
theorem dX5_begin_13 : decode cX5_begin 13 = .ok (.aload_n 0, 1) := by decide +kernel
theorem dX5_begin_14 : decode cX5_begin 14 = .ok (.getfield 42, 3) := by decide +kernel
theorem dX5_begin_17 : decode cX5_begin 17 = .ok (.if_icmp .gt 19, 3) := by decide +kernel
theorem dX5_begin_20 : decode cX5_begin 20 = .ok (.aload_n 0, 1) := by decide +kernel
theorem dX5_begin_21 : decode cX5_begin 21 = .ok (.getfield 13, 3) := by decide +kernel
theorem dX5_begin_24 : decode cX5_begin 24 = .ok (.iload_n 2, 1) := by decide +kernel
theorem dX5_begin_25 : decode cX5_begin 25 = .ok (.aaload, 1) := by decide +kernel
theorem dX5_begin_26 : decode cX5_begin 26 = .ok (.iconst 0, 1) := by decide +kernel
theorem dX5_begin_27 : decode cX5_begin 27 = .ok (.invokestatic 46, 3) := by decide +kernel
theorem dX5_begin_30 : decode cX5_begin 30 = .ok (.iinc 2 1, 3) := by decide +kernel
theorem dX5_begin_33 : decode cX5_begin 33 = .ok (.goto (-21), 3) := by decide +kernel
theorem dX5_begin_36 : decode cX5_begin 36 = .ok (.return_, 1) := by decide +kernel
theorem dX5_weigh_0 : decode cX5_weigh 0 = .ok (.aload_n 0, 1) := by decide +kernel
theorem dX5_weigh_1 : decode cX5_weigh 1 = .ok (.getfield 13, 3) := by decide +kernel
theorem dX5_weigh_4 : decode cX5_weigh 4 = .ok (.iload_n 1, 1) := by decide +kernel
theorem dX5_weigh_5 : decode cX5_weigh 5 = .ok (.iconst 1, 1) := by decide +kernel
theorem dX5_weigh_6 : decode cX5_weigh 6 = .ok (.iadd, 1) := by decide +kernel
theorem dX5_weigh_7 : decode cX5_weigh 7 = .ok (.aaload, 1) := by decide +kernel
theorem dX5_weigh_8 : decode cX5_weigh 8 = .ok (.iload_n 2, 1) := by decide +kernel
theorem dX5_weigh_9 : decode cX5_weigh 9 = .ok (.iconst 1, 1) := by decide +kernel
theorem dX5_weigh_10 : decode cX5_weigh 10 = .ok (.iadd, 1) := by decide +kernel
theorem dX5_weigh_11 : decode cX5_weigh 11 = .ok (.iload_n 3, 1) := by decide +kernel
theorem dX5_weigh_12 : decode cX5_weigh 12 = .ok (.iastore, 1) := by decide +kernel
theorem dX5_weigh_13 : decode cX5_weigh 13 = .ok (.aload_n 0, 1) := by decide +kernel
theorem dX5_weigh_14 : decode cX5_weigh 14 = .ok (.getfield 13, 3) := by decide +kernel
theorem dX5_weigh_17 : decode cX5_weigh 17 = .ok (.iload_n 2, 1) := by decide +kernel
theorem dX5_weigh_18 : decode cX5_weigh 18 = .ok (.iconst 1, 1) := by decide +kernel
theorem dX5_weigh_19 : decode cX5_weigh 19 = .ok (.iadd, 1) := by decide +kernel
theorem dX5_weigh_20 : decode cX5_weigh 20 = .ok (.aaload, 1) := by decide +kernel
theorem dX5_weigh_21 : decode cX5_weigh 21 = .ok (.iload_n 1, 1) := by decide +kernel
theorem dX5_weigh_22 : decode cX5_weigh 22 = .ok (.iconst 1, 1) := by decide +kernel
theorem dX5_weigh_23 : decode cX5_weigh 23 = .ok (.iadd, 1) := by decide +kernel
theorem dX5_weigh_24 : decode cX5_weigh 24 = .ok (.iload_n 3, 1) := by decide +kernel
theorem dX5_weigh_25 : decode cX5_weigh 25 = .ok (.iastore, 1) := by decide +kernel
theorem dX5_weigh_26 : decode cX5_weigh 26 = .ok (.return_, 1) := by decide +kernel
set_option maxRecDepth 20000 in
theorem ggX5_greatest_J7_fill_53178 : GoodIn wsX5_greatest wsJ7_fill_53178 := goodIn_r _ [9] (by decide +kernel) (by decide +kernel)
set_option maxRecDepth 20000 in
theorem gX5_greatest_J7_fill_53178 : GoodIn wsX5_greatest (va_wsS RX5 46 yJ7_fill_53178 wsJ7_fill_53178) := goodIn_app (goodIn_of _ (by decide +kernel)) ggX5_greatest_J7_fill_53178
set_option maxRecDepth 20000 in
theorem ggX5_greatest_X5_place : GoodIn wsX5_greatest wsX5_place := goodIn_r _ [14, 3, 4, 15, 16, 17, 18, 19, 20, 21, 13, 22, 5, 1, 2, 23, 24, 25, 26, 27, 28, 29, 30, 31, 32, 33, 34] (by decide +kernel) (by decide +kernel)
set_option maxRecDepth 20000 in
theorem gX5_greatest_X5_place : GoodIn wsX5_greatest (wsV RX5 52 RX5 yX5_place wsX5_place) := goodIn_app (goodIn_of _ (by decide +kernel)) ggX5_greatest_X5_place
theorem dX5_greatest_0 : decode cX5_greatest 0 = .ok (.aload_n 0, 1) := by decide +kernel
theorem dX5_greatest_1 : decode cX5_greatest 1 = .ok (.getfield 16, 3) := by decide +kernel
theorem dX5_greatest_4 : decode cX5_greatest 4 = .ok (.iconst 0, 1) := by decide +kernel
theorem dX5_greatest_5 : decode cX5_greatest 5 = .ok (.invokestatic 46, 3) := by decide +kernel
theorem dX5_greatest_8 : decode cX5_greatest 8 = .ok (.aload_n 0, 1) := by decide +kernel
theorem dX5_greatest_9 : decode cX5_greatest 9 = .ok (.getfield 20, 3) := by decide +kernel
theorem dX5_greatest_12 : decode cX5_greatest 12 = .ok (.iconst 0, 1) := by decide +kernel
theorem dX5_greatest_13 : decode cX5_greatest 13 = .ok (.invokestatic 46, 3) := by decide +kernel
theorem dX5_greatest_16 : decode cX5_greatest 16 = .ok (.aload_n 0, 1) := by decide +kernel
theorem dX5_greatest_17 : decode cX5_greatest 17 = .ok (.getfield 23, 3) := by decide +kernel
theorem dX5_greatest_20 : decode cX5_greatest 20 = .ok (.iconst 0, 1) := by decide +kernel
theorem dX5_greatest_21 : decode cX5_greatest 21 = .ok (.invokestatic 46, 3) := by decide +kernel
theorem dX5_greatest_24 : decode cX5_greatest 24 = .ok (.iconst 1, 1) := by decide +kernel
theorem dX5_greatest_25 : decode cX5_greatest 25 = .ok (.istore_n 1, 1) := by decide +kernel
theorem dX5_greatest_26 : decode cX5_greatest 26 = .ok (.iload_n 1, 1) := by decide +kernel
theorem dX5_greatest_27 : decode cX5_greatest 27 = .ok (.aload_n 0, 1) := by decide +kernel
theorem dX5_greatest_28 : decode cX5_greatest 28 = .ok (.getfield 42, 3) := by decide +kernel
theorem dX5_greatest_31 : decode cX5_greatest 31 = .ok (.if_icmp .gt 14, 3) := by decide +kernel
theorem dX5_greatest_34 : decode cX5_greatest 34 = .ok (.aload_n 0, 1) := by decide +kernel
theorem dX5_greatest_35 : decode cX5_greatest 35 = .ok (.iload_n 1, 1) := by decide +kernel
theorem dX5_greatest_36 : decode cX5_greatest 36 = .ok (.invokevirtual 52, 3) := by decide +kernel
theorem dX5_greatest_39 : decode cX5_greatest 39 = .ok (.iinc 1 1, 3) := by decide +kernel
theorem dX5_greatest_42 : decode cX5_greatest 42 = .ok (.goto (-16), 3) := by decide +kernel
theorem dX5_greatest_45 : decode cX5_greatest 45 = .ok (.iconst 0, 1) := by decide +kernel
theorem dX5_greatest_46 : decode cX5_greatest 46 = .ok (.istore_n 1, 1) := by decide +kernel
theorem dX5_greatest_47 : decode cX5_greatest 47 = .ok (.iconst 1, 1) := by decide +kernel
theorem dX5_greatest_48 : decode cX5_greatest 48 = .ok (.istore_n 2, 1) := by decide +kernel
theorem dX5_greatest_49 : decode cX5_greatest 49 = .ok (.iload_n 2, 1) := by decide +kernel
theorem dX5_greatest_50 : decode cX5_greatest 50 = .ok (.aload_n 0, 1) := by decide +kernel
theorem dX5_greatest_51 : decode cX5_greatest 51 = .ok (.getfield 42, 3) := by decide +kernel
theorem dX5_greatest_54 : decode cX5_greatest 54 = .ok (.if_icmp .gt 25, 3) := by decide +kernel
theorem dX5_greatest_57 : decode cX5_greatest 57 = .ok (.iload_n 1, 1) := by decide +kernel
theorem dX5_greatest_58 : decode cX5_greatest 58 = .ok (.aload_n 0, 1) := by decide +kernel
theorem dX5_greatest_59 : decode cX5_greatest 59 = .ok (.getfield 13, 3) := by decide +kernel
theorem dX5_greatest_62 : decode cX5_greatest 62 = .ok (.aload_n 0, 1) := by decide +kernel
theorem dX5_greatest_63 : decode cX5_greatest 63 = .ok (.getfield 23, 3) := by decide +kernel
theorem dX5_greatest_66 : decode cX5_greatest 66 = .ok (.iload_n 2, 1) := by decide +kernel
theorem dX5_greatest_67 : decode cX5_greatest 67 = .ok (.iaload, 1) := by decide +kernel
theorem dX5_greatest_68 : decode cX5_greatest 68 = .ok (.aaload, 1) := by decide +kernel
theorem dX5_greatest_69 : decode cX5_greatest 69 = .ok (.iload_n 2, 1) := by decide +kernel
theorem dX5_greatest_70 : decode cX5_greatest 70 = .ok (.iaload, 1) := by decide +kernel
theorem dX5_greatest_71 : decode cX5_greatest 71 = .ok (.iadd, 1) := by decide +kernel
theorem dX5_greatest_72 : decode cX5_greatest 72 = .ok (.istore_n 1, 1) := by decide +kernel
theorem dX5_greatest_73 : decode cX5_greatest 73 = .ok (.iinc 2 1, 3) := by decide +kernel
theorem dX5_greatest_76 : decode cX5_greatest 76 = .ok (.goto (-27), 3) := by decide +kernel
theorem dX5_greatest_79 : decode cX5_greatest 79 = .ok (.iload_n 1, 1) := by decide +kernel
theorem dX5_greatest_80 : decode cX5_greatest 80 = .ok (.ireturn, 1) := by decide +kernel
set_option maxRecDepth 20000 in
theorem ggX5_place_X5_nextColumn : GoodIn wsX5_place wsX5_nextColumn := goodIn_r _ [11, 5, 1, 4, 2, 12, 13, 14, 3, 6, 15, 16, 17, 10, 18, 19, 20, 21, 22, 23, 24, 25, 26] (by decide +kernel) (by decide +kernel)
set_option maxRecDepth 20000 in
theorem gX5_place_X5_nextColumn : GoodIn wsX5_place (wsV RX5 57 RX5 yX5_nextColumn wsX5_nextColumn) := goodIn_app (goodIn_of _ (by decide +kernel)) ggX5_place_X5_nextColumn
theorem dX5_place_0 : decode cX5_place 0 = .ok (.aload_n 0, 1) := by decide +kernel
theorem dX5_place_1 : decode cX5_place 1 = .ok (.getfield 23, 3) := by decide +kernel
theorem dX5_place_4 : decode cX5_place 4 = .ok (.iconst 0, 1) := by decide +kernel
theorem dX5_place_5 : decode cX5_place 5 = .ok (.iload_n 1, 1) := by decide +kernel
theorem dX5_place_6 : decode cX5_place 6 = .ok (.iastore, 1) := by decide +kernel
theorem dX5_place_7 : decode cX5_place 7 = .ok (.iconst 0, 1) := by decide +kernel
theorem dX5_place_8 : decode cX5_place 8 = .ok (.istore_n 2, 1) := by decide +kernel
theorem dX5_place_9 : decode cX5_place 9 = .ok (.iload_n 2, 1) := by decide +kernel
theorem dX5_place_10 : decode cX5_place 10 = .ok (.aload_n 0, 1) := by decide +kernel
theorem dX5_place_11 : decode cX5_place 11 = .ok (.getfield 42, 3) := by decide +kernel
theorem dX5_place_14 : decode cX5_place 14 = .ok (.if_icmp .gt 24, 3) := by decide +kernel
theorem dX5_place_17 : decode cX5_place 17 = .ok (.aload_n 0, 1) := by decide +kernel
theorem dX5_place_18 : decode cX5_place 18 = .ok (.getfield 29, 3) := by decide +kernel
theorem dX5_place_21 : decode cX5_place 21 = .ok (.iload_n 2, 1) := by decide +kernel
theorem dX5_place_22 : decode cX5_place 22 = .ok (.ldc 56, 2) := by decide +kernel
theorem dX5_place_24 : decode cX5_place 24 = .ok (.iastore, 1) := by decide +kernel
theorem dX5_place_25 : decode cX5_place 25 = .ok (.aload_n 0, 1) := by decide +kernel
theorem dX5_place_26 : decode cX5_place 26 = .ok (.getfield 32, 3) := by decide +kernel
theorem dX5_place_29 : decode cX5_place 29 = .ok (.iload_n 2, 1) := by decide +kernel
theorem dX5_place_30 : decode cX5_place 30 = .ok (.iconst 0, 1) := by decide +kernel
theorem dX5_place_31 : decode cX5_place 31 = .ok (.bastore, 1) := by decide +kernel
theorem dX5_place_32 : decode cX5_place 32 = .ok (.iinc 2 1, 3) := by decide +kernel
theorem dX5_place_35 : decode cX5_place 35 = .ok (.goto (-26), 3) := by decide +kernel
theorem dX5_place_38 : decode cX5_place 38 = .ok (.iconst 0, 1) := by decide +kernel
theorem dX5_place_39 : decode cX5_place 39 = .ok (.istore_n 2, 1) := by decide +kernel
theorem dX5_place_40 : decode cX5_place 40 = .ok (.iconst 0, 1) := by decide +kernel
theorem dX5_place_41 : decode cX5_place 41 = .ok (.istore_n 3, 1) := by decide +kernel
theorem dX5_place_42 : decode cX5_place 42 = .ok (.iload_n 3, 1) := by decide +kernel
theorem dX5_place_43 : decode cX5_place 43 = .ok (.aload_n 0, 1) := by decide +kernel
theorem dX5_place_44 : decode cX5_place 44 = .ok (.getfield 42, 3) := by decide +kernel
theorem dX5_place_47 : decode cX5_place 47 = .ok (.if_icmp .gt 27, 3) := by decide +kernel
theorem dX5_place_50 : decode cX5_place 50 = .ok (.aload_n 0, 1) := by decide +kernel
theorem dX5_place_51 : decode cX5_place 51 = .ok (.iload_n 2, 1) := by decide +kernel
theorem dX5_place_52 : decode cX5_place 52 = .ok (.invokevirtual 57, 3) := by decide +kernel
theorem dX5_place_55 : decode cX5_place 55 = .ok (.istore_n 2, 1) := by decide +kernel
theorem dX5_place_56 : decode cX5_place 56 = .ok (.aload_n 0, 1) := by decide +kernel
theorem dX5_place_57 : decode cX5_place 57 = .ok (.getfield 23, 3) := by decide +kernel
theorem dX5_place_60 : decode cX5_place 60 = .ok (.iload_n 2, 1) := by decide +kernel
theorem dX5_place_61 : decode cX5_place 61 = .ok (.iaload, 1) := by decide +kernel
theorem dX5_place_62 : decode cX5_place 62 = .ok (.ifCond .ne 6, 3) := by decide +kernel
theorem dX5_place_65 : decode cX5_place 65 = .ok (.goto 9, 3) := by decide +kernel
theorem dX5_place_68 : decode cX5_place 68 = .ok (.iinc 3 1, 3) := by decide +kernel
theorem dX5_place_71 : decode cX5_place 71 = .ok (.goto (-29), 3) := by decide +kernel
theorem dX5_place_74 : decode cX5_place 74 = .ok (.iconst 0, 1) := by decide +kernel
theorem dX5_place_75 : decode cX5_place 75 = .ok (.istore_n 3, 1) := by decide +kernel
theorem dX5_place_76 : decode cX5_place 76 = .ok (.iload_n 3, 1) := by decide +kernel
theorem dX5_place_77 : decode cX5_place 77 = .ok (.aload_n 0, 1) := by decide +kernel
theorem dX5_place_78 : decode cX5_place 78 = .ok (.getfield 42, 3) := by decide +kernel
theorem dX5_place_81 : decode cX5_place 81 = .ok (.if_icmp .gt 37, 3) := by decide +kernel
theorem dX5_place_84 : decode cX5_place 84 = .ok (.iload_n 2, 1) := by decide +kernel
theorem dX5_place_85 : decode cX5_place 85 = .ok (.ifCond .eq 33, 3) := by decide +kernel
theorem dX5_place_88 : decode cX5_place 88 = .ok (.aload_n 0, 1) := by decide +kernel
theorem dX5_place_89 : decode cX5_place 89 = .ok (.getfield 23, 3) := by decide +kernel
theorem dX5_place_92 : decode cX5_place 92 = .ok (.iload_n 2, 1) := by decide +kernel
theorem dX5_place_93 : decode cX5_place 93 = .ok (.aload_n 0, 1) := by decide +kernel
theorem dX5_place_94 : decode cX5_place 94 = .ok (.getfield 23, 3) := by decide +kernel
theorem dX5_place_97 : decode cX5_place 97 = .ok (.aload_n 0, 1) := by decide +kernel
theorem dX5_place_98 : decode cX5_place 98 = .ok (.getfield 26, 3) := by decide +kernel
theorem dX5_place_101 : decode cX5_place 101 = .ok (.iload_n 2, 1) := by decide +kernel
theorem dX5_place_102 : decode cX5_place 102 = .ok (.iaload, 1) := by decide +kernel
theorem dX5_place_103 : decode cX5_place 103 = .ok (.iaload, 1) := by decide +kernel
theorem dX5_place_104 : decode cX5_place 104 = .ok (.iastore, 1) := by decide +kernel
theorem dX5_place_105 : decode cX5_place 105 = .ok (.aload_n 0, 1) := by decide +kernel
theorem dX5_place_106 : decode cX5_place 106 = .ok (.getfield 26, 3) := by decide +kernel
theorem dX5_place_109 : decode cX5_place 109 = .ok (.iload_n 2, 1) := by decide +kernel
theorem dX5_place_110 : decode cX5_place 110 = .ok (.iaload, 1) := by decide +kernel
theorem dX5_place_111 : decode cX5_place 111 = .ok (.istore_n 2, 1) := by decide +kernel
theorem dX5_place_112 : decode cX5_place 112 = .ok (.iinc 3 1, 3) := by decide +kernel
theorem dX5_place_115 : decode cX5_place 115 = .ok (.goto (-39), 3) := by decide +kernel
theorem dX5_place_118 : decode cX5_place 118 = .ok (.return_, 1) := by decide +kernel
set_option maxRecDepth 20000 in
theorem ggX5_nextColumn_X5_shiftPrices : GoodIn wsX5_nextColumn wsX5_shiftPrices := goodIn_r _ [14, 4, 1, 6, 2, 7, 8, 15, 16, 17, 18, 19, 20, 21, 22] (by decide +kernel) (by decide +kernel)
set_option maxRecDepth 20000 in
theorem gX5_nextColumn_X5_shiftPrices : GoodIn wsX5_nextColumn (wsV RX5 61 RX5 yX5_shiftPrices wsX5_shiftPrices) := goodIn_app (goodIn_of _ (by decide +kernel)) ggX5_nextColumn_X5_shiftPrices
theorem dX5_nextColumn_0 : decode cX5_nextColumn 0 = .ok (.aload_n 0, 1) := by decide +kernel
theorem dX5_nextColumn_1 : decode cX5_nextColumn 1 = .ok (.getfield 32, 3) := by decide +kernel
theorem dX5_nextColumn_4 : decode cX5_nextColumn 4 = .ok (.iload_n 1, 1) := by decide +kernel
theorem dX5_nextColumn_5 : decode cX5_nextColumn 5 = .ok (.iconst 1, 1) := by decide +kernel
theorem dX5_nextColumn_6 : decode cX5_nextColumn 6 = .ok (.bastore, 1) := by decide +kernel
theorem dX5_nextColumn_7 : decode cX5_nextColumn 7 = .ok (.aload_n 0, 1) := by decide +kernel
theorem dX5_nextColumn_8 : decode cX5_nextColumn 8 = .ok (.getfield 23, 3) := by decide +kernel
theorem dX5_nextColumn_11 : decode cX5_nextColumn 11 = .ok (.iload_n 1, 1) := by decide +kernel
theorem dX5_nextColumn_12 : decode cX5_nextColumn 12 = .ok (.iaload, 1) := by decide +kernel
theorem dX5_nextColumn_13 : decode cX5_nextColumn 13 = .ok (.istore_n 2, 1) := by decide +kernel
theorem dX5_nextColumn_14 : decode cX5_nextColumn 14 = .ok (.iconst 0, 1) := by decide +kernel
theorem dX5_nextColumn_15 : decode cX5_nextColumn 15 = .ok (.istore_n 3, 1) := by decide +kernel
theorem dX5_nextColumn_16 : decode cX5_nextColumn 16 = .ok (.ldc 56, 2) := by decide +kernel
theorem dX5_nextColumn_18 : decode cX5_nextColumn 18 = .ok (.istore 4, 2) := by decide +kernel
theorem dX5_nextColumn_20 : decode cX5_nextColumn 20 = .ok (.iconst 1, 1) := by decide +kernel
theorem dX5_nextColumn_21 : decode cX5_nextColumn 21 = .ok (.istore 5, 2) := by decide +kernel
theorem dX5_nextColumn_23 : decode cX5_nextColumn 23 = .ok (.iload 5, 2) := by decide +kernel
theorem dX5_nextColumn_25 : decode cX5_nextColumn 25 = .ok (.aload_n 0, 1) := by decide +kernel
theorem dX5_nextColumn_26 : decode cX5_nextColumn 26 = .ok (.getfield 42, 3) := by decide +kernel
theorem dX5_nextColumn_29 : decode cX5_nextColumn 29 = .ok (.if_icmp .gt 99, 3) := by decide +kernel
theorem dX5_nextColumn_32 : decode cX5_nextColumn 32 = .ok (.aload_n 0, 1) := by decide +kernel
theorem dX5_nextColumn_33 : decode cX5_nextColumn 33 = .ok (.getfield 32, 3) := by decide +kernel
theorem dX5_nextColumn_36 : decode cX5_nextColumn 36 = .ok (.iload 5, 2) := by decide +kernel
theorem dX5_nextColumn_38 : decode cX5_nextColumn 38 = .ok (.baload, 1) := by decide +kernel
theorem dX5_nextColumn_39 : decode cX5_nextColumn 39 = .ok (.ifCond .ne 83, 3) := by decide +kernel
theorem dX5_nextColumn_42 : decode cX5_nextColumn 42 = .ok (.aload_n 0, 1) := by decide +kernel
theorem dX5_nextColumn_43 : decode cX5_nextColumn 43 = .ok (.getfield 13, 3) := by decide +kernel
theorem dX5_nextColumn_46 : decode cX5_nextColumn 46 = .ok (.iload_n 2, 1) := by decide +kernel
theorem dX5_nextColumn_47 : decode cX5_nextColumn 47 = .ok (.aaload, 1) := by decide +kernel
theorem dX5_nextColumn_48 : decode cX5_nextColumn 48 = .ok (.iload 5, 2) := by decide +kernel
theorem dX5_nextColumn_50 : decode cX5_nextColumn 50 = .ok (.iaload, 1) := by decide +kernel
theorem dX5_nextColumn_51 : decode cX5_nextColumn 51 = .ok (.ineg, 1) := by decide +kernel
theorem dX5_nextColumn_52 : decode cX5_nextColumn 52 = .ok (.aload_n 0, 1) := by decide +kernel
theorem dX5_nextColumn_53 : decode cX5_nextColumn 53 = .ok (.getfield 16, 3) := by decide +kernel
theorem dX5_nextColumn_56 : decode cX5_nextColumn 56 = .ok (.iload_n 2, 1) := by decide +kernel
theorem dX5_nextColumn_57 : decode cX5_nextColumn 57 = .ok (.iaload, 1) := by decide +kernel
theorem dX5_nextColumn_58 : decode cX5_nextColumn 58 = .ok (.isub, 1) := by decide +kernel
theorem dX5_nextColumn_59 : decode cX5_nextColumn 59 = .ok (.aload_n 0, 1) := by decide +kernel
theorem dX5_nextColumn_60 : decode cX5_nextColumn 60 = .ok (.getfield 20, 3) := by decide +kernel
theorem dX5_nextColumn_63 : decode cX5_nextColumn 63 = .ok (.iload 5, 2) := by decide +kernel
theorem dX5_nextColumn_65 : decode cX5_nextColumn 65 = .ok (.iaload, 1) := by decide +kernel
theorem dX5_nextColumn_66 : decode cX5_nextColumn 66 = .ok (.isub, 1) := by decide +kernel
theorem dX5_nextColumn_67 : decode cX5_nextColumn 67 = .ok (.istore 6, 2) := by decide +kernel
theorem dX5_nextColumn_69 : decode cX5_nextColumn 69 = .ok (.iload 6, 2) := by decide +kernel
theorem dX5_nextColumn_71 : decode cX5_nextColumn 71 = .ok (.aload_n 0, 1) := by decide +kernel
theorem dX5_nextColumn_72 : decode cX5_nextColumn 72 = .ok (.getfield 29, 3) := by decide +kernel
theorem dX5_nextColumn_75 : decode cX5_nextColumn 75 = .ok (.iload 5, 2) := by decide +kernel
theorem dX5_nextColumn_77 : decode cX5_nextColumn 77 = .ok (.iaload, 1) := by decide +kernel
theorem dX5_nextColumn_78 : decode cX5_nextColumn 78 = .ok (.if_icmp .ge 20, 3) := by decide +kernel
theorem dX5_nextColumn_81 : decode cX5_nextColumn 81 = .ok (.aload_n 0, 1) := by decide +kernel
theorem dX5_nextColumn_82 : decode cX5_nextColumn 82 = .ok (.getfield 29, 3) := by decide +kernel
theorem dX5_nextColumn_85 : decode cX5_nextColumn 85 = .ok (.iload 5, 2) := by decide +kernel
theorem dX5_nextColumn_87 : decode cX5_nextColumn 87 = .ok (.iload 6, 2) := by decide +kernel
theorem dX5_nextColumn_89 : decode cX5_nextColumn 89 = .ok (.iastore, 1) := by decide +kernel
theorem dX5_nextColumn_90 : decode cX5_nextColumn 90 = .ok (.aload_n 0, 1) := by decide +kernel
theorem dX5_nextColumn_91 : decode cX5_nextColumn 91 = .ok (.getfield 26, 3) := by decide +kernel
theorem dX5_nextColumn_94 : decode cX5_nextColumn 94 = .ok (.iload 5, 2) := by decide +kernel
theorem dX5_nextColumn_96 : decode cX5_nextColumn 96 = .ok (.iload_n 1, 1) := by decide +kernel
theorem dX5_nextColumn_97 : decode cX5_nextColumn 97 = .ok (.iastore, 1) := by decide +kernel
theorem dX5_nextColumn_98 : decode cX5_nextColumn 98 = .ok (.aload_n 0, 1) := by decide +kernel
theorem dX5_nextColumn_99 : decode cX5_nextColumn 99 = .ok (.getfield 29, 3) := by decide +kernel
theorem dX5_nextColumn_102 : decode cX5_nextColumn 102 = .ok (.iload 5, 2) := by decide +kernel
theorem dX5_nextColumn_104 : decode cX5_nextColumn 104 = .ok (.iaload, 1) := by decide +kernel
theorem dX5_nextColumn_105 : decode cX5_nextColumn 105 = .ok (.iload 4, 2) := by decide +kernel
theorem dX5_nextColumn_107 : decode cX5_nextColumn 107 = .ok (.if_icmp .ge 15, 3) := by decide +kernel
theorem dX5_nextColumn_110 : decode cX5_nextColumn 110 = .ok (.aload_n 0, 1) := by decide +kernel
theorem dX5_nextColumn_111 : decode cX5_nextColumn 111 = .ok (.getfield 29, 3) := by decide +kernel
theorem dX5_nextColumn_114 : decode cX5_nextColumn 114 = .ok (.iload 5, 2) := by decide +kernel
theorem dX5_nextColumn_116 : decode cX5_nextColumn 116 = .ok (.iaload, 1) := by decide +kernel
theorem dX5_nextColumn_117 : decode cX5_nextColumn 117 = .ok (.istore 4, 2) := by decide +kernel
theorem dX5_nextColumn_119 : decode cX5_nextColumn 119 = .ok (.iload 5, 2) := by decide +kernel
theorem dX5_nextColumn_121 : decode cX5_nextColumn 121 = .ok (.istore_n 3, 1) := by decide +kernel
theorem dX5_nextColumn_122 : decode cX5_nextColumn 122 = .ok (.iinc 5 1, 3) := by decide +kernel
theorem dX5_nextColumn_125 : decode cX5_nextColumn 125 = .ok (.goto (-102), 3) := by decide +kernel
theorem dX5_nextColumn_128 : decode cX5_nextColumn 128 = .ok (.aload_n 0, 1) := by decide +kernel
theorem dX5_nextColumn_129 : decode cX5_nextColumn 129 = .ok (.iload 4, 2) := by decide +kernel
theorem dX5_nextColumn_131 : decode cX5_nextColumn 131 = .ok (.invokevirtual 61, 3) := by decide +kernel
theorem dX5_nextColumn_134 : decode cX5_nextColumn 134 = .ok (.iload_n 3, 1) := by decide +kernel
theorem dX5_nextColumn_135 : decode cX5_nextColumn 135 = .ok (.ireturn, 1) := by decide +kernel
theorem dX5_shiftPrices_0 : decode cX5_shiftPrices 0 = .ok (.iconst 0, 1) := by decide +kernel
theorem dX5_shiftPrices_1 : decode cX5_shiftPrices 1 = .ok (.istore_n 2, 1) := by decide +kernel
theorem dX5_shiftPrices_2 : decode cX5_shiftPrices 2 = .ok (.iload_n 2, 1) := by decide +kernel
theorem dX5_shiftPrices_3 : decode cX5_shiftPrices 3 = .ok (.aload_n 0, 1) := by decide +kernel
theorem dX5_shiftPrices_4 : decode cX5_shiftPrices 4 = .ok (.getfield 42, 3) := by decide +kernel
theorem dX5_shiftPrices_7 : decode cX5_shiftPrices 7 = .ok (.if_icmp .gt 56, 3) := by decide +kernel
theorem dX5_shiftPrices_10 : decode cX5_shiftPrices 10 = .ok (.aload_n 0, 1) := by decide +kernel
theorem dX5_shiftPrices_11 : decode cX5_shiftPrices 11 = .ok (.getfield 32, 3) := by decide +kernel
theorem dX5_shiftPrices_14 : decode cX5_shiftPrices 14 = .ok (.iload_n 2, 1) := by decide +kernel
theorem dX5_shiftPrices_15 : decode cX5_shiftPrices 15 = .ok (.baload, 1) := by decide +kernel
theorem dX5_shiftPrices_16 : decode cX5_shiftPrices 16 = .ok (.ifCond .eq 31, 3) := by decide +kernel
theorem dX5_shiftPrices_19 : decode cX5_shiftPrices 19 = .ok (.aload_n 0, 1) := by decide +kernel
theorem dX5_shiftPrices_20 : decode cX5_shiftPrices 20 = .ok (.getfield 16, 3) := by decide +kernel
theorem dX5_shiftPrices_23 : decode cX5_shiftPrices 23 = .ok (.aload_n 0, 1) := by decide +kernel
theorem dX5_shiftPrices_24 : decode cX5_shiftPrices 24 = .ok (.getfield 23, 3) := by decide +kernel
theorem dX5_shiftPrices_27 : decode cX5_shiftPrices 27 = .ok (.iload_n 2, 1) := by decide +kernel
theorem dX5_shiftPrices_28 : decode cX5_shiftPrices 28 = .ok (.iaload, 1) := by decide +kernel
theorem dX5_shiftPrices_29 : decode cX5_shiftPrices 29 = .ok (.dup2, 1) := by decide +kernel
theorem dX5_shiftPrices_30 : decode cX5_shiftPrices 30 = .ok (.iaload, 1) := by decide +kernel
theorem dX5_shiftPrices_31 : decode cX5_shiftPrices 31 = .ok (.iload_n 1, 1) := by decide +kernel
theorem dX5_shiftPrices_32 : decode cX5_shiftPrices 32 = .ok (.iadd, 1) := by decide +kernel
theorem dX5_shiftPrices_33 : decode cX5_shiftPrices 33 = .ok (.iastore, 1) := by decide +kernel
theorem dX5_shiftPrices_34 : decode cX5_shiftPrices 34 = .ok (.aload_n 0, 1) := by decide +kernel
theorem dX5_shiftPrices_35 : decode cX5_shiftPrices 35 = .ok (.getfield 20, 3) := by decide +kernel
theorem dX5_shiftPrices_38 : decode cX5_shiftPrices 38 = .ok (.iload_n 2, 1) := by decide +kernel
theorem dX5_shiftPrices_39 : decode cX5_shiftPrices 39 = .ok (.dup2, 1) := by decide +kernel
theorem dX5_shiftPrices_40 : decode cX5_shiftPrices 40 = .ok (.iaload, 1) := by decide +kernel
theorem dX5_shiftPrices_41 : decode cX5_shiftPrices 41 = .ok (.iload_n 1, 1) := by decide +kernel
theorem dX5_shiftPrices_42 : decode cX5_shiftPrices 42 = .ok (.isub, 1) := by decide +kernel
theorem dX5_shiftPrices_43 : decode cX5_shiftPrices 43 = .ok (.iastore, 1) := by decide +kernel
theorem dX5_shiftPrices_44 : decode cX5_shiftPrices 44 = .ok (.goto 13, 3) := by decide +kernel
theorem dX5_shiftPrices_47 : decode cX5_shiftPrices 47 = .ok (.aload_n 0, 1) := by decide +kernel
theorem dX5_shiftPrices_48 : decode cX5_shiftPrices 48 = .ok (.getfield 29, 3) := by decide +kernel
theorem dX5_shiftPrices_51 : decode cX5_shiftPrices 51 = .ok (.iload_n 2, 1) := by decide +kernel
theorem dX5_shiftPrices_52 : decode cX5_shiftPrices 52 = .ok (.dup2, 1) := by decide +kernel
theorem dX5_shiftPrices_53 : decode cX5_shiftPrices 53 = .ok (.iaload, 1) := by decide +kernel
theorem dX5_shiftPrices_54 : decode cX5_shiftPrices 54 = .ok (.iload_n 1, 1) := by decide +kernel
theorem dX5_shiftPrices_55 : decode cX5_shiftPrices 55 = .ok (.isub, 1) := by decide +kernel
theorem dX5_shiftPrices_56 : decode cX5_shiftPrices 56 = .ok (.iastore, 1) := by decide +kernel
theorem dX5_shiftPrices_57 : decode cX5_shiftPrices 57 = .ok (.iinc 2 1, 3) := by decide +kernel
theorem dX5_shiftPrices_60 : decode cX5_shiftPrices 60 = .ok (.goto (-58), 3) := by decide +kernel
theorem dX5_shiftPrices_63 : decode cX5_shiftPrices 63 = .ok (.return_, 1) := by decide +kernel
set_option maxRecDepth 20000 in
theorem ggX6_init_J7_fill_53178 : GoodIn wsX6_init wsJ7_fill_53178 := goodIn_r _ [23] (by decide +kernel) (by decide +kernel)
set_option maxRecDepth 20000 in
theorem gX6_init_J7_fill_53178 : GoodIn wsX6_init (va_wsS RX6 54 yJ7_fill_53178 wsJ7_fill_53178) := goodIn_app (goodIn_of _ (by decide +kernel)) ggX6_init_J7_fill_53178
theorem dX6_init_0 : decode cX6_init 0 = .ok (.aload_n 0, 1) := by decide +kernel
theorem dX6_init_1 : decode cX6_init 1 = .ok (.invokespecial 3, 3) := by decide +kernel
theorem dX6_init_4 : decode cX6_init 4 = .ok (.aload_n 0, 1) := by decide +kernel
theorem dX6_init_5 : decode cX6_init 5 = .ok (.bipush 12, 2) := by decide +kernel
theorem dX6_init_7 : decode cX6_init 7 = .ok (.newarray .int, 2) := by decide +kernel
theorem dX6_init_9 : decode cX6_init 9 = .ok (.putfield 9, 3) := by decide +kernel
theorem dX6_init_12 : decode cX6_init 12 = .ok (.aload_n 0, 1) := by decide +kernel
theorem dX6_init_13 : decode cX6_init 13 = .ok (.bipush 12, 2) := by decide +kernel
theorem dX6_init_15 : decode cX6_init 15 = .ok (.newarray .int, 2) := by decide +kernel
theorem dX6_init_17 : decode cX6_init 17 = .ok (.putfield 15, 3) := by decide +kernel
theorem dX6_init_20 : decode cX6_init 20 = .ok (.aload_n 0, 1) := by decide +kernel
theorem dX6_init_21 : decode cX6_init 21 = .ok (.bipush 30, 2) := by decide +kernel
theorem dX6_init_23 : decode cX6_init 23 = .ok (.newarray .int, 2) := by decide +kernel
theorem dX6_init_25 : decode cX6_init 25 = .ok (.putfield 18, 3) := by decide +kernel
theorem dX6_init_28 : decode cX6_init 28 = .ok (.aload_n 0, 1) := by decide +kernel
theorem dX6_init_29 : decode cX6_init 29 = .ok (.bipush 30, 2) := by decide +kernel
theorem dX6_init_31 : decode cX6_init 31 = .ok (.newarray .int, 2) := by decide +kernel
theorem dX6_init_33 : decode cX6_init 33 = .ok (.putfield 21, 3) := by decide +kernel
theorem dX6_init_36 : decode cX6_init 36 = .ok (.aload_n 0, 1) := by decide +kernel
theorem dX6_init_37 : decode cX6_init 37 = .ok (.bipush 30, 2) := by decide +kernel
theorem dX6_init_39 : decode cX6_init 39 = .ok (.newarray .int, 2) := by decide +kernel
theorem dX6_init_41 : decode cX6_init 41 = .ok (.putfield 24, 3) := by decide +kernel
theorem dX6_init_44 : decode cX6_init 44 = .ok (.aload_n 0, 1) := by decide +kernel
theorem dX6_init_45 : decode cX6_init 45 = .ok (.bipush 30, 2) := by decide +kernel
theorem dX6_init_47 : decode cX6_init 47 = .ok (.newarray .int, 2) := by decide +kernel
theorem dX6_init_49 : decode cX6_init 49 = .ok (.putfield 27, 3) := by decide +kernel
theorem dX6_init_52 : decode cX6_init 52 = .ok (.aload_n 0, 1) := by decide +kernel
theorem dX6_init_53 : decode cX6_init 53 = .ok (.bipush 30, 2) := by decide +kernel
theorem dX6_init_55 : decode cX6_init 55 = .ok (.newarray .int, 2) := by decide +kernel
theorem dX6_init_57 : decode cX6_init 57 = .ok (.putfield 30, 3) := by decide +kernel
theorem dX6_init_60 : decode cX6_init 60 = .ok (.aload_n 0, 1) := by decide +kernel
theorem dX6_init_61 : decode cX6_init 61 = .ok (.bipush 30, 2) := by decide +kernel
theorem dX6_init_63 : decode cX6_init 63 = .ok (.newarray .int, 2) := by decide +kernel
theorem dX6_init_65 : decode cX6_init 65 = .ok (.putfield 33, 3) := by decide +kernel
theorem dX6_init_68 : decode cX6_init 68 = .ok (.aload_n 0, 1) := by decide +kernel
theorem dX6_init_69 : decode cX6_init 69 = .ok (.bipush 12, 2) := by decide +kernel
theorem dX6_init_71 : decode cX6_init 71 = .ok (.bipush 12, 2) := by decide +kernel
theorem dX6_init_73 : decode cX6_init 73 = .ok (.multianewarray 36 2, 4) := by decide +kernel
theorem dX6_init_77 : decode cX6_init 77 = .ok (.putfield 38, 3) := by decide +kernel
theorem dX6_init_80 : decode cX6_init 80 = .ok (.aload_n 0, 1) := by decide +kernel
theorem dX6_init_81 : decode cX6_init 81 = .ok (.bipush 12, 2) := by decide +kernel
theorem dX6_init_83 : decode cX6_init 83 = .ok (.bipush 12, 2) := by decide +kernel
theorem dX6_init_85 : decode cX6_init 85 = .ok (.multianewarray 36 2, 4) := by decide +kernel
theorem dX6_init_89 : decode cX6_init 89 = .ok (.putfield 41, 3) := by decide +kernel
theorem dX6_init_92 : decode cX6_init 92 = .ok (.aload_n 0, 1) := by decide +kernel
theorem dX6_init_93 : decode cX6_init 93 = .ok (.sipush 144, 3) := by decide +kernel
theorem dX6_init_96 : decode cX6_init 96 = .ok (.newarray .boolean, 2) := by decide +kernel
theorem dX6_init_98 : decode cX6_init 98 = .ok (.putfield 44, 3) := by decide +kernel
theorem dX6_init_101 : decode cX6_init 101 = .ok (.aload_n 0, 1) := by decide +kernel
theorem dX6_init_102 : decode cX6_init 102 = .ok (.sipush 900, 3) := by decide +kernel
theorem dX6_init_105 : decode cX6_init 105 = .ok (.newarray .int, 2) := by decide +kernel
theorem dX6_init_107 : decode cX6_init 107 = .ok (.putfield 48, 3) := by decide +kernel
theorem dX6_init_110 : decode cX6_init 110 = .ok (.aload_n 0, 1) := by decide +kernel
theorem dX6_init_111 : decode cX6_init 111 = .ok (.bipush 64, 2) := by decide +kernel
theorem dX6_init_113 : decode cX6_init 113 = .ok (.newarray .int, 2) := by decide +kernel
theorem dX6_init_115 : decode cX6_init 115 = .ok (.putfield 51, 3) := by decide +kernel
theorem dX6_init_118 : decode cX6_init 118 = .ok (.iconst 0, 1) := by decide +kernel
theorem dX6_init_119 : decode cX6_init 119 = .ok (.istore_n 1, 1) := by decide +kernel
theorem dX6_init_120 : decode cX6_init 120 = .ok (.iload_n 1, 1) := by decide +kernel
theorem dX6_init_121 : decode cX6_init 121 = .ok (.bipush 12, 2) := by decide +kernel
theorem dX6_init_123 : decode cX6_init 123 = .ok (.if_icmp .ge 19, 3) := by decide +kernel
theorem dX6_init_126 : decode cX6_init 126 = .ok (.aload_n 0, 1) := by decide +kernel
theorem dX6_init_127 : decode cX6_init 127 = .ok (.getfield 38, 3) := by decide +kernel
theorem dX6_init_130 : decode cX6_init 130 = .ok (.iload_n 1, 1) := by decide +kernel
theorem dX6_init_131 : decode cX6_init 131 = .ok (.aaload, 1) := by decide +kernel
theorem dX6_init_132 : decode cX6_init 132 = .ok (.iconst (-1), 1) := by decide +kernel
theorem dX6_init_133 : decode cX6_init 133 = .ok (.invokestatic 54, 3) := by decide +kernel
theorem dX6_init_136 : decode cX6_init 136 = .ok (.iinc 1 1, 3) := by decide +kernel
theorem dX6_init_139 : decode cX6_init 139 = .ok (.goto (-19), 3) := by decide +kernel
theorem dX6_init_142 : decode cX6_init 142 = .ok (.return_, 1) := by decide +kernel
set_option maxRecDepth 20000 in
theorem ggX6_clear_J7_fill_53178 : GoodIn wsX6_clear wsJ7_fill_53178 := goodIn_r _ [14] (by decide +kernel) (by decide +kernel)
set_option maxRecDepth 20000 in
theorem gX6_clear_J7_fill_53178 : GoodIn wsX6_clear (va_wsS RX6 54 yJ7_fill_53178 wsJ7_fill_53178) := goodIn_app (goodIn_of _ (by decide +kernel)) ggX6_clear_J7_fill_53178
theorem dX6_clear_0 : decode cX6_clear 0 = .ok (.aload_n 0, 1) := by decide +kernel
theorem dX6_clear_1 : decode cX6_clear 1 = .ok (.iconst 0, 1) := by decide +kernel
theorem dX6_clear_2 : decode cX6_clear 2 = .ok (.putfield 60, 3) := by decide +kernel
theorem dX6_clear_5 : decode cX6_clear 5 = .ok (.aload_n 0, 1) := by decide +kernel
theorem dX6_clear_6 : decode cX6_clear 6 = .ok (.iconst 0, 1) := by decide +kernel
theorem dX6_clear_7 : decode cX6_clear 7 = .ok (.putfield 64, 3) := by decide +kernel
theorem dX6_clear_10 : decode cX6_clear 10 = .ok (.aload_n 0, 1) := by decide +kernel
theorem dX6_clear_11 : decode cX6_clear 11 = .ok (.iconst 0, 1) := by decide +kernel
theorem dX6_clear_12 : decode cX6_clear 12 = .ok (.putfield 67, 3) := by decide +kernel
theorem dX6_clear_15 : decode cX6_clear 15 = .ok (.aload_n 0, 1) := by decide +kernel
theorem dX6_clear_16 : decode cX6_clear 16 = .ok (.iconst 0, 1) := by decide +kernel
theorem dX6_clear_17 : decode cX6_clear 17 = .ok (.putfield 70, 3) := by decide +kernel
theorem dX6_clear_20 : decode cX6_clear 20 = .ok (.aload_n 0, 1) := by decide +kernel
theorem dX6_clear_21 : decode cX6_clear 21 = .ok (.iconst 0, 1) := by decide +kernel
theorem dX6_clear_22 : decode cX6_clear 22 = .ok (.putfield 73, 3) := by decide +kernel
theorem dX6_clear_25 : decode cX6_clear 25 = .ok (.aload_n 0, 1) := by decide +kernel
theorem dX6_clear_26 : decode cX6_clear 26 = .ok (.iconst 0, 1) := by decide +kernel
theorem dX6_clear_27 : decode cX6_clear 27 = .ok (.putfield 76, 3) := by decide +kernel
theorem dX6_clear_30 : decode cX6_clear 30 = .ok (.aload_n 0, 1) := by decide +kernel
theorem dX6_clear_31 : decode cX6_clear 31 = .ok (.getfield 24, 3) := by decide +kernel
theorem dX6_clear_34 : decode cX6_clear 34 = .ok (.iconst 0, 1) := by decide +kernel
theorem dX6_clear_35 : decode cX6_clear 35 = .ok (.invokestatic 54, 3) := by decide +kernel
theorem dX6_clear_38 : decode cX6_clear 38 = .ok (.iconst 0, 1) := by decide +kernel
theorem dX6_clear_39 : decode cX6_clear 39 = .ok (.istore_n 1, 1) := by decide +kernel
theorem dX6_clear_40 : decode cX6_clear 40 = .ok (.iload_n 1, 1) := by decide +kernel
theorem dX6_clear_41 : decode cX6_clear 41 = .ok (.bipush 12, 2) := by decide +kernel
theorem dX6_clear_43 : decode cX6_clear 43 = .ok (.if_icmp .ge 29, 3) := by decide +kernel
theorem dX6_clear_46 : decode cX6_clear 46 = .ok (.aload_n 0, 1) := by decide +kernel
theorem dX6_clear_47 : decode cX6_clear 47 = .ok (.getfield 38, 3) := by decide +kernel
theorem dX6_clear_50 : decode cX6_clear 50 = .ok (.iload_n 1, 1) := by decide +kernel
theorem dX6_clear_51 : decode cX6_clear 51 = .ok (.aaload, 1) := by decide +kernel
theorem dX6_clear_52 : decode cX6_clear 52 = .ok (.iconst (-1), 1) := by decide +kernel
theorem dX6_clear_53 : decode cX6_clear 53 = .ok (.invokestatic 54, 3) := by decide +kernel
theorem dX6_clear_56 : decode cX6_clear 56 = .ok (.aload_n 0, 1) := by decide +kernel
theorem dX6_clear_57 : decode cX6_clear 57 = .ok (.getfield 41, 3) := by decide +kernel
theorem dX6_clear_60 : decode cX6_clear 60 = .ok (.iload_n 1, 1) := by decide +kernel
theorem dX6_clear_61 : decode cX6_clear 61 = .ok (.aaload, 1) := by decide +kernel
theorem dX6_clear_62 : decode cX6_clear 62 = .ok (.iconst 0, 1) := by decide +kernel
theorem dX6_clear_63 : decode cX6_clear 63 = .ok (.invokestatic 54, 3) := by decide +kernel
theorem dX6_clear_66 : decode cX6_clear 66 = .ok (.iinc 1 1, 3) := by decide +kernel
theorem dX6_clear_69 : decode cX6_clear 69 = .ok (.goto (-29), 3) := by decide +kernel
theorem dX6_clear_72 : decode cX6_clear 72 = .ok (.iconst 0, 1) := by decide +kernel
theorem dX6_clear_73 : decode cX6_clear 73 = .ok (.istore_n 1, 1) := by decide +kernel
theorem dX6_clear_74 : decode cX6_clear 74 = .ok (.iload_n 1, 1) := by decide +kernel
theorem dX6_clear_75 : decode cX6_clear 75 = .ok (.aload_n 0, 1) := by decide +kernel
theorem dX6_clear_76 : decode cX6_clear 76 = .ok (.getfield 44, 3) := by decide +kernel
theorem dX6_clear_79 : decode cX6_clear 79 = .ok (.arraylength, 1) := by decide +kernel
theorem dX6_clear_80 : decode cX6_clear 80 = .ok (.if_icmp .ge 16, 3) := by decide +kernel
theorem dX6_clear_83 : decode cX6_clear 83 = .ok (.aload_n 0, 1) := by decide +kernel
theorem dX6_clear_84 : decode cX6_clear 84 = .ok (.getfield 44, 3) := by decide +kernel
theorem dX6_clear_87 : decode cX6_clear 87 = .ok (.iload_n 1, 1) := by decide +kernel
theorem dX6_clear_88 : decode cX6_clear 88 = .ok (.iconst 0, 1) := by decide +kernel
theorem dX6_clear_89 : decode cX6_clear 89 = .ok (.bastore, 1) := by decide +kernel
theorem dX6_clear_90 : decode cX6_clear 90 = .ok (.iinc 1 1, 3) := by decide +kernel
theorem dX6_clear_93 : decode cX6_clear 93 = .ok (.goto (-19), 3) := by decide +kernel
theorem dX6_clear_96 : decode cX6_clear 96 = .ok (.return_, 1) := by decide +kernel
theorem dX6_everybody_0 : decode cX6_everybody 0 = .ok (.iconst 1, 1) := by decide +kernel
theorem dX6_everybody_1 : decode cX6_everybody 1 = .ok (.aload_n 0, 1) := by decide +kernel
theorem dX6_everybody_2 : decode cX6_everybody 2 = .ok (.getfield 60, 3) := by decide +kernel
theorem dX6_everybody_5 : decode cX6_everybody 5 = .ok (.ishl, 1) := by decide +kernel
theorem dX6_everybody_6 : decode cX6_everybody 6 = .ok (.iconst 1, 1) := by decide +kernel
theorem dX6_everybody_7 : decode cX6_everybody 7 = .ok (.isub, 1) := by decide +kernel
theorem dX6_everybody_8 : decode cX6_everybody 8 = .ok (.ireturn, 1) := by decide +kernel
theorem dX6_pairOf_0 : decode cX6_pairOf 0 = .ok (.iconst 1, 1) := by decide +kernel
theorem dX6_pairOf_1 : decode cX6_pairOf 1 = .ok (.aload_n 0, 1) := by decide +kernel
theorem dX6_pairOf_2 : decode cX6_pairOf 2 = .ok (.getfield 18, 3) := by decide +kernel
theorem dX6_pairOf_5 : decode cX6_pairOf 5 = .ok (.iload_n 1, 1) := by decide +kernel
theorem dX6_pairOf_6 : decode cX6_pairOf 6 = .ok (.iaload, 1) := by decide +kernel
theorem dX6_pairOf_7 : decode cX6_pairOf 7 = .ok (.ishl, 1) := by decide +kernel
theorem dX6_pairOf_8 : decode cX6_pairOf 8 = .ok (.iconst 1, 1) := by decide +kernel
theorem dX6_pairOf_9 : decode cX6_pairOf 9 = .ok (.aload_n 0, 1) := by decide +kernel
theorem dX6_pairOf_10 : decode cX6_pairOf 10 = .ok (.getfield 21, 3) := by decide +kernel
theorem dX6_pairOf_13 : decode cX6_pairOf 13 = .ok (.iload_n 1, 1) := by decide +kernel
theorem dX6_pairOf_14 : decode cX6_pairOf 14 = .ok (.iaload, 1) := by decide +kernel
theorem dX6_pairOf_15 : decode cX6_pairOf 15 = .ok (.ishl, 1) := by decide +kernel
theorem dX6_pairOf_16 : decode cX6_pairOf 16 = .ok (.ior, 1) := by decide +kernel
theorem dX6_pairOf_17 : decode cX6_pairOf 17 = .ok (.ireturn, 1) := by decide +kernel
theorem dX6_whoIs_0 : decode cX6_whoIs 0 = .ok (.iconst 0, 1) := by decide +kernel
theorem dX6_whoIs_1 : decode cX6_whoIs 1 = .ok (.istore_n 2, 1) := by decide +kernel
theorem dX6_whoIs_2 : decode cX6_whoIs 2 = .ok (.iload_n 2, 1) := by decide +kernel
theorem dX6_whoIs_3 : decode cX6_whoIs 3 = .ok (.aload_n 0, 1) := by decide +kernel
theorem dX6_whoIs_4 : decode cX6_whoIs 4 = .ok (.getfield 60, 3) := by decide +kernel
theorem dX6_whoIs_7 : decode cX6_whoIs 7 = .ok (.if_icmp .ge 21, 3) := by decide +kernel
theorem dX6_whoIs_10 : decode cX6_whoIs 10 = .ok (.aload_n 0, 1) := by decide +kernel
theorem dX6_whoIs_11 : decode cX6_whoIs 11 = .ok (.getfield 9, 3) := by decide +kernel
theorem dX6_whoIs_14 : decode cX6_whoIs 14 = .ok (.iload_n 2, 1) := by decide +kernel
theorem dX6_whoIs_15 : decode cX6_whoIs 15 = .ok (.iaload, 1) := by decide +kernel
theorem dX6_whoIs_16 : decode cX6_whoIs 16 = .ok (.iload_n 1, 1) := by decide +kernel
theorem dX6_whoIs_17 : decode cX6_whoIs 17 = .ok (.if_icmp .ne 5, 3) := by decide +kernel
theorem dX6_whoIs_20 : decode cX6_whoIs 20 = .ok (.iload_n 2, 1) := by decide +kernel
theorem dX6_whoIs_21 : decode cX6_whoIs 21 = .ok (.ireturn, 1) := by decide +kernel
theorem dX6_whoIs_22 : decode cX6_whoIs 22 = .ok (.iinc 2 1, 3) := by decide +kernel
theorem dX6_whoIs_25 : decode cX6_whoIs 25 = .ok (.goto (-23), 3) := by decide +kernel
theorem dX6_whoIs_28 : decode cX6_whoIs 28 = .ok (.iconst (-1), 1) := by decide +kernel
theorem dX6_whoIs_29 : decode cX6_whoIs 29 = .ok (.ireturn, 1) := by decide +kernel
theorem dX6_letterOf_0 : decode cX6_letterOf 0 = .ok (.iconst 0, 1) := by decide +kernel
theorem dX6_letterOf_1 : decode cX6_letterOf 1 = .ok (.istore_n 3, 1) := by decide +kernel
theorem dX6_letterOf_2 : decode cX6_letterOf 2 = .ok (.iload_n 3, 1) := by decide +kernel
theorem dX6_letterOf_3 : decode cX6_letterOf 3 = .ok (.bipush 6, 2) := by decide +kernel
theorem dX6_letterOf_5 : decode cX6_letterOf 5 = .ok (.if_icmp .ge 22, 3) := by decide +kernel
theorem dX6_letterOf_8 : decode cX6_letterOf 8 = .ok (.aload_n 0, 1) := by decide +kernel
theorem dX6_letterOf_9 : decode cX6_letterOf 9 = .ok (.getfield 9, 3) := by decide +kernel
theorem dX6_letterOf_12 : decode cX6_letterOf 12 = .ok (.iload_n 1, 1) := by decide +kernel
theorem dX6_letterOf_13 : decode cX6_letterOf 13 = .ok (.iaload, 1) := by decide +kernel
theorem dX6_letterOf_14 : decode cX6_letterOf 14 = .ok (.iconst 5, 1) := by decide +kernel
theorem dX6_letterOf_15 : decode cX6_letterOf 15 = .ok (.iload_n 3, 1) := by decide +kernel
theorem dX6_letterOf_16 : decode cX6_letterOf 16 = .ok (.imul, 1) := by decide +kernel
theorem dX6_letterOf_17 : decode cX6_letterOf 17 = .ok (.ishr, 1) := by decide +kernel
theorem dX6_letterOf_18 : decode cX6_letterOf 18 = .ok (.ifCond .eq 9, 3) := by decide +kernel
theorem dX6_letterOf_21 : decode cX6_letterOf 21 = .ok (.iinc 3 1, 3) := by decide +kernel
theorem dX6_letterOf_24 : decode cX6_letterOf 24 = .ok (.goto (-22), 3) := by decide +kernel
theorem dX6_letterOf_27 : decode cX6_letterOf 27 = .ok (.iload_n 2, 1) := by decide +kernel
theorem dX6_letterOf_28 : decode cX6_letterOf 28 = .ok (.ifCond .lt 33, 3) := by decide +kernel
theorem dX6_letterOf_31 : decode cX6_letterOf 31 = .ok (.iload_n 2, 1) := by decide +kernel
theorem dX6_letterOf_32 : decode cX6_letterOf 32 = .ok (.iload_n 3, 1) := by decide +kernel
theorem dX6_letterOf_33 : decode cX6_letterOf 33 = .ok (.if_icmp .ge 28, 3) := by decide +kernel
theorem dX6_letterOf_36 : decode cX6_letterOf 36 = .ok (.aload_n 0, 1) := by decide +kernel
theorem dX6_letterOf_37 : decode cX6_letterOf 37 = .ok (.getfield 9, 3) := by decide +kernel
theorem dX6_letterOf_40 : decode cX6_letterOf 40 = .ok (.iload_n 1, 1) := by decide +kernel
theorem dX6_letterOf_41 : decode cX6_letterOf 41 = .ok (.iaload, 1) := by decide +kernel
theorem dX6_letterOf_42 : decode cX6_letterOf 42 = .ok (.iconst 5, 1) := by decide +kernel
theorem dX6_letterOf_43 : decode cX6_letterOf 43 = .ok (.iload_n 3, 1) := by decide +kernel
theorem dX6_letterOf_44 : decode cX6_letterOf 44 = .ok (.iconst 1, 1) := by decide +kernel
theorem dX6_letterOf_45 : decode cX6_letterOf 45 = .ok (.isub, 1) := by decide +kernel
theorem dX6_letterOf_46 : decode cX6_letterOf 46 = .ok (.iload_n 2, 1) := by decide +kernel
theorem dX6_letterOf_47 : decode cX6_letterOf 47 = .ok (.isub, 1) := by decide +kernel
theorem dX6_letterOf_48 : decode cX6_letterOf 48 = .ok (.imul, 1) := by decide +kernel
theorem dX6_letterOf_49 : decode cX6_letterOf 49 = .ok (.ishr, 1) := by decide +kernel
theorem dX6_letterOf_50 : decode cX6_letterOf 50 = .ok (.bipush 31, 2) := by decide +kernel
theorem dX6_letterOf_52 : decode cX6_letterOf 52 = .ok (.iand, 1) := by decide +kernel
theorem dX6_letterOf_53 : decode cX6_letterOf 53 = .ok (.bipush 97, 2) := by decide +kernel
theorem dX6_letterOf_55 : decode cX6_letterOf 55 = .ok (.iadd, 1) := by decide +kernel
theorem dX6_letterOf_56 : decode cX6_letterOf 56 = .ok (.iconst 1, 1) := by decide +kernel
theorem dX6_letterOf_57 : decode cX6_letterOf 57 = .ok (.isub, 1) := by decide +kernel
theorem dX6_letterOf_58 : decode cX6_letterOf 58 = .ok (.goto 4, 3) := by decide +kernel
theorem dX6_letterOf_61 : decode cX6_letterOf 61 = .ok (.iconst (-1), 1) := by decide +kernel
theorem dX6_letterOf_62 : decode cX6_letterOf 62 = .ok (.ireturn, 1) := by decide +kernel
theorem dX6_addWho_0 : decode cX6_addWho 0 = .ok (.aload_n 0, 1) := by decide +kernel
theorem dX6_addWho_1 : decode cX6_addWho 1 = .ok (.getfield 60, 3) := by decide +kernel
theorem dX6_addWho_4 : decode cX6_addWho 4 = .ok (.bipush 12, 2) := by decide +kernel
theorem dX6_addWho_6 : decode cX6_addWho 6 = .ok (.if_icmp .ge 33, 3) := by decide +kernel
theorem dX6_addWho_9 : decode cX6_addWho 9 = .ok (.aload_n 0, 1) := by decide +kernel
theorem dX6_addWho_10 : decode cX6_addWho 10 = .ok (.getfield 9, 3) := by decide +kernel
theorem dX6_addWho_13 : decode cX6_addWho 13 = .ok (.aload_n 0, 1) := by decide +kernel
theorem dX6_addWho_14 : decode cX6_addWho 14 = .ok (.getfield 60, 3) := by decide +kernel
theorem dX6_addWho_17 : decode cX6_addWho 17 = .ok (.iload_n 1, 1) := by decide +kernel
theorem dX6_addWho_18 : decode cX6_addWho 18 = .ok (.iastore, 1) := by decide +kernel
theorem dX6_addWho_19 : decode cX6_addWho 19 = .ok (.aload_n 0, 1) := by decide +kernel
theorem dX6_addWho_20 : decode cX6_addWho 20 = .ok (.getfield 15, 3) := by decide +kernel
theorem dX6_addWho_23 : decode cX6_addWho 23 = .ok (.aload_n 0, 1) := by decide +kernel
theorem dX6_addWho_24 : decode cX6_addWho 24 = .ok (.getfield 60, 3) := by decide +kernel
theorem dX6_addWho_27 : decode cX6_addWho 27 = .ok (.iload_n 2, 1) := by decide +kernel
theorem dX6_addWho_28 : decode cX6_addWho 28 = .ok (.iastore, 1) := by decide +kernel
theorem dX6_addWho_29 : decode cX6_addWho 29 = .ok (.aload_n 0, 1) := by decide +kernel
theorem dX6_addWho_30 : decode cX6_addWho 30 = .ok (.dup, 1) := by decide +kernel
theorem dX6_addWho_31 : decode cX6_addWho 31 = .ok (.getfield 60, 3) := by decide +kernel
theorem dX6_addWho_34 : decode cX6_addWho 34 = .ok (.iconst 1, 1) := by decide +kernel
theorem dX6_addWho_35 : decode cX6_addWho 35 = .ok (.iadd, 1) := by decide +kernel
theorem dX6_addWho_36 : decode cX6_addWho 36 = .ok (.putfield 60, 3) := by decide +kernel
theorem dX6_addWho_39 : decode cX6_addWho 39 = .ok (.return_, 1) := by decide +kernel
theorem dX6_beginRoad_0 : decode cX6_beginRoad 0 = .ok (.aload_n 0, 1) := by decide +kernel
theorem dX6_beginRoad_1 : decode cX6_beginRoad 1 = .ok (.getfield 64, 3) := by decide +kernel
theorem dX6_beginRoad_4 : decode cX6_beginRoad 4 = .ok (.bipush 30, 2) := by decide +kernel
theorem dX6_beginRoad_6 : decode cX6_beginRoad 6 = .ok (.if_icmp .ge 23, 3) := by decide +kernel
theorem dX6_beginRoad_9 : decode cX6_beginRoad 9 = .ok (.aload_n 0, 1) := by decide +kernel
theorem dX6_beginRoad_10 : decode cX6_beginRoad 10 = .ok (.getfield 18, 3) := by decide +kernel
theorem dX6_beginRoad_13 : decode cX6_beginRoad 13 = .ok (.aload_n 0, 1) := by decide +kernel
theorem dX6_beginRoad_14 : decode cX6_beginRoad 14 = .ok (.getfield 64, 3) := by decide +kernel
theorem dX6_beginRoad_17 : decode cX6_beginRoad 17 = .ok (.iload_n 1, 1) := by decide +kernel
theorem dX6_beginRoad_18 : decode cX6_beginRoad 18 = .ok (.iastore, 1) := by decide +kernel
theorem dX6_beginRoad_19 : decode cX6_beginRoad 19 = .ok (.aload_n 0, 1) := by decide +kernel
theorem dX6_beginRoad_20 : decode cX6_beginRoad 20 = .ok (.getfield 21, 3) := by decide +kernel
theorem dX6_beginRoad_23 : decode cX6_beginRoad 23 = .ok (.aload_n 0, 1) := by decide +kernel
theorem dX6_beginRoad_24 : decode cX6_beginRoad 24 = .ok (.getfield 64, 3) := by decide +kernel
theorem dX6_beginRoad_27 : decode cX6_beginRoad 27 = .ok (.iload_n 2, 1) := by decide +kernel
theorem dX6_beginRoad_28 : decode cX6_beginRoad 28 = .ok (.iastore, 1) := by decide +kernel
theorem dX6_beginRoad_29 : decode cX6_beginRoad 29 = .ok (.return_, 1) := by decide +kernel
theorem dX6_endRoad_0 : decode cX6_endRoad 0 = .ok (.aload_n 0, 1) := by decide +kernel
theorem dX6_endRoad_1 : decode cX6_endRoad 1 = .ok (.getfield 64, 3) := by decide +kernel
theorem dX6_endRoad_4 : decode cX6_endRoad 4 = .ok (.bipush 30, 2) := by decide +kernel
theorem dX6_endRoad_6 : decode cX6_endRoad 6 = .ok (.if_icmp .ge 102, 3) := by decide +kernel
theorem dX6_endRoad_9 : decode cX6_endRoad 9 = .ok (.aload_n 0, 1) := by decide +kernel
theorem dX6_endRoad_10 : decode cX6_endRoad 10 = .ok (.getfield 27, 3) := by decide +kernel
theorem dX6_endRoad_13 : decode cX6_endRoad 13 = .ok (.aload_n 0, 1) := by decide +kernel
theorem dX6_endRoad_14 : decode cX6_endRoad 14 = .ok (.getfield 64, 3) := by decide +kernel
theorem dX6_endRoad_17 : decode cX6_endRoad 17 = .ok (.iload_n 1, 1) := by decide +kernel
theorem dX6_endRoad_18 : decode cX6_endRoad 18 = .ok (.iastore, 1) := by decide +kernel
theorem dX6_endRoad_19 : decode cX6_endRoad 19 = .ok (.aload_n 0, 1) := by decide +kernel
theorem dX6_endRoad_20 : decode cX6_endRoad 20 = .ok (.getfield 30, 3) := by decide +kernel
theorem dX6_endRoad_23 : decode cX6_endRoad 23 = .ok (.aload_n 0, 1) := by decide +kernel
theorem dX6_endRoad_24 : decode cX6_endRoad 24 = .ok (.getfield 64, 3) := by decide +kernel
theorem dX6_endRoad_27 : decode cX6_endRoad 27 = .ok (.iload_n 2, 1) := by decide +kernel
theorem dX6_endRoad_28 : decode cX6_endRoad 28 = .ok (.iastore, 1) := by decide +kernel
theorem dX6_endRoad_29 : decode cX6_endRoad 29 = .ok (.aload_n 0, 1) := by decide +kernel
theorem dX6_endRoad_30 : decode cX6_endRoad 30 = .ok (.getfield 33, 3) := by decide +kernel
theorem dX6_endRoad_33 : decode cX6_endRoad 33 = .ok (.aload_n 0, 1) := by decide +kernel
theorem dX6_endRoad_34 : decode cX6_endRoad 34 = .ok (.getfield 64, 3) := by decide +kernel
theorem dX6_endRoad_37 : decode cX6_endRoad 37 = .ok (.aload_n 0, 1) := by decide +kernel
theorem dX6_endRoad_38 : decode cX6_endRoad 38 = .ok (.getfield 76, 3) := by decide +kernel
theorem dX6_endRoad_41 : decode cX6_endRoad 41 = .ok (.iastore, 1) := by decide +kernel
theorem dX6_endRoad_42 : decode cX6_endRoad 42 = .ok (.aload_n 0, 1) := by decide +kernel
theorem dX6_endRoad_43 : decode cX6_endRoad 43 = .ok (.getfield 38, 3) := by decide +kernel
theorem dX6_endRoad_46 : decode cX6_endRoad 46 = .ok (.aload_n 0, 1) := by decide +kernel
theorem dX6_endRoad_47 : decode cX6_endRoad 47 = .ok (.getfield 18, 3) := by decide +kernel
theorem dX6_endRoad_50 : decode cX6_endRoad 50 = .ok (.aload_n 0, 1) := by decide +kernel
theorem dX6_endRoad_51 : decode cX6_endRoad 51 = .ok (.getfield 64, 3) := by decide +kernel
theorem dX6_endRoad_54 : decode cX6_endRoad 54 = .ok (.iaload, 1) := by decide +kernel
theorem dX6_endRoad_55 : decode cX6_endRoad 55 = .ok (.aaload, 1) := by decide +kernel
theorem dX6_endRoad_56 : decode cX6_endRoad 56 = .ok (.aload_n 0, 1) := by decide +kernel
theorem dX6_endRoad_57 : decode cX6_endRoad 57 = .ok (.getfield 21, 3) := by decide +kernel
theorem dX6_endRoad_60 : decode cX6_endRoad 60 = .ok (.aload_n 0, 1) := by decide +kernel
theorem dX6_endRoad_61 : decode cX6_endRoad 61 = .ok (.getfield 64, 3) := by decide +kernel
theorem dX6_endRoad_64 : decode cX6_endRoad 64 = .ok (.iaload, 1) := by decide +kernel
theorem dX6_endRoad_65 : decode cX6_endRoad 65 = .ok (.aload_n 0, 1) := by decide +kernel
theorem dX6_endRoad_66 : decode cX6_endRoad 66 = .ok (.getfield 64, 3) := by decide +kernel
theorem dX6_endRoad_69 : decode cX6_endRoad 69 = .ok (.iastore, 1) := by decide +kernel
theorem dX6_endRoad_70 : decode cX6_endRoad 70 = .ok (.aload_n 0, 1) := by decide +kernel
theorem dX6_endRoad_71 : decode cX6_endRoad 71 = .ok (.getfield 38, 3) := by decide +kernel
theorem dX6_endRoad_74 : decode cX6_endRoad 74 = .ok (.aload_n 0, 1) := by decide +kernel
theorem dX6_endRoad_75 : decode cX6_endRoad 75 = .ok (.getfield 21, 3) := by decide +kernel
theorem dX6_endRoad_78 : decode cX6_endRoad 78 = .ok (.aload_n 0, 1) := by decide +kernel
theorem dX6_endRoad_79 : decode cX6_endRoad 79 = .ok (.getfield 64, 3) := by decide +kernel
theorem dX6_endRoad_82 : decode cX6_endRoad 82 = .ok (.iaload, 1) := by decide +kernel
theorem dX6_endRoad_83 : decode cX6_endRoad 83 = .ok (.aaload, 1) := by decide +kernel
theorem dX6_endRoad_84 : decode cX6_endRoad 84 = .ok (.aload_n 0, 1) := by decide +kernel
theorem dX6_endRoad_85 : decode cX6_endRoad 85 = .ok (.getfield 18, 3) := by decide +kernel
theorem dX6_endRoad_88 : decode cX6_endRoad 88 = .ok (.aload_n 0, 1) := by decide +kernel
theorem dX6_endRoad_89 : decode cX6_endRoad 89 = .ok (.getfield 64, 3) := by decide +kernel
theorem dX6_endRoad_92 : decode cX6_endRoad 92 = .ok (.iaload, 1) := by decide +kernel
theorem dX6_endRoad_93 : decode cX6_endRoad 93 = .ok (.aload_n 0, 1) := by decide +kernel
theorem dX6_endRoad_94 : decode cX6_endRoad 94 = .ok (.getfield 64, 3) := by decide +kernel
theorem dX6_endRoad_97 : decode cX6_endRoad 97 = .ok (.iastore, 1) := by decide +kernel
theorem dX6_endRoad_98 : decode cX6_endRoad 98 = .ok (.aload_n 0, 1) := by decide +kernel
theorem dX6_endRoad_99 : decode cX6_endRoad 99 = .ok (.dup, 1) := by decide +kernel
theorem dX6_endRoad_100 : decode cX6_endRoad 100 = .ok (.getfield 64, 3) := by decide +kernel
theorem dX6_endRoad_103 : decode cX6_endRoad 103 = .ok (.iconst 1, 1) := by decide +kernel
theorem dX6_endRoad_104 : decode cX6_endRoad 104 = .ok (.iadd, 1) := by decide +kernel
theorem dX6_endRoad_105 : decode cX6_endRoad 105 = .ok (.putfield 64, 3) := by decide +kernel
theorem dX6_endRoad_108 : decode cX6_endRoad 108 = .ok (.return_, 1) := by decide +kernel
theorem dX6_addTaste_0 : decode cX6_addTaste 0 = .ok (.aload_n 0, 1) := by decide +kernel
theorem dX6_addTaste_1 : decode cX6_addTaste 1 = .ok (.getfield 41, 3) := by decide +kernel
theorem dX6_addTaste_4 : decode cX6_addTaste 4 = .ok (.iload_n 1, 1) := by decide +kernel
theorem dX6_addTaste_5 : decode cX6_addTaste 5 = .ok (.aaload, 1) := by decide +kernel
theorem dX6_addTaste_6 : decode cX6_addTaste 6 = .ok (.iload_n 2, 1) := by decide +kernel
theorem dX6_addTaste_7 : decode cX6_addTaste 7 = .ok (.iload_n 3, 1) := by decide +kernel
theorem dX6_addTaste_8 : decode cX6_addTaste 8 = .ok (.iastore, 1) := by decide +kernel
theorem dX6_addTaste_9 : decode cX6_addTaste 9 = .ok (.aload_n 0, 1) := by decide +kernel
theorem dX6_addTaste_10 : decode cX6_addTaste 10 = .ok (.getfield 44, 3) := by decide +kernel
theorem dX6_addTaste_13 : decode cX6_addTaste 13 = .ok (.iload_n 1, 1) := by decide +kernel
theorem dX6_addTaste_14 : decode cX6_addTaste 14 = .ok (.bipush 12, 2) := by decide +kernel
theorem dX6_addTaste_16 : decode cX6_addTaste 16 = .ok (.imul, 1) := by decide +kernel
theorem dX6_addTaste_17 : decode cX6_addTaste 17 = .ok (.iload_n 2, 1) := by decide +kernel
theorem dX6_addTaste_18 : decode cX6_addTaste 18 = .ok (.iadd, 1) := by decide +kernel
theorem dX6_addTaste_19 : decode cX6_addTaste 19 = .ok (.iconst 1, 1) := by decide +kernel
theorem dX6_addTaste_20 : decode cX6_addTaste 20 = .ok (.bastore, 1) := by decide +kernel
theorem dX6_addTaste_21 : decode cX6_addTaste 21 = .ok (.aload_n 0, 1) := by decide +kernel
theorem dX6_addTaste_22 : decode cX6_addTaste 22 = .ok (.dup, 1) := by decide +kernel
theorem dX6_addTaste_23 : decode cX6_addTaste 23 = .ok (.getfield 67, 3) := by decide +kernel
theorem dX6_addTaste_26 : decode cX6_addTaste 26 = .ok (.iconst 1, 1) := by decide +kernel
theorem dX6_addTaste_27 : decode cX6_addTaste 27 = .ok (.iadd, 1) := by decide +kernel
theorem dX6_addTaste_28 : decode cX6_addTaste 28 = .ok (.putfield 67, 3) := by decide +kernel
theorem dX6_addTaste_31 : decode cX6_addTaste 31 = .ok (.return_, 1) := by decide +kernel
theorem dX6_addDoubt_0 : decode cX6_addDoubt 0 = .ok (.aload_n 0, 1) := by decide +kernel
theorem dX6_addDoubt_1 : decode cX6_addDoubt 1 = .ok (.getfield 38, 3) := by decide +kernel
theorem dX6_addDoubt_4 : decode cX6_addDoubt 4 = .ok (.iload_n 1, 1) := by decide +kernel
theorem dX6_addDoubt_5 : decode cX6_addDoubt 5 = .ok (.aaload, 1) := by decide +kernel
theorem dX6_addDoubt_6 : decode cX6_addDoubt 6 = .ok (.iload_n 2, 1) := by decide +kernel
theorem dX6_addDoubt_7 : decode cX6_addDoubt 7 = .ok (.iaload, 1) := by decide +kernel
theorem dX6_addDoubt_8 : decode cX6_addDoubt 8 = .ok (.istore 4, 2) := by decide +kernel
theorem dX6_addDoubt_10 : decode cX6_addDoubt 10 = .ok (.iload 4, 2) := by decide +kernel
theorem dX6_addDoubt_12 : decode cX6_addDoubt 12 = .ok (.iconst (-1), 1) := by decide +kernel
theorem dX6_addDoubt_13 : decode cX6_addDoubt 13 = .ok (.if_icmp .eq 21, 3) := by decide +kernel
theorem dX6_addDoubt_16 : decode cX6_addDoubt 16 = .ok (.aload_n 0, 1) := by decide +kernel
theorem dX6_addDoubt_17 : decode cX6_addDoubt 17 = .ok (.getfield 24, 3) := by decide +kernel
theorem dX6_addDoubt_20 : decode cX6_addDoubt 20 = .ok (.iload 4, 2) := by decide +kernel
theorem dX6_addDoubt_22 : decode cX6_addDoubt 22 = .ok (.iload_n 3, 1) := by decide +kernel
theorem dX6_addDoubt_23 : decode cX6_addDoubt 23 = .ok (.iastore, 1) := by decide +kernel
theorem dX6_addDoubt_24 : decode cX6_addDoubt 24 = .ok (.aload_n 0, 1) := by decide +kernel
theorem dX6_addDoubt_25 : decode cX6_addDoubt 25 = .ok (.dup, 1) := by decide +kernel
theorem dX6_addDoubt_26 : decode cX6_addDoubt 26 = .ok (.getfield 70, 3) := by decide +kernel
theorem dX6_addDoubt_29 : decode cX6_addDoubt 29 = .ok (.iconst 1, 1) := by decide +kernel
theorem dX6_addDoubt_30 : decode cX6_addDoubt 30 = .ok (.iadd, 1) := by decide +kernel
theorem dX6_addDoubt_31 : decode cX6_addDoubt 31 = .ok (.putfield 70, 3) := by decide +kernel
theorem dX6_addDoubt_34 : decode cX6_addDoubt 34 = .ok (.return_, 1) := by decide +kernel
theorem dX6_emit_0 : decode cX6_emit 0 = .ok (.aload_n 0, 1) := by decide +kernel
theorem dX6_emit_1 : decode cX6_emit 1 = .ok (.getfield 76, 3) := by decide +kernel
theorem dX6_emit_4 : decode cX6_emit 4 = .ok (.sipush 900, 3) := by decide +kernel
theorem dX6_emit_7 : decode cX6_emit 7 = .ok (.if_icmp .ge 23, 3) := by decide +kernel
theorem dX6_emit_10 : decode cX6_emit 10 = .ok (.aload_n 0, 1) := by decide +kernel
theorem dX6_emit_11 : decode cX6_emit 11 = .ok (.getfield 48, 3) := by decide +kernel
theorem dX6_emit_14 : decode cX6_emit 14 = .ok (.aload_n 0, 1) := by decide +kernel
theorem dX6_emit_15 : decode cX6_emit 15 = .ok (.getfield 76, 3) := by decide +kernel
theorem dX6_emit_18 : decode cX6_emit 18 = .ok (.iload_n 1, 1) := by decide +kernel
theorem dX6_emit_19 : decode cX6_emit 19 = .ok (.iastore, 1) := by decide +kernel
theorem dX6_emit_20 : decode cX6_emit 20 = .ok (.aload_n 0, 1) := by decide +kernel
theorem dX6_emit_21 : decode cX6_emit 21 = .ok (.dup, 1) := by decide +kernel
theorem dX6_emit_22 : decode cX6_emit 22 = .ok (.getfield 76, 3) := by decide +kernel
theorem dX6_emit_25 : decode cX6_emit 25 = .ok (.iconst 1, 1) := by decide +kernel
theorem dX6_emit_26 : decode cX6_emit 26 = .ok (.iadd, 1) := by decide +kernel
theorem dX6_emit_27 : decode cX6_emit 27 = .ok (.putfield 76, 3) := by decide +kernel
theorem dX6_emit_30 : decode cX6_emit 30 = .ok (.return_, 1) := by decide +kernel
theorem dX6_madeWith_0 : decode cX6_madeWith 0 = .ok (.aload_n 0, 1) := by decide +kernel
theorem dX6_madeWith_1 : decode cX6_madeWith 1 = .ok (.getfield 18, 3) := by decide +kernel
theorem dX6_madeWith_4 : decode cX6_madeWith 4 = .ok (.iload_n 1, 1) := by decide +kernel
theorem dX6_madeWith_5 : decode cX6_madeWith 5 = .ok (.iaload, 1) := by decide +kernel
theorem dX6_madeWith_6 : decode cX6_madeWith 6 = .ok (.istore_n 3, 1) := by decide +kernel
theorem dX6_madeWith_7 : decode cX6_madeWith 7 = .ok (.aload_n 0, 1) := by decide +kernel
theorem dX6_madeWith_8 : decode cX6_madeWith 8 = .ok (.getfield 21, 3) := by decide +kernel
theorem dX6_madeWith_11 : decode cX6_madeWith 11 = .ok (.iload_n 1, 1) := by decide +kernel
theorem dX6_madeWith_12 : decode cX6_madeWith 12 = .ok (.iaload, 1) := by decide +kernel
theorem dX6_madeWith_13 : decode cX6_madeWith 13 = .ok (.istore 4, 2) := by decide +kernel
theorem dX6_madeWith_15 : decode cX6_madeWith 15 = .ok (.iload_n 2, 1) := by decide +kernel
theorem dX6_madeWith_16 : decode cX6_madeWith 16 = .ok (.aload_n 0, 1) := by decide +kernel
theorem dX6_madeWith_17 : decode cX6_madeWith 17 = .ok (.getfield 41, 3) := by decide +kernel
theorem dX6_madeWith_20 : decode cX6_madeWith 20 = .ok (.iload_n 3, 1) := by decide +kernel
theorem dX6_madeWith_21 : decode cX6_madeWith 21 = .ok (.aaload, 1) := by decide +kernel
theorem dX6_madeWith_22 : decode cX6_madeWith 22 = .ok (.iload 4, 2) := by decide +kernel
theorem dX6_madeWith_24 : decode cX6_madeWith 24 = .ok (.iaload, 1) := by decide +kernel
theorem dX6_madeWith_25 : decode cX6_madeWith 25 = .ok (.iadd, 1) := by decide +kernel
theorem dX6_madeWith_26 : decode cX6_madeWith 26 = .ok (.aload_n 0, 1) := by decide +kernel
theorem dX6_madeWith_27 : decode cX6_madeWith 27 = .ok (.getfield 41, 3) := by decide +kernel
theorem dX6_madeWith_30 : decode cX6_madeWith 30 = .ok (.iload 4, 2) := by decide +kernel
theorem dX6_madeWith_32 : decode cX6_madeWith 32 = .ok (.aaload, 1) := by decide +kernel
theorem dX6_madeWith_33 : decode cX6_madeWith 33 = .ok (.iload_n 3, 1) := by decide +kernel
theorem dX6_madeWith_34 : decode cX6_madeWith 34 = .ok (.iaload, 1) := by decide +kernel
theorem dX6_madeWith_35 : decode cX6_madeWith 35 = .ok (.iadd, 1) := by decide +kernel
theorem dX6_madeWith_36 : decode cX6_madeWith 36 = .ok (.ireturn, 1) := by decide +kernel
set_option maxRecDepth 20000 in
theorem ggX6_gainWith_X6_madeWith : GoodIn wsX6_gainWith wsX6_madeWith := goodIn_r _ [8, 2, 3, 9, 10, 11, 12, 13, 14, 15, 16, 17, 18, 19, 20, 21, 22, 23, 24, 25, 26, 27, 28, 29] (by decide +kernel) (by decide +kernel)
set_option maxRecDepth 20000 in
theorem gX6_gainWith_X6_madeWith : GoodIn wsX6_gainWith (wsV RX6 79 RX6 yX6_madeWith wsX6_madeWith) := goodIn_app (goodIn_of _ (by decide +kernel)) ggX6_gainWith_X6_madeWith
theorem dX6_gainWith_0 : decode cX6_gainWith 0 = .ok (.aload_n 0, 1) := by decide +kernel
theorem dX6_gainWith_1 : decode cX6_gainWith 1 = .ok (.iload_n 1, 1) := by decide +kernel
theorem dX6_gainWith_2 : decode cX6_gainWith 2 = .ok (.iload_n 2, 1) := by decide +kernel
theorem dX6_gainWith_3 : decode cX6_gainWith 3 = .ok (.invokevirtual 79, 3) := by decide +kernel
theorem dX6_gainWith_6 : decode cX6_gainWith 6 = .ok (.aload_n 0, 1) := by decide +kernel
theorem dX6_gainWith_7 : decode cX6_gainWith 7 = .ok (.getfield 15, 3) := by decide +kernel
theorem dX6_gainWith_10 : decode cX6_gainWith 10 = .ok (.aload_n 0, 1) := by decide +kernel
theorem dX6_gainWith_11 : decode cX6_gainWith 11 = .ok (.getfield 18, 3) := by decide +kernel
theorem dX6_gainWith_14 : decode cX6_gainWith 14 = .ok (.iload_n 1, 1) := by decide +kernel
theorem dX6_gainWith_15 : decode cX6_gainWith 15 = .ok (.iaload, 1) := by decide +kernel
theorem dX6_gainWith_16 : decode cX6_gainWith 16 = .ok (.iaload, 1) := by decide +kernel
theorem dX6_gainWith_17 : decode cX6_gainWith 17 = .ok (.isub, 1) := by decide +kernel
theorem dX6_gainWith_18 : decode cX6_gainWith 18 = .ok (.aload_n 0, 1) := by decide +kernel
theorem dX6_gainWith_19 : decode cX6_gainWith 19 = .ok (.getfield 15, 3) := by decide +kernel
theorem dX6_gainWith_22 : decode cX6_gainWith 22 = .ok (.aload_n 0, 1) := by decide +kernel
theorem dX6_gainWith_23 : decode cX6_gainWith 23 = .ok (.getfield 21, 3) := by decide +kernel
theorem dX6_gainWith_26 : decode cX6_gainWith 26 = .ok (.iload_n 1, 1) := by decide +kernel
theorem dX6_gainWith_27 : decode cX6_gainWith 27 = .ok (.iaload, 1) := by decide +kernel
theorem dX6_gainWith_28 : decode cX6_gainWith 28 = .ok (.iaload, 1) := by decide +kernel
theorem dX6_gainWith_29 : decode cX6_gainWith 29 = .ok (.isub, 1) := by decide +kernel
theorem dX6_gainWith_30 : decode cX6_gainWith 30 = .ok (.ireturn, 1) := by decide +kernel
set_option maxRecDepth 20000 in
theorem ggX6_worthOn_X6_reckoned : GoodIn wsX6_worthOn wsX6_reckoned := goodIn_r _ [16, 17, 18, 19, 20, 21, 15, 22, 23, 24, 25, 26, 27, 28, 29, 30, 31, 32, 33, 34, 9, 10, 6, 11, 4, 5, 7, 35, 36, 37, 38, 39, 40, 41, 42, 43, 44, 45, 46, 47, 48, 49, 50, 51, 52, 53, 54, 55, 56, 57, 58, 59, 60, 61, 62, 63, 64, 65, 66] (by decide +kernel) (by decide +kernel)
set_option maxRecDepth 20000 in
theorem gX6_worthOn_X6_reckoned : GoodIn wsX6_worthOn (wsV RX6 83 RX6 yX6_reckoned wsX6_reckoned) := goodIn_app (goodIn_of _ (by decide +kernel)) ggX6_worthOn_X6_reckoned
theorem dX6_worthOn_0 : decode cX6_worthOn 0 = .ok (.aload_n 0, 1) := by decide +kernel
theorem dX6_worthOn_1 : decode cX6_worthOn 1 = .ok (.getfield 30, 3) := by decide +kernel
theorem dX6_worthOn_4 : decode cX6_worthOn 4 = .ok (.iload_n 1, 1) := by decide +kernel
theorem dX6_worthOn_5 : decode cX6_worthOn 5 = .ok (.iaload, 1) := by decide +kernel
theorem dX6_worthOn_6 : decode cX6_worthOn 6 = .ok (.aload_n 0, 1) := by decide +kernel
theorem dX6_worthOn_7 : decode cX6_worthOn 7 = .ok (.getfield 33, 3) := by decide +kernel
theorem dX6_worthOn_10 : decode cX6_worthOn 10 = .ok (.iload_n 1, 1) := by decide +kernel
theorem dX6_worthOn_11 : decode cX6_worthOn 11 = .ok (.iaload, 1) := by decide +kernel
theorem dX6_worthOn_12 : decode cX6_worthOn 12 = .ok (.if_icmp .ge 7, 3) := by decide +kernel
theorem dX6_worthOn_15 : decode cX6_worthOn 15 = .ok (.iconst 1, 1) := by decide +kernel
theorem dX6_worthOn_16 : decode cX6_worthOn 16 = .ok (.goto 4, 3) := by decide +kernel
theorem dX6_worthOn_19 : decode cX6_worthOn 19 = .ok (.iconst 0, 1) := by decide +kernel
theorem dX6_worthOn_20 : decode cX6_worthOn 20 = .ok (.istore_n 3, 1) := by decide +kernel
theorem dX6_worthOn_21 : decode cX6_worthOn 21 = .ok (.iload_n 3, 1) := by decide +kernel
theorem dX6_worthOn_22 : decode cX6_worthOn 22 = .ok (.ifCond .eq 25, 3) := by decide +kernel
theorem dX6_worthOn_25 : decode cX6_worthOn 25 = .ok (.aload_n 0, 1) := by decide +kernel
theorem dX6_worthOn_26 : decode cX6_worthOn 26 = .ok (.aload_n 0, 1) := by decide +kernel
theorem dX6_worthOn_27 : decode cX6_worthOn 27 = .ok (.getfield 30, 3) := by decide +kernel
theorem dX6_worthOn_30 : decode cX6_worthOn 30 = .ok (.iload_n 1, 1) := by decide +kernel
theorem dX6_worthOn_31 : decode cX6_worthOn 31 = .ok (.iaload, 1) := by decide +kernel
theorem dX6_worthOn_32 : decode cX6_worthOn 32 = .ok (.aload_n 0, 1) := by decide +kernel
theorem dX6_worthOn_33 : decode cX6_worthOn 33 = .ok (.getfield 33, 3) := by decide +kernel
theorem dX6_worthOn_36 : decode cX6_worthOn 36 = .ok (.iload_n 1, 1) := by decide +kernel
theorem dX6_worthOn_37 : decode cX6_worthOn 37 = .ok (.iaload, 1) := by decide +kernel
theorem dX6_worthOn_38 : decode cX6_worthOn 38 = .ok (.iload_n 2, 1) := by decide +kernel
theorem dX6_worthOn_39 : decode cX6_worthOn 39 = .ok (.invokevirtual 83, 3) := by decide +kernel
theorem dX6_worthOn_42 : decode cX6_worthOn 42 = .ok (.ifCond .ne 5, 3) := by decide +kernel
theorem dX6_worthOn_45 : decode cX6_worthOn 45 = .ok (.iconst (-1), 1) := by decide +kernel
theorem dX6_worthOn_46 : decode cX6_worthOn 46 = .ok (.ireturn, 1) := by decide +kernel
theorem dX6_worthOn_47 : decode cX6_worthOn 47 = .ok (.aload_n 0, 1) := by decide +kernel
theorem dX6_worthOn_48 : decode cX6_worthOn 48 = .ok (.aload_n 0, 1) := by decide +kernel
theorem dX6_worthOn_49 : decode cX6_worthOn 49 = .ok (.getfield 27, 3) := by decide +kernel
theorem dX6_worthOn_52 : decode cX6_worthOn 52 = .ok (.iload_n 1, 1) := by decide +kernel
theorem dX6_worthOn_53 : decode cX6_worthOn 53 = .ok (.iaload, 1) := by decide +kernel
theorem dX6_worthOn_54 : decode cX6_worthOn 54 = .ok (.aload_n 0, 1) := by decide +kernel
theorem dX6_worthOn_55 : decode cX6_worthOn 55 = .ok (.getfield 30, 3) := by decide +kernel
theorem dX6_worthOn_58 : decode cX6_worthOn 58 = .ok (.iload_n 1, 1) := by decide +kernel
theorem dX6_worthOn_59 : decode cX6_worthOn 59 = .ok (.iaload, 1) := by decide +kernel
theorem dX6_worthOn_60 : decode cX6_worthOn 60 = .ok (.iload_n 2, 1) := by decide +kernel
theorem dX6_worthOn_61 : decode cX6_worthOn 61 = .ok (.invokevirtual 83, 3) := by decide +kernel
theorem dX6_worthOn_64 : decode cX6_worthOn 64 = .ok (.iconst 0, 1) := by decide +kernel
theorem dX6_worthOn_65 : decode cX6_worthOn 65 = .ok (.invokestatic 87, 3) := by decide +kernel
theorem dX6_worthOn_68 : decode cX6_worthOn 68 = .ok (.ldc 92, 2) := by decide +kernel
theorem dX6_worthOn_70 : decode cX6_worthOn 70 = .ok (.invokestatic 93, 3) := by decide +kernel
theorem dX6_worthOn_73 : decode cX6_worthOn 73 = .ok (.ireturn, 1) := by decide +kernel
set_option maxRecDepth 20000 in
theorem ggX6_reckoned_X6_step : GoodIn wsX6_reckoned wsX6_step := goodIn_r _ [7, 8, 9, 10, 6, 11, 1, 12, 13, 14, 15, 16, 17, 18, 19, 20, 21, 22, 23, 24, 25, 26, 27, 28, 29, 30, 31, 32, 33, 34, 35, 36, 37, 38, 39, 40, 41, 42, 43, 44, 45, 46, 47, 48, 49, 50, 51, 52, 53, 54, 55, 56, 57, 58] (by decide +kernel) (by decide +kernel)
set_option maxRecDepth 20000 in
theorem gX6_reckoned_X6_step : GoodIn wsX6_reckoned (wsV RX6 99 RX6 yX6_step wsX6_step) := goodIn_app (goodIn_of _ (by decide +kernel)) ggX6_reckoned_X6_step
set_option maxRecDepth 20000 in
theorem ggX6_reckoned_X6_pop : GoodIn wsX6_reckoned wsX6_pop := goodIn_r _ [16, 1, 12, 39, 40, 41, 42, 43, 44, 45, 46, 47, 48, 49, 50, 51, 52, 53, 54, 55, 56, 57, 58] (by decide +kernel) (by decide +kernel)
set_option maxRecDepth 20000 in
theorem gX6_reckoned_X6_pop : GoodIn wsX6_reckoned (wsV RX6 103 RX6 yX6_pop wsX6_pop) := goodIn_app (goodIn_of _ (by decide +kernel)) ggX6_reckoned_X6_pop
theorem dX6_reckoned_0 : decode cX6_reckoned 0 = .ok (.aload_n 0, 1) := by decide +kernel
theorem dX6_reckoned_1 : decode cX6_reckoned 1 = .ok (.iconst 0, 1) := by decide +kernel
theorem dX6_reckoned_2 : decode cX6_reckoned 2 = .ok (.putfield 96, 3) := by decide +kernel
theorem dX6_reckoned_5 : decode cX6_reckoned 5 = .ok (.iload_n 1, 1) := by decide +kernel
theorem dX6_reckoned_6 : decode cX6_reckoned 6 = .ok (.istore 4, 2) := by decide +kernel
theorem dX6_reckoned_8 : decode cX6_reckoned 8 = .ok (.iload 4, 2) := by decide +kernel
theorem dX6_reckoned_10 : decode cX6_reckoned 10 = .ok (.iload_n 2, 1) := by decide +kernel
theorem dX6_reckoned_11 : decode cX6_reckoned 11 = .ok (.if_icmp .ge 29, 3) := by decide +kernel
theorem dX6_reckoned_14 : decode cX6_reckoned 14 = .ok (.iload 4, 2) := by decide +kernel
theorem dX6_reckoned_16 : decode cX6_reckoned 16 = .ok (.sipush 900, 3) := by decide +kernel
theorem dX6_reckoned_19 : decode cX6_reckoned 19 = .ok (.if_icmp .ge 21, 3) := by decide +kernel
theorem dX6_reckoned_22 : decode cX6_reckoned 22 = .ok (.aload_n 0, 1) := by decide +kernel
theorem dX6_reckoned_23 : decode cX6_reckoned 23 = .ok (.aload_n 0, 1) := by decide +kernel
theorem dX6_reckoned_24 : decode cX6_reckoned 24 = .ok (.getfield 48, 3) := by decide +kernel
theorem dX6_reckoned_27 : decode cX6_reckoned 27 = .ok (.iload 4, 2) := by decide +kernel
theorem dX6_reckoned_29 : decode cX6_reckoned 29 = .ok (.iaload, 1) := by decide +kernel
theorem dX6_reckoned_30 : decode cX6_reckoned 30 = .ok (.iload_n 3, 1) := by decide +kernel
theorem dX6_reckoned_31 : decode cX6_reckoned 31 = .ok (.invokevirtual 99, 3) := by decide +kernel
theorem dX6_reckoned_34 : decode cX6_reckoned 34 = .ok (.iinc 4 1, 3) := by decide +kernel
theorem dX6_reckoned_37 : decode cX6_reckoned 37 = .ok (.goto (-29), 3) := by decide +kernel
theorem dX6_reckoned_40 : decode cX6_reckoned 40 = .ok (.aload_n 0, 1) := by decide +kernel
theorem dX6_reckoned_41 : decode cX6_reckoned 41 = .ok (.invokevirtual 103, 3) := by decide +kernel
theorem dX6_reckoned_44 : decode cX6_reckoned 44 = .ok (.ireturn, 1) := by decide +kernel
set_option maxRecDepth 20000 in
theorem ggX6_step_X6_push : GoodIn wsX6_step wsX6_push := goodIn_r _ [5, 6, 7, 34, 35, 36, 37, 38, 39, 40, 41, 42, 43, 44, 45, 46, 47, 48, 49, 50, 51, 52, 53] (by decide +kernel) (by decide +kernel)
set_option maxRecDepth 20000 in
theorem gX6_step_X6_push : GoodIn wsX6_step (wsV RX6 107 RX6 yX6_push wsX6_push) := goodIn_app (goodIn_of _ (by decide +kernel)) ggX6_step_X6_push
set_option maxRecDepth 20000 in
theorem ggX6_step_X6_pop : GoodIn wsX6_step wsX6_pop := goodIn_r _ [11, 6, 7, 34, 35, 36, 37, 38, 39, 40, 41, 42, 43, 44, 45, 46, 47, 48, 49, 50, 51, 52, 53] (by decide +kernel) (by decide +kernel)
set_option maxRecDepth 20000 in
theorem gX6_step_X6_pop : GoodIn wsX6_step (wsV RX6 103 RX6 yX6_pop wsX6_pop) := goodIn_app (goodIn_of _ (by decide +kernel)) ggX6_step_X6_pop
set_option maxRecDepth 20000 in
theorem ggX6_step_X6_joined : GoodIn wsX6_step wsX6_joined := goodIn_r _ [14, 15, 16, 17, 18, 19, 20, 21, 22, 23, 4, 24, 25, 26, 27, 28, 29, 30, 31, 32, 33] (by decide +kernel) (by decide +kernel)
set_option maxRecDepth 20000 in
theorem gX6_step_X6_joined : GoodIn wsX6_step (va_wsS RX6 111 yX6_joined wsX6_joined) := goodIn_app (goodIn_of _ (by decide +kernel)) ggX6_step_X6_joined
theorem dX6_step_0 : decode cX6_step 0 = .ok (.iload_n 1, 1) := by decide +kernel
theorem dX6_step_1 : decode cX6_step 1 = .ok (.ineg, 1) := by decide +kernel
theorem dX6_step_2 : decode cX6_step 2 = .ok (.tableswitch 77 266 270 #[64, 77, 34, 42, 53], 34) := by decide +kernel
theorem dX6_step_36 : decode cX6_step 36 = .ok (.aload_n 0, 1) := by decide +kernel
theorem dX6_step_37 : decode cX6_step 37 = .ok (.iload_n 2, 1) := by decide +kernel
theorem dX6_step_38 : decode cX6_step 38 = .ok (.invokevirtual 107, 3) := by decide +kernel
theorem dX6_step_41 : decode cX6_step 41 = .ok (.goto 69, 3) := by decide +kernel
theorem dX6_step_44 : decode cX6_step 44 = .ok (.aload_n 0, 1) := by decide +kernel
theorem dX6_step_45 : decode cX6_step 45 = .ok (.iload_n 2, 1) := by decide +kernel
theorem dX6_step_46 : decode cX6_step 46 = .ok (.bipush 7, 2) := by decide +kernel
theorem dX6_step_48 : decode cX6_step 48 = .ok (.idiv, 1) := by decide +kernel
theorem dX6_step_49 : decode cX6_step 49 = .ok (.invokevirtual 107, 3) := by decide +kernel
theorem dX6_step_52 : decode cX6_step 52 = .ok (.goto 58, 3) := by decide +kernel
theorem dX6_step_55 : decode cX6_step 55 = .ok (.aload_n 0, 1) := by decide +kernel
theorem dX6_step_56 : decode cX6_step 56 = .ok (.iload_n 2, 1) := by decide +kernel
theorem dX6_step_57 : decode cX6_step 57 = .ok (.bipush 7, 2) := by decide +kernel
theorem dX6_step_59 : decode cX6_step 59 = .ok (.irem, 1) := by decide +kernel
theorem dX6_step_60 : decode cX6_step 60 = .ok (.invokevirtual 107, 3) := by decide +kernel
theorem dX6_step_63 : decode cX6_step 63 = .ok (.goto 47, 3) := by decide +kernel
theorem dX6_step_66 : decode cX6_step 66 = .ok (.aload_n 0, 1) := by decide +kernel
theorem dX6_step_67 : decode cX6_step 67 = .ok (.iconst 1, 1) := by decide +kernel
theorem dX6_step_68 : decode cX6_step 68 = .ok (.aload_n 0, 1) := by decide +kernel
theorem dX6_step_69 : decode cX6_step 69 = .ok (.invokevirtual 103, 3) := by decide +kernel
theorem dX6_step_72 : decode cX6_step 72 = .ok (.isub, 1) := by decide +kernel
theorem dX6_step_73 : decode cX6_step 73 = .ok (.invokevirtual 107, 3) := by decide +kernel
theorem dX6_step_76 : decode cX6_step 76 = .ok (.goto 34, 3) := by decide +kernel
theorem dX6_step_79 : decode cX6_step 79 = .ok (.iload_n 1, 1) := by decide +kernel
theorem dX6_step_80 : decode cX6_step 80 = .ok (.ifCond .lt 11, 3) := by decide +kernel
theorem dX6_step_83 : decode cX6_step 83 = .ok (.aload_n 0, 1) := by decide +kernel
theorem dX6_step_84 : decode cX6_step 84 = .ok (.iload_n 1, 1) := by decide +kernel
theorem dX6_step_85 : decode cX6_step 85 = .ok (.invokevirtual 107, 3) := by decide +kernel
theorem dX6_step_88 : decode cX6_step 88 = .ok (.goto 22, 3) := by decide +kernel
theorem dX6_step_91 : decode cX6_step 91 = .ok (.aload_n 0, 1) := by decide +kernel
theorem dX6_step_92 : decode cX6_step 92 = .ok (.invokevirtual 103, 3) := by decide +kernel
theorem dX6_step_95 : decode cX6_step 95 = .ok (.istore_n 3, 1) := by decide +kernel
theorem dX6_step_96 : decode cX6_step 96 = .ok (.aload_n 0, 1) := by decide +kernel
theorem dX6_step_97 : decode cX6_step 97 = .ok (.iload_n 1, 1) := by decide +kernel
theorem dX6_step_98 : decode cX6_step 98 = .ok (.ineg, 1) := by decide +kernel
theorem dX6_step_99 : decode cX6_step 99 = .ok (.aload_n 0, 1) := by decide +kernel
theorem dX6_step_100 : decode cX6_step 100 = .ok (.invokevirtual 103, 3) := by decide +kernel
theorem dX6_step_103 : decode cX6_step 103 = .ok (.iload_n 3, 1) := by decide +kernel
theorem dX6_step_104 : decode cX6_step 104 = .ok (.invokestatic 111, 3) := by decide +kernel
theorem dX6_step_107 : decode cX6_step 107 = .ok (.invokevirtual 107, 3) := by decide +kernel
theorem dX6_step_110 : decode cX6_step 110 = .ok (.return_, 1) := by decide +kernel
theorem dX6_push_0 : decode cX6_push 0 = .ok (.aload_n 0, 1) := by decide +kernel
theorem dX6_push_1 : decode cX6_push 1 = .ok (.getfield 96, 3) := by decide +kernel
theorem dX6_push_4 : decode cX6_push 4 = .ok (.bipush 64, 2) := by decide +kernel
theorem dX6_push_6 : decode cX6_push 6 = .ok (.if_icmp .ge 23, 3) := by decide +kernel
theorem dX6_push_9 : decode cX6_push 9 = .ok (.aload_n 0, 1) := by decide +kernel
theorem dX6_push_10 : decode cX6_push 10 = .ok (.getfield 51, 3) := by decide +kernel
theorem dX6_push_13 : decode cX6_push 13 = .ok (.aload_n 0, 1) := by decide +kernel
theorem dX6_push_14 : decode cX6_push 14 = .ok (.getfield 96, 3) := by decide +kernel
theorem dX6_push_17 : decode cX6_push 17 = .ok (.iload_n 1, 1) := by decide +kernel
theorem dX6_push_18 : decode cX6_push 18 = .ok (.iastore, 1) := by decide +kernel
theorem dX6_push_19 : decode cX6_push 19 = .ok (.aload_n 0, 1) := by decide +kernel
theorem dX6_push_20 : decode cX6_push 20 = .ok (.dup, 1) := by decide +kernel
theorem dX6_push_21 : decode cX6_push 21 = .ok (.getfield 96, 3) := by decide +kernel
theorem dX6_push_24 : decode cX6_push 24 = .ok (.iconst 1, 1) := by decide +kernel
theorem dX6_push_25 : decode cX6_push 25 = .ok (.iadd, 1) := by decide +kernel
theorem dX6_push_26 : decode cX6_push 26 = .ok (.putfield 96, 3) := by decide +kernel
theorem dX6_push_29 : decode cX6_push 29 = .ok (.return_, 1) := by decide +kernel
theorem dX6_pop_0 : decode cX6_pop 0 = .ok (.aload_n 0, 1) := by decide +kernel
theorem dX6_pop_1 : decode cX6_pop 1 = .ok (.getfield 96, 3) := by decide +kernel
theorem dX6_pop_4 : decode cX6_pop 4 = .ok (.ifCond .le 23, 3) := by decide +kernel
theorem dX6_pop_7 : decode cX6_pop 7 = .ok (.aload_n 0, 1) := by decide +kernel
theorem dX6_pop_8 : decode cX6_pop 8 = .ok (.dup, 1) := by decide +kernel
theorem dX6_pop_9 : decode cX6_pop 9 = .ok (.getfield 96, 3) := by decide +kernel
theorem dX6_pop_12 : decode cX6_pop 12 = .ok (.iconst 1, 1) := by decide +kernel
theorem dX6_pop_13 : decode cX6_pop 13 = .ok (.isub, 1) := by decide +kernel
theorem dX6_pop_14 : decode cX6_pop 14 = .ok (.putfield 96, 3) := by decide +kernel
theorem dX6_pop_17 : decode cX6_pop 17 = .ok (.aload_n 0, 1) := by decide +kernel
theorem dX6_pop_18 : decode cX6_pop 18 = .ok (.getfield 51, 3) := by decide +kernel
theorem dX6_pop_21 : decode cX6_pop 21 = .ok (.aload_n 0, 1) := by decide +kernel
theorem dX6_pop_22 : decode cX6_pop 22 = .ok (.getfield 96, 3) := by decide +kernel
theorem dX6_pop_25 : decode cX6_pop 25 = .ok (.iaload, 1) := by decide +kernel
theorem dX6_pop_26 : decode cX6_pop 26 = .ok (.ireturn, 1) := by decide +kernel
theorem dX6_pop_27 : decode cX6_pop 27 = .ok (.iconst 0, 1) := by decide +kernel
theorem dX6_pop_28 : decode cX6_pop 28 = .ok (.ireturn, 1) := by decide +kernel
set_option maxRecDepth 20000 in
theorem ggX6_joined_X6_capped : GoodIn wsX6_joined wsX6_capped := goodIn_r _ [11, 12, 13] (by decide +kernel) (by decide +kernel)
set_option maxRecDepth 20000 in
theorem gX6_joined_X6_capped : GoodIn wsX6_joined (va_wsS RX6 114 yX6_capped wsX6_capped) := goodIn_app (goodIn_of _ (by decide +kernel)) ggX6_joined_X6_capped
set_option maxRecDepth 20000 in
theorem ggX6_joined_J9_floorDiv_7cf53 : GoodIn wsX6_joined wsJ9_floorDiv_7cf53 := goodIn_r _ [17] (by decide +kernel) (by decide +kernel)
set_option maxRecDepth 20000 in
theorem gX6_joined_J9_floorDiv_7cf53 : GoodIn wsX6_joined (va_wsS RX6 118 yJ9_floorDiv_7cf53 wsJ9_floorDiv_7cf53) := goodIn_app (goodIn_of _ (by decide +kernel)) ggX6_joined_J9_floorDiv_7cf53
set_option maxRecDepth 20000 in
theorem ggX6_joined_J9_floorMod_7cf53 : GoodIn wsX6_joined wsJ9_floorMod_7cf53 := goodIn_r _ [20] (by decide +kernel) (by decide +kernel)
set_option maxRecDepth 20000 in
theorem gX6_joined_J9_floorMod_7cf53 : GoodIn wsX6_joined (va_wsS RX6 121 yJ9_floorMod_7cf53 wsJ9_floorMod_7cf53) := goodIn_app (goodIn_of _ (by decide +kernel)) ggX6_joined_J9_floorMod_7cf53
theorem dX6_joined_0 : decode cX6_joined 0 = .ok (.iload_n 0, 1) := by decide +kernel
theorem dX6_joined_1 : decode cX6_joined 1 = .ok (.lookupswitch 203 #[(37, 140), (42, 117), (43, 99), (45, 108), (47, 126), (60, 154), (61, 176), (62, 165), (265, 199), (271, 187), (272, 193)], 99) := by decide +kernel
theorem dX6_joined_100 : decode cX6_joined 100 = .ok (.iload_n 1, 1) := by decide +kernel
theorem dX6_joined_101 : decode cX6_joined 101 = .ok (.i2l, 1) := by decide +kernel
theorem dX6_joined_102 : decode cX6_joined 102 = .ok (.iload_n 2, 1) := by decide +kernel
theorem dX6_joined_103 : decode cX6_joined 103 = .ok (.i2l, 1) := by decide +kernel
theorem dX6_joined_104 : decode cX6_joined 104 = .ok (.ladd, 1) := by decide +kernel
theorem dX6_joined_105 : decode cX6_joined 105 = .ok (.invokestatic 114, 3) := by decide +kernel
theorem dX6_joined_108 : decode cX6_joined 108 = .ok (.ireturn, 1) := by decide +kernel
theorem dX6_joined_109 : decode cX6_joined 109 = .ok (.iload_n 1, 1) := by decide +kernel
theorem dX6_joined_110 : decode cX6_joined 110 = .ok (.i2l, 1) := by decide +kernel
theorem dX6_joined_111 : decode cX6_joined 111 = .ok (.iload_n 2, 1) := by decide +kernel
theorem dX6_joined_112 : decode cX6_joined 112 = .ok (.i2l, 1) := by decide +kernel
theorem dX6_joined_113 : decode cX6_joined 113 = .ok (.lsub, 1) := by decide +kernel
theorem dX6_joined_114 : decode cX6_joined 114 = .ok (.invokestatic 114, 3) := by decide +kernel
theorem dX6_joined_117 : decode cX6_joined 117 = .ok (.ireturn, 1) := by decide +kernel
theorem dX6_joined_118 : decode cX6_joined 118 = .ok (.iload_n 1, 1) := by decide +kernel
theorem dX6_joined_119 : decode cX6_joined 119 = .ok (.i2l, 1) := by decide +kernel
theorem dX6_joined_120 : decode cX6_joined 120 = .ok (.iload_n 2, 1) := by decide +kernel
theorem dX6_joined_121 : decode cX6_joined 121 = .ok (.i2l, 1) := by decide +kernel
theorem dX6_joined_122 : decode cX6_joined 122 = .ok (.lmul, 1) := by decide +kernel
theorem dX6_joined_123 : decode cX6_joined 123 = .ok (.invokestatic 114, 3) := by decide +kernel
theorem dX6_joined_126 : decode cX6_joined 126 = .ok (.ireturn, 1) := by decide +kernel
theorem dX6_joined_127 : decode cX6_joined 127 = .ok (.iload_n 2, 1) := by decide +kernel
theorem dX6_joined_128 : decode cX6_joined 128 = .ok (.ifCond .ne 7, 3) := by decide +kernel
theorem dX6_joined_131 : decode cX6_joined 131 = .ok (.iconst 0, 1) := by decide +kernel
theorem dX6_joined_132 : decode cX6_joined 132 = .ok (.goto 8, 3) := by decide +kernel
theorem dX6_joined_135 : decode cX6_joined 135 = .ok (.iload_n 1, 1) := by decide +kernel
theorem dX6_joined_136 : decode cX6_joined 136 = .ok (.iload_n 2, 1) := by decide +kernel
theorem dX6_joined_137 : decode cX6_joined 137 = .ok (.invokestatic 118, 3) := by decide +kernel
theorem dX6_joined_140 : decode cX6_joined 140 = .ok (.ireturn, 1) := by decide +kernel
theorem dX6_joined_141 : decode cX6_joined 141 = .ok (.iload_n 2, 1) := by decide +kernel
theorem dX6_joined_142 : decode cX6_joined 142 = .ok (.ifCond .ne 7, 3) := by decide +kernel
theorem dX6_joined_145 : decode cX6_joined 145 = .ok (.iconst 0, 1) := by decide +kernel
theorem dX6_joined_146 : decode cX6_joined 146 = .ok (.goto 8, 3) := by decide +kernel
theorem dX6_joined_149 : decode cX6_joined 149 = .ok (.iload_n 1, 1) := by decide +kernel
theorem dX6_joined_150 : decode cX6_joined 150 = .ok (.iload_n 2, 1) := by decide +kernel
theorem dX6_joined_151 : decode cX6_joined 151 = .ok (.invokestatic 121, 3) := by decide +kernel
theorem dX6_joined_154 : decode cX6_joined 154 = .ok (.ireturn, 1) := by decide +kernel
theorem dX6_joined_155 : decode cX6_joined 155 = .ok (.iload_n 1, 1) := by decide +kernel
theorem dX6_joined_156 : decode cX6_joined 156 = .ok (.iload_n 2, 1) := by decide +kernel
theorem dX6_joined_157 : decode cX6_joined 157 = .ok (.if_icmp .ge 7, 3) := by decide +kernel
theorem dX6_joined_160 : decode cX6_joined 160 = .ok (.iconst 1, 1) := by decide +kernel
theorem dX6_joined_161 : decode cX6_joined 161 = .ok (.goto 4, 3) := by decide +kernel
theorem dX6_joined_164 : decode cX6_joined 164 = .ok (.iconst 0, 1) := by decide +kernel
theorem dX6_joined_165 : decode cX6_joined 165 = .ok (.ireturn, 1) := by decide +kernel
theorem dX6_joined_166 : decode cX6_joined 166 = .ok (.iload_n 1, 1) := by decide +kernel
theorem dX6_joined_167 : decode cX6_joined 167 = .ok (.iload_n 2, 1) := by decide +kernel
theorem dX6_joined_168 : decode cX6_joined 168 = .ok (.if_icmp .le 7, 3) := by decide +kernel
theorem dX6_joined_171 : decode cX6_joined 171 = .ok (.iconst 1, 1) := by decide +kernel
theorem dX6_joined_172 : decode cX6_joined 172 = .ok (.goto 4, 3) := by decide +kernel
theorem dX6_joined_175 : decode cX6_joined 175 = .ok (.iconst 0, 1) := by decide +kernel
theorem dX6_joined_176 : decode cX6_joined 176 = .ok (.ireturn, 1) := by decide +kernel
theorem dX6_joined_177 : decode cX6_joined 177 = .ok (.iload_n 1, 1) := by decide +kernel
theorem dX6_joined_178 : decode cX6_joined 178 = .ok (.iload_n 2, 1) := by decide +kernel
theorem dX6_joined_179 : decode cX6_joined 179 = .ok (.if_icmp .ne 7, 3) := by decide +kernel
theorem dX6_joined_182 : decode cX6_joined 182 = .ok (.iconst 1, 1) := by decide +kernel
theorem dX6_joined_183 : decode cX6_joined 183 = .ok (.goto 4, 3) := by decide +kernel
theorem dX6_joined_186 : decode cX6_joined 186 = .ok (.iconst 0, 1) := by decide +kernel
theorem dX6_joined_187 : decode cX6_joined 187 = .ok (.ireturn, 1) := by decide +kernel
theorem dX6_joined_188 : decode cX6_joined 188 = .ok (.iload_n 1, 1) := by decide +kernel
theorem dX6_joined_189 : decode cX6_joined 189 = .ok (.iload_n 2, 1) := by decide +kernel
theorem dX6_joined_190 : decode cX6_joined 190 = .ok (.invokestatic 93, 3) := by decide +kernel
theorem dX6_joined_193 : decode cX6_joined 193 = .ok (.ireturn, 1) := by decide +kernel
theorem dX6_joined_194 : decode cX6_joined 194 = .ok (.iload_n 1, 1) := by decide +kernel
theorem dX6_joined_195 : decode cX6_joined 195 = .ok (.iload_n 2, 1) := by decide +kernel
theorem dX6_joined_196 : decode cX6_joined 196 = .ok (.invokestatic 87, 3) := by decide +kernel
theorem dX6_joined_199 : decode cX6_joined 199 = .ok (.ireturn, 1) := by decide +kernel
theorem dX6_joined_200 : decode cX6_joined 200 = .ok (.iload_n 1, 1) := by decide +kernel
theorem dX6_joined_201 : decode cX6_joined 201 = .ok (.iload_n 2, 1) := by decide +kernel
theorem dX6_joined_202 : decode cX6_joined 202 = .ok (.iand, 1) := by decide +kernel
theorem dX6_joined_203 : decode cX6_joined 203 = .ok (.ireturn, 1) := by decide +kernel
theorem dX6_joined_204 : decode cX6_joined 204 = .ok (.iload_n 1, 1) := by decide +kernel
theorem dX6_joined_205 : decode cX6_joined 205 = .ok (.iload_n 2, 1) := by decide +kernel
theorem dX6_joined_206 : decode cX6_joined 206 = .ok (.ior, 1) := by decide +kernel
theorem dX6_joined_207 : decode cX6_joined 207 = .ok (.ireturn, 1) := by decide +kernel
theorem dX6_capped_0 : decode cX6_capped 0 = .ok (.lload_n 0, 1) := by decide +kernel
theorem dX6_capped_1 : decode cX6_capped 1 = .ok (.ldc2_w 124, 3) := by decide +kernel
theorem dX6_capped_4 : decode cX6_capped 4 = .ok (.lcmp, 1) := by decide +kernel
theorem dX6_capped_5 : decode cX6_capped 5 = .ok (.ifCond .le 9, 3) := by decide +kernel
theorem dX6_capped_8 : decode cX6_capped 8 = .ok (.ldc2_w 124, 3) := by decide +kernel
theorem dX6_capped_11 : decode cX6_capped 11 = .ok (.goto 18, 3) := by decide +kernel
theorem dX6_capped_14 : decode cX6_capped 14 = .ok (.lload_n 0, 1) := by decide +kernel
theorem dX6_capped_15 : decode cX6_capped 15 = .ok (.ldc2_w 126, 3) := by decide +kernel
theorem dX6_capped_18 : decode cX6_capped 18 = .ok (.lcmp, 1) := by decide +kernel
theorem dX6_capped_19 : decode cX6_capped 19 = .ok (.ifCond .ge 9, 3) := by decide +kernel
theorem dX6_capped_22 : decode cX6_capped 22 = .ok (.ldc2_w 126, 3) := by decide +kernel
theorem dX6_capped_25 : decode cX6_capped 25 = .ok (.goto 4, 3) := by decide +kernel
theorem dX6_capped_28 : decode cX6_capped 28 = .ok (.lload_n 0, 1) := by decide +kernel
theorem dX6_capped_29 : decode cX6_capped 29 = .ok (.l2i, 1) := by decide +kernel
theorem dX6_capped_30 : decode cX6_capped 30 = .ok (.ireturn, 1) := by decide +kernel
set_option maxRecDepth 20000 in
theorem ggX7_init_X1_init : GoodIn wsX7_init wsX1_init := goodIn_r _ [17, 18, 2, 3, 19, 8, 20, 21, 22] (by decide +kernel) (by decide +kernel)
set_option maxRecDepth 20000 in
theorem gX7_init_X1_init_n11 : GoodIn wsX7_init (wsX1_init) := ggX7_init_X1_init
theorem dX7_init_0 : decode cX7_init 0 = .ok (.aload_n 0, 1) := by decide +kernel
theorem dX7_init_1 : decode cX7_init 1 = .ok (.invokespecial 3, 3) := by decide +kernel
theorem dX7_init_4 : decode cX7_init 4 = .ok (.aload_n 0, 1) := by decide +kernel
theorem dX7_init_5 : decode cX7_init 5 = .ok (.new 9, 3) := by decide +kernel
theorem dX7_init_8 : decode cX7_init 8 = .ok (.dup, 1) := by decide +kernel
theorem dX7_init_9 : decode cX7_init 9 = .ok (.invokespecial 11, 3) := by decide +kernel
theorem dX7_init_12 : decode cX7_init 12 = .ok (.putfield 12, 3) := by decide +kernel
theorem dX7_init_15 : decode cX7_init 15 = .ok (.aload_n 0, 1) := by decide +kernel
theorem dX7_init_16 : decode cX7_init 16 = .ok (.sipush 4096, 3) := by decide +kernel
theorem dX7_init_19 : decode cX7_init 19 = .ok (.newarray .int, 2) := by decide +kernel
theorem dX7_init_21 : decode cX7_init 21 = .ok (.putfield 18, 3) := by decide +kernel
theorem dX7_init_24 : decode cX7_init 24 = .ok (.aload_n 0, 1) := by decide +kernel
theorem dX7_init_25 : decode cX7_init 25 = .ok (.bipush 30, 2) := by decide +kernel
theorem dX7_init_27 : decode cX7_init 27 = .ok (.newarray .int, 2) := by decide +kernel
theorem dX7_init_29 : decode cX7_init 29 = .ok (.putfield 22, 3) := by decide +kernel
theorem dX7_init_32 : decode cX7_init 32 = .ok (.aload_n 0, 1) := by decide +kernel
theorem dX7_init_33 : decode cX7_init 33 = .ok (.bipush 6, 2) := by decide +kernel
theorem dX7_init_35 : decode cX7_init 35 = .ok (.newarray .int, 2) := by decide +kernel
theorem dX7_init_37 : decode cX7_init 37 = .ok (.putfield 25, 3) := by decide +kernel
theorem dX7_init_40 : decode cX7_init 40 = .ok (.aload_n 0, 1) := by decide +kernel
theorem dX7_init_41 : decode cX7_init 41 = .ok (.aload_n 1, 1) := by decide +kernel
theorem dX7_init_42 : decode cX7_init 42 = .ok (.putfield 28, 3) := by decide +kernel
theorem dX7_init_45 : decode cX7_init 45 = .ok (.aload_n 0, 1) := by decide +kernel
theorem dX7_init_46 : decode cX7_init 46 = .ok (.aload_n 2, 1) := by decide +kernel
theorem dX7_init_47 : decode cX7_init 47 = .ok (.putfield 32, 3) := by decide +kernel
theorem dX7_init_50 : decode cX7_init 50 = .ok (.aload_n 0, 1) := by decide +kernel
theorem dX7_init_51 : decode cX7_init 51 = .ok (.aload_n 1, 1) := by decide +kernel
theorem dX7_init_52 : decode cX7_init 52 = .ok (.getfield 36, 3) := by decide +kernel
theorem dX7_init_55 : decode cX7_init 55 = .ok (.putfield 42, 3) := by decide +kernel
theorem dX7_init_58 : decode cX7_init 58 = .ok (.return_, 1) := by decide +kernel
set_option maxRecDepth 20000 in
theorem ggX7_take_X10_gainOf : GoodIn wsX7_take wsX10_gainOf := goodIn_r _ [18, 19, 20, 21, 22, 23, 78, 79, 80, 81, 82, 83, 84, 85, 86, 87, 88, 89, 90, 91, 92, 93, 94, 95, 96, 97, 98, 99, 100] (by decide +kernel) (by decide +kernel)
set_option maxRecDepth 20000 in
theorem gX7_take_X10_gainOf : GoodIn wsX7_take (wsV RX7 53 RX10 yX10_gainOf wsX10_gainOf) := goodIn_app (goodIn_of _ (by decide +kernel)) ggX7_take_X10_gainOf
set_option maxRecDepth 20000 in
theorem ggX7_take_X6_gainWith : GoodIn wsX7_take wsX6_gainWith := goodIn_r _ [28, 29, 30, 31, 32, 33, 34, 27, 35, 36, 81, 82, 83, 84, 85, 86, 87, 88, 89, 90, 91, 92, 93, 94, 95, 96, 97, 98, 99, 100] (by decide +kernel) (by decide +kernel)
set_option maxRecDepth 20000 in
theorem gX7_take_X6_gainWith : GoodIn wsX7_take (wsV RX7 57 RX6 yX6_gainWith wsX6_gainWith) := goodIn_app (goodIn_of _ (by decide +kernel)) ggX7_take_X6_gainWith
set_option maxRecDepth 20000 in
theorem ggX7_take_X7_fillBest : GoodIn wsX7_take wsX7_fillBest := goodIn_r _ [41, 42, 43, 44, 45, 46, 7, 8, 9, 10, 47, 48, 49, 40, 50, 3, 51, 6, 67, 68, 69, 70, 71, 72, 73, 74, 75, 76, 77, 81, 82, 83, 84, 85, 86, 87, 88, 89, 90, 91, 92, 93, 94, 95, 96, 97, 98, 99, 100] (by decide +kernel) (by decide +kernel)
set_option maxRecDepth 20000 in
theorem gX7_take_X7_fillBest : GoodIn wsX7_take (wsV RX7 69 RX7 yX7_fillBest wsX7_fillBest) := goodIn_app (goodIn_of _ (by decide +kernel)) ggX7_take_X7_fillBest
set_option maxRecDepth 20000 in
theorem ggX7_take_X7_fillRow : GoodIn wsX7_take wsX7_fillRow := goodIn_r _ [55, 56, 3, 4, 6, 57, 42, 58, 59, 60, 27, 61, 62, 63, 64, 65, 66, 30, 31, 67, 68, 69, 70, 71, 72, 73, 74, 75, 76, 77, 81, 82, 83, 84, 85, 86, 87, 88, 89, 90, 91, 92, 93, 94, 95, 96, 97, 98, 99, 100] (by decide +kernel) (by decide +kernel)
set_option maxRecDepth 20000 in
theorem gX7_take_X7_fillRow : GoodIn wsX7_take (wsV RX7 73 RX7 yX7_fillRow wsX7_fillRow) := goodIn_app (goodIn_of _ (by decide +kernel)) ggX7_take_X7_fillRow
theorem dX7_take_0 : decode cX7_take 0 = .ok (.aload_n 0, 1) := by decide +kernel
theorem dX7_take_1 : decode cX7_take 1 = .ok (.aload_n 0, 1) := by decide +kernel
theorem dX7_take_2 : decode cX7_take 2 = .ok (.getfield 28, 3) := by decide +kernel
theorem dX7_take_5 : decode cX7_take 5 = .ok (.getfield 36, 3) := by decide +kernel
theorem dX7_take_8 : decode cX7_take 8 = .ok (.putfield 42, 3) := by decide +kernel
theorem dX7_take_11 : decode cX7_take 11 = .ok (.iconst 0, 1) := by decide +kernel
theorem dX7_take_12 : decode cX7_take 12 = .ok (.istore_n 3, 1) := by decide +kernel
theorem dX7_take_13 : decode cX7_take 13 = .ok (.iload_n 3, 1) := by decide +kernel
theorem dX7_take_14 : decode cX7_take 14 = .ok (.aload_n 0, 1) := by decide +kernel
theorem dX7_take_15 : decode cX7_take 15 = .ok (.getfield 42, 3) := by decide +kernel
theorem dX7_take_18 : decode cX7_take 18 = .ok (.getfield 43, 3) := by decide +kernel
theorem dX7_take_21 : decode cX7_take 21 = .ok (.if_icmp .ge 72, 3) := by decide +kernel
theorem dX7_take_24 : decode cX7_take 24 = .ok (.aload_n 0, 1) := by decide +kernel
theorem dX7_take_25 : decode cX7_take 25 = .ok (.getfield 28, 3) := by decide +kernel
theorem dX7_take_28 : decode cX7_take 28 = .ok (.getfield 49, 3) := by decide +kernel
theorem dX7_take_31 : decode cX7_take 31 = .ok (.iload_n 3, 1) := by decide +kernel
theorem dX7_take_32 : decode cX7_take 32 = .ok (.baload, 1) := by decide +kernel
theorem dX7_take_33 : decode cX7_take 33 = .ok (.ifCond .eq 14, 3) := by decide +kernel
theorem dX7_take_36 : decode cX7_take 36 = .ok (.aload_n 0, 1) := by decide +kernel
theorem dX7_take_37 : decode cX7_take 37 = .ok (.getfield 28, 3) := by decide +kernel
theorem dX7_take_40 : decode cX7_take 40 = .ok (.iload_n 3, 1) := by decide +kernel
theorem dX7_take_41 : decode cX7_take 41 = .ok (.invokevirtual 53, 3) := by decide +kernel
theorem dX7_take_44 : decode cX7_take 44 = .ok (.goto 4, 3) := by decide +kernel
theorem dX7_take_47 : decode cX7_take 47 = .ok (.iconst 0, 1) := by decide +kernel
theorem dX7_take_48 : decode cX7_take 48 = .ok (.istore 4, 2) := by decide +kernel
theorem dX7_take_50 : decode cX7_take 50 = .ok (.iload_n 3, 1) := by decide +kernel
theorem dX7_take_51 : decode cX7_take 51 = .ok (.iload_n 1, 1) := by decide +kernel
theorem dX7_take_52 : decode cX7_take 52 = .ok (.if_icmp .ne 23, 3) := by decide +kernel
theorem dX7_take_55 : decode cX7_take 55 = .ok (.iload_n 2, 1) := by decide +kernel
theorem dX7_take_56 : decode cX7_take 56 = .ok (.iconst (-1), 1) := by decide +kernel
theorem dX7_take_57 : decode cX7_take 57 = .ok (.if_icmp .ne 7, 3) := by decide +kernel
theorem dX7_take_60 : decode cX7_take 60 = .ok (.iconst 0, 1) := by decide +kernel
theorem dX7_take_61 : decode cX7_take 61 = .ok (.goto 12, 3) := by decide +kernel
theorem dX7_take_64 : decode cX7_take 64 = .ok (.aload_n 0, 1) := by decide +kernel
theorem dX7_take_65 : decode cX7_take 65 = .ok (.getfield 42, 3) := by decide +kernel
theorem dX7_take_68 : decode cX7_take 68 = .ok (.iload_n 3, 1) := by decide +kernel
theorem dX7_take_69 : decode cX7_take 69 = .ok (.iload_n 2, 1) := by decide +kernel
theorem dX7_take_70 : decode cX7_take 70 = .ok (.invokevirtual 57, 3) := by decide +kernel
theorem dX7_take_73 : decode cX7_take 73 = .ok (.istore 4, 2) := by decide +kernel
theorem dX7_take_75 : decode cX7_take 75 = .ok (.aload_n 0, 1) := by decide +kernel
theorem dX7_take_76 : decode cX7_take 76 = .ok (.getfield 22, 3) := by decide +kernel
theorem dX7_take_79 : decode cX7_take 79 = .ok (.iload_n 3, 1) := by decide +kernel
theorem dX7_take_80 : decode cX7_take 80 = .ok (.iconst 0, 1) := by decide +kernel
theorem dX7_take_81 : decode cX7_take 81 = .ok (.iload 4, 2) := by decide +kernel
theorem dX7_take_83 : decode cX7_take 83 = .ok (.invokestatic 61, 3) := by decide +kernel
theorem dX7_take_86 : decode cX7_take 86 = .ok (.iastore, 1) := by decide +kernel
theorem dX7_take_87 : decode cX7_take 87 = .ok (.iinc 3 1, 3) := by decide +kernel
theorem dX7_take_90 : decode cX7_take 90 = .ok (.goto (-77), 3) := by decide +kernel
theorem dX7_take_93 : decode cX7_take 93 = .ok (.iconst 0, 1) := by decide +kernel
theorem dX7_take_94 : decode cX7_take 94 = .ok (.istore_n 3, 1) := by decide +kernel
theorem dX7_take_95 : decode cX7_take 95 = .ok (.iload_n 3, 1) := by decide +kernel
theorem dX7_take_96 : decode cX7_take 96 = .ok (.aload_n 0, 1) := by decide +kernel
theorem dX7_take_97 : decode cX7_take 97 = .ok (.getfield 42, 3) := by decide +kernel
theorem dX7_take_100 : decode cX7_take 100 = .ok (.getfield 66, 3) := by decide +kernel
theorem dX7_take_103 : decode cX7_take 103 = .ok (.if_icmp .ge 14, 3) := by decide +kernel
theorem dX7_take_106 : decode cX7_take 106 = .ok (.aload_n 0, 1) := by decide +kernel
theorem dX7_take_107 : decode cX7_take 107 = .ok (.iload_n 3, 1) := by decide +kernel
theorem dX7_take_108 : decode cX7_take 108 = .ok (.invokevirtual 69, 3) := by decide +kernel
theorem dX7_take_111 : decode cX7_take 111 = .ok (.iinc 3 1, 3) := by decide +kernel
theorem dX7_take_114 : decode cX7_take 114 = .ok (.goto (-19), 3) := by decide +kernel
theorem dX7_take_117 : decode cX7_take 117 = .ok (.aload_n 0, 1) := by decide +kernel
theorem dX7_take_118 : decode cX7_take 118 = .ok (.invokevirtual 73, 3) := by decide +kernel
theorem dX7_take_121 : decode cX7_take 121 = .ok (.aload_n 0, 1) := by decide +kernel
theorem dX7_take_122 : decode cX7_take 122 = .ok (.iconst 1, 1) := by decide +kernel
theorem dX7_take_123 : decode cX7_take 123 = .ok (.putfield 76, 3) := by decide +kernel
theorem dX7_take_126 : decode cX7_take 126 = .ok (.aload_n 0, 1) := by decide +kernel
theorem dX7_take_127 : decode cX7_take 127 = .ok (.iconst 1, 1) := by decide +kernel
theorem dX7_take_128 : decode cX7_take 128 = .ok (.putfield 80, 3) := by decide +kernel
theorem dX7_take_131 : decode cX7_take 131 = .ok (.return_, 1) := by decide +kernel
theorem dX7_mostOf_0 : decode cX7_mostOf 0 = .ok (.iload_n 1, 1) := by decide +kernel
theorem dX7_mostOf_1 : decode cX7_mostOf 1 = .ok (.ifCond .lt 19, 3) := by decide +kernel
theorem dX7_mostOf_4 : decode cX7_mostOf 4 = .ok (.iload_n 1, 1) := by decide +kernel
theorem dX7_mostOf_5 : decode cX7_mostOf 5 = .ok (.sipush 4096, 3) := by decide +kernel
theorem dX7_mostOf_8 : decode cX7_mostOf 8 = .ok (.if_icmp .ge 12, 3) := by decide +kernel
theorem dX7_mostOf_11 : decode cX7_mostOf 11 = .ok (.aload_n 0, 1) := by decide +kernel
theorem dX7_mostOf_12 : decode cX7_mostOf 12 = .ok (.getfield 18, 3) := by decide +kernel
theorem dX7_mostOf_15 : decode cX7_mostOf 15 = .ok (.iload_n 1, 1) := by decide +kernel
theorem dX7_mostOf_16 : decode cX7_mostOf 16 = .ok (.iaload, 1) := by decide +kernel
theorem dX7_mostOf_17 : decode cX7_mostOf 17 = .ok (.goto 4, 3) := by decide +kernel
theorem dX7_mostOf_20 : decode cX7_mostOf 20 = .ok (.iconst 0, 1) := by decide +kernel
theorem dX7_mostOf_21 : decode cX7_mostOf 21 = .ok (.ireturn, 1) := by decide +kernel
theorem dX7_gainOfTwo_0 : decode cX7_gainOfTwo 0 = .ok (.aload_n 0, 1) := by decide +kernel
theorem dX7_gainOfTwo_1 : decode cX7_gainOfTwo 1 = .ok (.getfield 42, 3) := by decide +kernel
theorem dX7_gainOfTwo_4 : decode cX7_gainOfTwo 4 = .ok (.getfield 83, 3) := by decide +kernel
theorem dX7_gainOfTwo_7 : decode cX7_gainOfTwo 7 = .ok (.iload_n 1, 1) := by decide +kernel
theorem dX7_gainOfTwo_8 : decode cX7_gainOfTwo 8 = .ok (.aaload, 1) := by decide +kernel
theorem dX7_gainOfTwo_9 : decode cX7_gainOfTwo 9 = .ok (.iload_n 2, 1) := by decide +kernel
theorem dX7_gainOfTwo_10 : decode cX7_gainOfTwo 10 = .ok (.iaload, 1) := by decide +kernel
theorem dX7_gainOfTwo_11 : decode cX7_gainOfTwo 11 = .ok (.istore_n 3, 1) := by decide +kernel
theorem dX7_gainOfTwo_12 : decode cX7_gainOfTwo 12 = .ok (.iload_n 3, 1) := by decide +kernel
theorem dX7_gainOfTwo_13 : decode cX7_gainOfTwo 13 = .ok (.iconst (-1), 1) := by decide +kernel
theorem dX7_gainOfTwo_14 : decode cX7_gainOfTwo 14 = .ok (.if_icmp .ne 7, 3) := by decide +kernel
theorem dX7_gainOfTwo_17 : decode cX7_gainOfTwo 17 = .ok (.iconst 0, 1) := by decide +kernel
theorem dX7_gainOfTwo_18 : decode cX7_gainOfTwo 18 = .ok (.goto 9, 3) := by decide +kernel
theorem dX7_gainOfTwo_21 : decode cX7_gainOfTwo 21 = .ok (.aload_n 0, 1) := by decide +kernel
theorem dX7_gainOfTwo_22 : decode cX7_gainOfTwo 22 = .ok (.getfield 22, 3) := by decide +kernel
theorem dX7_gainOfTwo_25 : decode cX7_gainOfTwo 25 = .ok (.iload_n 3, 1) := by decide +kernel
theorem dX7_gainOfTwo_26 : decode cX7_gainOfTwo 26 = .ok (.iaload, 1) := by decide +kernel
theorem dX7_gainOfTwo_27 : decode cX7_gainOfTwo 27 = .ok (.ireturn, 1) := by decide +kernel
set_option maxRecDepth 20000 in
theorem ggX7_fillBest_X7_gainOfTwo : GoodIn wsX7_fillBest wsX7_gainOfTwo := goodIn_r _ [14, 15, 16, 17, 18, 19, 20, 21, 22, 23, 24, 25, 26, 27, 28, 29, 30, 31, 32, 33, 34, 35, 36, 37, 38, 39, 40, 41, 42, 43, 44, 45, 46, 47, 48] (by decide +kernel) (by decide +kernel)
set_option maxRecDepth 20000 in
theorem gX7_fillBest_X7_gainOfTwo : GoodIn wsX7_fillBest (wsV RX7 93 RX7 yX7_gainOfTwo wsX7_gainOfTwo) := goodIn_app (goodIn_of _ (by decide +kernel)) ggX7_fillBest_X7_gainOfTwo
theorem dX7_fillBest_0 : decode cX7_fillBest 0 = .ok (.iconst 1, 1) := by decide +kernel
theorem dX7_fillBest_1 : decode cX7_fillBest 1 = .ok (.iload_n 1, 1) := by decide +kernel
theorem dX7_fillBest_2 : decode cX7_fillBest 2 = .ok (.ishl, 1) := by decide +kernel
theorem dX7_fillBest_3 : decode cX7_fillBest 3 = .ok (.istore_n 2, 1) := by decide +kernel
theorem dX7_fillBest_4 : decode cX7_fillBest 4 = .ok (.aload_n 0, 1) := by decide +kernel
theorem dX7_fillBest_5 : decode cX7_fillBest 5 = .ok (.getfield 18, 3) := by decide +kernel
theorem dX7_fillBest_8 : decode cX7_fillBest 8 = .ok (.iconst 0, 1) := by decide +kernel
theorem dX7_fillBest_9 : decode cX7_fillBest 9 = .ok (.aload_n 0, 1) := by decide +kernel
theorem dX7_fillBest_10 : decode cX7_fillBest 10 = .ok (.getfield 18, 3) := by decide +kernel
theorem dX7_fillBest_13 : decode cX7_fillBest 13 = .ok (.iload_n 2, 1) := by decide +kernel
theorem dX7_fillBest_14 : decode cX7_fillBest 14 = .ok (.iload_n 2, 1) := by decide +kernel
theorem dX7_fillBest_15 : decode cX7_fillBest 15 = .ok (.invokestatic 87, 3) := by decide +kernel
theorem dX7_fillBest_18 : decode cX7_fillBest 18 = .ok (.iconst 0, 1) := by decide +kernel
theorem dX7_fillBest_19 : decode cX7_fillBest 19 = .ok (.istore_n 3, 1) := by decide +kernel
theorem dX7_fillBest_20 : decode cX7_fillBest 20 = .ok (.iload_n 3, 1) := by decide +kernel
theorem dX7_fillBest_21 : decode cX7_fillBest 21 = .ok (.iload_n 1, 1) := by decide +kernel
theorem dX7_fillBest_22 : decode cX7_fillBest 22 = .ok (.if_icmp .ge 87, 3) := by decide +kernel
theorem dX7_fillBest_25 : decode cX7_fillBest 25 = .ok (.aload_n 0, 1) := by decide +kernel
theorem dX7_fillBest_26 : decode cX7_fillBest 26 = .ok (.iload_n 3, 1) := by decide +kernel
theorem dX7_fillBest_27 : decode cX7_fillBest 27 = .ok (.iload_n 1, 1) := by decide +kernel
theorem dX7_fillBest_28 : decode cX7_fillBest 28 = .ok (.invokevirtual 93, 3) := by decide +kernel
theorem dX7_fillBest_31 : decode cX7_fillBest 31 = .ok (.istore 4, 2) := by decide +kernel
theorem dX7_fillBest_33 : decode cX7_fillBest 33 = .ok (.iload_n 2, 1) := by decide +kernel
theorem dX7_fillBest_34 : decode cX7_fillBest 34 = .ok (.iconst 1, 1) := by decide +kernel
theorem dX7_fillBest_35 : decode cX7_fillBest 35 = .ok (.iload_n 3, 1) := by decide +kernel
theorem dX7_fillBest_36 : decode cX7_fillBest 36 = .ok (.ishl, 1) := by decide +kernel
theorem dX7_fillBest_37 : decode cX7_fillBest 37 = .ok (.ior, 1) := by decide +kernel
theorem dX7_fillBest_38 : decode cX7_fillBest 38 = .ok (.istore 5, 2) := by decide +kernel
theorem dX7_fillBest_40 : decode cX7_fillBest 40 = .ok (.iload 5, 2) := by decide +kernel
theorem dX7_fillBest_42 : decode cX7_fillBest 42 = .ok (.istore 6, 2) := by decide +kernel
theorem dX7_fillBest_44 : decode cX7_fillBest 44 = .ok (.iload 4, 2) := by decide +kernel
theorem dX7_fillBest_46 : decode cX7_fillBest 46 = .ok (.ifCond .le 57, 3) := by decide +kernel
theorem dX7_fillBest_49 : decode cX7_fillBest 49 = .ok (.iload 6, 2) := by decide +kernel
theorem dX7_fillBest_51 : decode cX7_fillBest 51 = .ok (.iconst 2, 1) := by decide +kernel
theorem dX7_fillBest_52 : decode cX7_fillBest 52 = .ok (.iload_n 2, 1) := by decide +kernel
theorem dX7_fillBest_53 : decode cX7_fillBest 53 = .ok (.imul, 1) := by decide +kernel
theorem dX7_fillBest_54 : decode cX7_fillBest 54 = .ok (.if_icmp .ge 49, 3) := by decide +kernel
theorem dX7_fillBest_57 : decode cX7_fillBest 57 = .ok (.iload 6, 2) := by decide +kernel
theorem dX7_fillBest_59 : decode cX7_fillBest 59 = .ok (.iload 5, 2) := by decide +kernel
theorem dX7_fillBest_61 : decode cX7_fillBest 61 = .ok (.iand, 1) := by decide +kernel
theorem dX7_fillBest_62 : decode cX7_fillBest 62 = .ok (.iload 5, 2) := by decide +kernel
theorem dX7_fillBest_64 : decode cX7_fillBest 64 = .ok (.if_icmp .ne 33, 3) := by decide +kernel
theorem dX7_fillBest_67 : decode cX7_fillBest 67 = .ok (.aload_n 0, 1) := by decide +kernel
theorem dX7_fillBest_68 : decode cX7_fillBest 68 = .ok (.getfield 18, 3) := by decide +kernel
theorem dX7_fillBest_71 : decode cX7_fillBest 71 = .ok (.iload 6, 2) := by decide +kernel
theorem dX7_fillBest_73 : decode cX7_fillBest 73 = .ok (.aload_n 0, 1) := by decide +kernel
theorem dX7_fillBest_74 : decode cX7_fillBest 74 = .ok (.getfield 18, 3) := by decide +kernel
theorem dX7_fillBest_77 : decode cX7_fillBest 77 = .ok (.iload 6, 2) := by decide +kernel
theorem dX7_fillBest_79 : decode cX7_fillBest 79 = .ok (.iaload, 1) := by decide +kernel
theorem dX7_fillBest_80 : decode cX7_fillBest 80 = .ok (.aload_n 0, 1) := by decide +kernel
theorem dX7_fillBest_81 : decode cX7_fillBest 81 = .ok (.getfield 18, 3) := by decide +kernel
theorem dX7_fillBest_84 : decode cX7_fillBest 84 = .ok (.iload 6, 2) := by decide +kernel
theorem dX7_fillBest_86 : decode cX7_fillBest 86 = .ok (.iload 5, 2) := by decide +kernel
theorem dX7_fillBest_88 : decode cX7_fillBest 88 = .ok (.isub, 1) := by decide +kernel
theorem dX7_fillBest_89 : decode cX7_fillBest 89 = .ok (.iaload, 1) := by decide +kernel
theorem dX7_fillBest_90 : decode cX7_fillBest 90 = .ok (.iload 4, 2) := by decide +kernel
theorem dX7_fillBest_92 : decode cX7_fillBest 92 = .ok (.iadd, 1) := by decide +kernel
theorem dX7_fillBest_93 : decode cX7_fillBest 93 = .ok (.invokestatic 61, 3) := by decide +kernel
theorem dX7_fillBest_96 : decode cX7_fillBest 96 = .ok (.iastore, 1) := by decide +kernel
theorem dX7_fillBest_97 : decode cX7_fillBest 97 = .ok (.iinc 6 1, 3) := by decide +kernel
theorem dX7_fillBest_100 : decode cX7_fillBest 100 = .ok (.goto (-56), 3) := by decide +kernel
theorem dX7_fillBest_103 : decode cX7_fillBest 103 = .ok (.iinc 3 1, 3) := by decide +kernel
theorem dX7_fillBest_106 : decode cX7_fillBest 106 = .ok (.goto (-86), 3) := by decide +kernel
theorem dX7_fillBest_109 : decode cX7_fillBest 109 = .ok (.return_, 1) := by decide +kernel
set_option maxRecDepth 20000 in
theorem ggX7_fillRow_X6_everybody : GoodIn wsX7_fillRow wsX6_everybody := goodIn_r _ [11, 12, 30, 31, 32, 33, 34, 35, 36, 37, 38, 39, 40, 41, 42, 43, 44, 45, 46, 47, 48, 49] (by decide +kernel) (by decide +kernel)
set_option maxRecDepth 20000 in
theorem gX7_fillRow_X6_everybody : GoodIn wsX7_fillRow (wsV RX7 99 RX6 yX6_everybody wsX6_everybody) := goodIn_app (goodIn_of _ (by decide +kernel)) ggX7_fillRow_X6_everybody
set_option maxRecDepth 20000 in
theorem ggX7_fillRow_X6_pairOf : GoodIn wsX7_fillRow wsX6_pairOf := goodIn_r _ [16, 17, 18, 30, 31, 32, 33, 34, 35, 36, 37, 38, 39, 40, 41, 42, 43, 44, 45, 46, 47, 48, 49] (by decide +kernel) (by decide +kernel)
set_option maxRecDepth 20000 in
theorem gX7_fillRow_X6_pairOf : GoodIn wsX7_fillRow (wsV RX7 103 RX6 yX6_pairOf wsX6_pairOf) := goodIn_app (goodIn_of _ (by decide +kernel)) ggX7_fillRow_X6_pairOf
theorem dX7_fillRow_0 : decode cX7_fillRow 0 = .ok (.aload_n 0, 1) := by decide +kernel
theorem dX7_fillRow_1 : decode cX7_fillRow 1 = .ok (.iconst 0, 1) := by decide +kernel
theorem dX7_fillRow_2 : decode cX7_fillRow 2 = .ok (.putfield 96, 3) := by decide +kernel
theorem dX7_fillRow_5 : decode cX7_fillRow 5 = .ok (.aload_n 0, 1) := by decide +kernel
theorem dX7_fillRow_6 : decode cX7_fillRow 6 = .ok (.getfield 42, 3) := by decide +kernel
theorem dX7_fillRow_9 : decode cX7_fillRow 9 = .ok (.invokevirtual 99, 3) := by decide +kernel
theorem dX7_fillRow_12 : decode cX7_fillRow 12 = .ok (.istore_n 1, 1) := by decide +kernel
theorem dX7_fillRow_13 : decode cX7_fillRow 13 = .ok (.iconst 0, 1) := by decide +kernel
theorem dX7_fillRow_14 : decode cX7_fillRow 14 = .ok (.istore_n 2, 1) := by decide +kernel
theorem dX7_fillRow_15 : decode cX7_fillRow 15 = .ok (.iload_n 2, 1) := by decide +kernel
theorem dX7_fillRow_16 : decode cX7_fillRow 16 = .ok (.aload_n 0, 1) := by decide +kernel
theorem dX7_fillRow_17 : decode cX7_fillRow 17 = .ok (.getfield 42, 3) := by decide +kernel
theorem dX7_fillRow_20 : decode cX7_fillRow 20 = .ok (.getfield 43, 3) := by decide +kernel
theorem dX7_fillRow_23 : decode cX7_fillRow 23 = .ok (.if_icmp .ge 106, 3) := by decide +kernel
theorem dX7_fillRow_26 : decode cX7_fillRow 26 = .ok (.aload_n 0, 1) := by decide +kernel
theorem dX7_fillRow_27 : decode cX7_fillRow 27 = .ok (.getfield 42, 3) := by decide +kernel
theorem dX7_fillRow_30 : decode cX7_fillRow 30 = .ok (.iload_n 2, 1) := by decide +kernel
theorem dX7_fillRow_31 : decode cX7_fillRow 31 = .ok (.invokevirtual 103, 3) := by decide +kernel
theorem dX7_fillRow_34 : decode cX7_fillRow 34 = .ok (.istore_n 3, 1) := by decide +kernel
theorem dX7_fillRow_35 : decode cX7_fillRow 35 = .ok (.aload_n 0, 1) := by decide +kernel
theorem dX7_fillRow_36 : decode cX7_fillRow 36 = .ok (.getfield 22, 3) := by decide +kernel
theorem dX7_fillRow_39 : decode cX7_fillRow 39 = .ok (.iload_n 2, 1) := by decide +kernel
theorem dX7_fillRow_40 : decode cX7_fillRow 40 = .ok (.iaload, 1) := by decide +kernel
theorem dX7_fillRow_41 : decode cX7_fillRow 41 = .ok (.ifCond .le 14, 3) := by decide +kernel
theorem dX7_fillRow_44 : decode cX7_fillRow 44 = .ok (.iload_n 1, 1) := by decide +kernel
theorem dX7_fillRow_45 : decode cX7_fillRow 45 = .ok (.iload_n 3, 1) := by decide +kernel
theorem dX7_fillRow_46 : decode cX7_fillRow 46 = .ok (.iand, 1) := by decide +kernel
theorem dX7_fillRow_47 : decode cX7_fillRow 47 = .ok (.iload_n 3, 1) := by decide +kernel
theorem dX7_fillRow_48 : decode cX7_fillRow 48 = .ok (.if_icmp .ne 7, 3) := by decide +kernel
theorem dX7_fillRow_51 : decode cX7_fillRow 51 = .ok (.iconst 1, 1) := by decide +kernel
theorem dX7_fillRow_52 : decode cX7_fillRow 52 = .ok (.goto 4, 3) := by decide +kernel
theorem dX7_fillRow_55 : decode cX7_fillRow 55 = .ok (.iconst 0, 1) := by decide +kernel
theorem dX7_fillRow_56 : decode cX7_fillRow 56 = .ok (.istore 4, 2) := by decide +kernel
theorem dX7_fillRow_58 : decode cX7_fillRow 58 = .ok (.iload 4, 2) := by decide +kernel
theorem dX7_fillRow_60 : decode cX7_fillRow 60 = .ok (.ifCond .eq 63, 3) := by decide +kernel
theorem dX7_fillRow_63 : decode cX7_fillRow 63 = .ok (.aload_n 0, 1) := by decide +kernel
theorem dX7_fillRow_64 : decode cX7_fillRow 64 = .ok (.getfield 96, 3) := by decide +kernel
theorem dX7_fillRow_67 : decode cX7_fillRow 67 = .ok (.aload_n 0, 1) := by decide +kernel
theorem dX7_fillRow_68 : decode cX7_fillRow 68 = .ok (.getfield 25, 3) := by decide +kernel
theorem dX7_fillRow_71 : decode cX7_fillRow 71 = .ok (.arraylength, 1) := by decide +kernel
theorem dX7_fillRow_72 : decode cX7_fillRow 72 = .ok (.if_icmp .ge 51, 3) := by decide +kernel
theorem dX7_fillRow_75 : decode cX7_fillRow 75 = .ok (.aload_n 0, 1) := by decide +kernel
theorem dX7_fillRow_76 : decode cX7_fillRow 76 = .ok (.getfield 18, 3) := by decide +kernel
theorem dX7_fillRow_79 : decode cX7_fillRow 79 = .ok (.iload_n 1, 1) := by decide +kernel
theorem dX7_fillRow_80 : decode cX7_fillRow 80 = .ok (.iload_n 3, 1) := by decide +kernel
theorem dX7_fillRow_81 : decode cX7_fillRow 81 = .ok (.isub, 1) := by decide +kernel
theorem dX7_fillRow_82 : decode cX7_fillRow 82 = .ok (.iaload, 1) := by decide +kernel
theorem dX7_fillRow_83 : decode cX7_fillRow 83 = .ok (.aload_n 0, 1) := by decide +kernel
theorem dX7_fillRow_84 : decode cX7_fillRow 84 = .ok (.getfield 22, 3) := by decide +kernel
theorem dX7_fillRow_87 : decode cX7_fillRow 87 = .ok (.iload_n 2, 1) := by decide +kernel
theorem dX7_fillRow_88 : decode cX7_fillRow 88 = .ok (.iaload, 1) := by decide +kernel
theorem dX7_fillRow_89 : decode cX7_fillRow 89 = .ok (.iadd, 1) := by decide +kernel
theorem dX7_fillRow_90 : decode cX7_fillRow 90 = .ok (.aload_n 0, 1) := by decide +kernel
theorem dX7_fillRow_91 : decode cX7_fillRow 91 = .ok (.getfield 18, 3) := by decide +kernel
theorem dX7_fillRow_94 : decode cX7_fillRow 94 = .ok (.iload_n 1, 1) := by decide +kernel
theorem dX7_fillRow_95 : decode cX7_fillRow 95 = .ok (.iaload, 1) := by decide +kernel
theorem dX7_fillRow_96 : decode cX7_fillRow 96 = .ok (.if_icmp .ne 27, 3) := by decide +kernel
theorem dX7_fillRow_99 : decode cX7_fillRow 99 = .ok (.aload_n 0, 1) := by decide +kernel
theorem dX7_fillRow_100 : decode cX7_fillRow 100 = .ok (.getfield 25, 3) := by decide +kernel
theorem dX7_fillRow_103 : decode cX7_fillRow 103 = .ok (.aload_n 0, 1) := by decide +kernel
theorem dX7_fillRow_104 : decode cX7_fillRow 104 = .ok (.getfield 96, 3) := by decide +kernel

