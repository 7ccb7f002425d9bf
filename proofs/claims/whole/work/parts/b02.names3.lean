theorem dX0_clear_0 : decode cX0_clear 0 = .ok (.aload_n 0, 1) := by decide +kernel
theorem dX0_clear_1 : decode cX0_clear 1 = .ok (.iconst 0, 1) := by decide +kernel
theorem dX0_clear_2 : decode cX0_clear 2 = .ok (.putfield 21, 3) := by decide +kernel
theorem dX0_clear_5 : decode cX0_clear 5 = .ok (.return_, 1) := by decide +kernel
theorem dX0_add_0 : decode cX0_add 0 = .ok (.aload_n 0, 1) := by decide +kernel
theorem dX0_add_1 : decode cX0_add 1 = .ok (.getfield 21, 3) := by decide +kernel
theorem dX0_add_4 : decode cX0_add 4 = .ok (.sipush 200, 3) := by decide +kernel
theorem dX0_add_7 : decode cX0_add 7 = .ok (.if_icmp .lt 5, 3) := by decide +kernel
theorem dX0_add_10 : decode cX0_add 10 = .ok (.iconst (-1), 1) := by decide +kernel
theorem dX0_add_11 : decode cX0_add 11 = .ok (.ireturn, 1) := by decide +kernel
theorem dX0_add_12 : decode cX0_add 12 = .ok (.aload_n 0, 1) := by decide +kernel
theorem dX0_add_13 : decode cX0_add 13 = .ok (.getfield 9, 3) := by decide +kernel
theorem dX0_add_16 : decode cX0_add 16 = .ok (.aload_n 0, 1) := by decide +kernel
theorem dX0_add_17 : decode cX0_add 17 = .ok (.getfield 21, 3) := by decide +kernel
theorem dX0_add_20 : decode cX0_add 20 = .ok (.iload_n 1, 1) := by decide +kernel
theorem dX0_add_21 : decode cX0_add 21 = .ok (.iastore, 1) := by decide +kernel
theorem dX0_add_22 : decode cX0_add 22 = .ok (.aload_n 0, 1) := by decide +kernel
theorem dX0_add_23 : decode cX0_add 23 = .ok (.getfield 15, 3) := by decide +kernel
theorem dX0_add_26 : decode cX0_add 26 = .ok (.aload_n 0, 1) := by decide +kernel
theorem dX0_add_27 : decode cX0_add 27 = .ok (.getfield 21, 3) := by decide +kernel
theorem dX0_add_30 : decode cX0_add 30 = .ok (.iload_n 2, 1) := by decide +kernel
theorem dX0_add_31 : decode cX0_add 31 = .ok (.iastore, 1) := by decide +kernel
theorem dX0_add_32 : decode cX0_add 32 = .ok (.aload_n 0, 1) := by decide +kernel
theorem dX0_add_33 : decode cX0_add 33 = .ok (.getfield 18, 3) := by decide +kernel
theorem dX0_add_36 : decode cX0_add 36 = .ok (.aload_n 0, 1) := by decide +kernel
theorem dX0_add_37 : decode cX0_add 37 = .ok (.getfield 21, 3) := by decide +kernel
theorem dX0_add_40 : decode cX0_add 40 = .ok (.iconst 0, 1) := by decide +kernel
theorem dX0_add_41 : decode cX0_add 41 = .ok (.iastore, 1) := by decide +kernel
theorem dX0_add_42 : decode cX0_add 42 = .ok (.aload_n 0, 1) := by decide +kernel
theorem dX0_add_43 : decode cX0_add 43 = .ok (.dup, 1) := by decide +kernel
theorem dX0_add_44 : decode cX0_add 44 = .ok (.getfield 21, 3) := by decide +kernel
theorem dX0_add_47 : decode cX0_add 47 = .ok (.iconst 1, 1) := by decide +kernel
theorem dX0_add_48 : decode cX0_add 48 = .ok (.iadd, 1) := by decide +kernel
theorem dX0_add_49 : decode cX0_add 49 = .ok (.putfield 21, 3) := by decide +kernel
theorem dX0_add_52 : decode cX0_add 52 = .ok (.aload_n 0, 1) := by decide +kernel
theorem dX0_add_53 : decode cX0_add 53 = .ok (.getfield 21, 3) := by decide +kernel
theorem dX0_add_56 : decode cX0_add 56 = .ok (.ireturn, 1) := by decide +kernel
set_option maxRecDepth 20000 in
theorem ggX0_annulled_X0_add : GoodIn wsX0_annulled wsX0_add := goodIn_r _ [8, 1, 2, 9, 3, 10, 11, 12, 13] (by decide +kernel) (by decide +kernel)
set_option maxRecDepth 20000 in
theorem gX0_annulled_X0_add : GoodIn wsX0_annulled (wsV RX0 25 RX0 yX0_add wsX0_add) := goodIn_app (goodIn_of _ (by decide +kernel)) ggX0_annulled_X0_add
theorem dX0_annulled_0 : decode cX0_annulled 0 = .ok (.iload_n 1, 1) := by decide +kernel
theorem dX0_annulled_1 : decode cX0_annulled 1 = .ok (.iconst 1, 1) := by decide +kernel
theorem dX0_annulled_2 : decode cX0_annulled 2 = .ok (.if_icmp .lt 34, 3) := by decide +kernel
theorem dX0_annulled_5 : decode cX0_annulled 5 = .ok (.iload_n 1, 1) := by decide +kernel
theorem dX0_annulled_6 : decode cX0_annulled 6 = .ok (.aload_n 0, 1) := by decide +kernel
theorem dX0_annulled_7 : decode cX0_annulled 7 = .ok (.getfield 21, 3) := by decide +kernel
theorem dX0_annulled_10 : decode cX0_annulled 10 = .ok (.if_icmp .gt 26, 3) := by decide +kernel
theorem dX0_annulled_13 : decode cX0_annulled 13 = .ok (.aload_n 0, 1) := by decide +kernel
theorem dX0_annulled_14 : decode cX0_annulled 14 = .ok (.getfield 9, 3) := by decide +kernel
theorem dX0_annulled_17 : decode cX0_annulled 17 = .ok (.iload_n 1, 1) := by decide +kernel
theorem dX0_annulled_18 : decode cX0_annulled 18 = .ok (.iconst 1, 1) := by decide +kernel
theorem dX0_annulled_19 : decode cX0_annulled 19 = .ok (.isub, 1) := by decide +kernel
theorem dX0_annulled_20 : decode cX0_annulled 20 = .ok (.iaload, 1) := by decide +kernel
theorem dX0_annulled_21 : decode cX0_annulled 21 = .ok (.iconst (-1), 1) := by decide +kernel
theorem dX0_annulled_22 : decode cX0_annulled 22 = .ok (.if_icmp .eq 14, 3) := by decide +kernel
theorem dX0_annulled_25 : decode cX0_annulled 25 = .ok (.aload_n 0, 1) := by decide +kernel
theorem dX0_annulled_26 : decode cX0_annulled 26 = .ok (.getfield 18, 3) := by decide +kernel
theorem dX0_annulled_29 : decode cX0_annulled 29 = .ok (.iload_n 1, 1) := by decide +kernel
theorem dX0_annulled_30 : decode cX0_annulled 30 = .ok (.iconst 1, 1) := by decide +kernel
theorem dX0_annulled_31 : decode cX0_annulled 31 = .ok (.isub, 1) := by decide +kernel
theorem dX0_annulled_32 : decode cX0_annulled 32 = .ok (.iaload, 1) := by decide +kernel
theorem dX0_annulled_33 : decode cX0_annulled 33 = .ok (.ifCond .eq 5, 3) := by decide +kernel
theorem dX0_annulled_36 : decode cX0_annulled 36 = .ok (.iconst (-1), 1) := by decide +kernel
theorem dX0_annulled_37 : decode cX0_annulled 37 = .ok (.ireturn, 1) := by decide +kernel
theorem dX0_annulled_38 : decode cX0_annulled 38 = .ok (.aload_n 0, 1) := by decide +kernel
theorem dX0_annulled_39 : decode cX0_annulled 39 = .ok (.iconst (-1), 1) := by decide +kernel
theorem dX0_annulled_40 : decode cX0_annulled 40 = .ok (.iconst 0, 1) := by decide +kernel
theorem dX0_annulled_41 : decode cX0_annulled 41 = .ok (.invokevirtual 25, 3) := by decide +kernel
theorem dX0_annulled_44 : decode cX0_annulled 44 = .ok (.istore_n 2, 1) := by decide +kernel
theorem dX0_annulled_45 : decode cX0_annulled 45 = .ok (.iload_n 2, 1) := by decide +kernel
theorem dX0_annulled_46 : decode cX0_annulled 46 = .ok (.iconst (-1), 1) := by decide +kernel
theorem dX0_annulled_47 : decode cX0_annulled 47 = .ok (.if_icmp .eq 12, 3) := by decide +kernel
theorem dX0_annulled_50 : decode cX0_annulled 50 = .ok (.aload_n 0, 1) := by decide +kernel
theorem dX0_annulled_51 : decode cX0_annulled 51 = .ok (.getfield 18, 3) := by decide +kernel
theorem dX0_annulled_54 : decode cX0_annulled 54 = .ok (.iload_n 1, 1) := by decide +kernel
theorem dX0_annulled_55 : decode cX0_annulled 55 = .ok (.iconst 1, 1) := by decide +kernel
theorem dX0_annulled_56 : decode cX0_annulled 56 = .ok (.isub, 1) := by decide +kernel
theorem dX0_annulled_57 : decode cX0_annulled 57 = .ok (.iload_n 2, 1) := by decide +kernel
theorem dX0_annulled_58 : decode cX0_annulled 58 = .ok (.iastore, 1) := by decide +kernel
theorem dX0_annulled_59 : decode cX0_annulled 59 = .ok (.iload_n 2, 1) := by decide +kernel
theorem dX0_annulled_60 : decode cX0_annulled 60 = .ok (.ireturn, 1) := by decide +kernel
theorem dX0_knownWorth_0 : decode cX0_knownWorth 0 = .ok (.iload_n 2, 1) := by decide +kernel
theorem dX0_knownWorth_1 : decode cX0_knownWorth 1 = .ok (.aload_n 0, 1) := by decide +kernel
theorem dX0_knownWorth_2 : decode cX0_knownWorth 2 = .ok (.getfield 21, 3) := by decide +kernel
theorem dX0_knownWorth_5 : decode cX0_knownWorth 5 = .ok (.invokestatic 29, 3) := by decide +kernel
theorem dX0_knownWorth_8 : decode cX0_knownWorth 8 = .ok (.iconst 1, 1) := by decide +kernel
theorem dX0_knownWorth_9 : decode cX0_knownWorth 9 = .ok (.isub, 1) := by decide +kernel
theorem dX0_knownWorth_10 : decode cX0_knownWorth 10 = .ok (.istore_n 3, 1) := by decide +kernel
theorem dX0_knownWorth_11 : decode cX0_knownWorth 11 = .ok (.iload_n 3, 1) := by decide +kernel
theorem dX0_knownWorth_12 : decode cX0_knownWorth 12 = .ok (.ifCond .lt 57, 3) := by decide +kernel
theorem dX0_knownWorth_15 : decode cX0_knownWorth 15 = .ok (.aload_n 0, 1) := by decide +kernel
theorem dX0_knownWorth_16 : decode cX0_knownWorth 16 = .ok (.getfield 18, 3) := by decide +kernel
theorem dX0_knownWorth_19 : decode cX0_knownWorth 19 = .ok (.iload_n 3, 1) := by decide +kernel
theorem dX0_knownWorth_20 : decode cX0_knownWorth 20 = .ok (.iaload, 1) := by decide +kernel
theorem dX0_knownWorth_21 : decode cX0_knownWorth 21 = .ok (.ifCond .eq 17, 3) := by decide +kernel
theorem dX0_knownWorth_24 : decode cX0_knownWorth 24 = .ok (.aload_n 0, 1) := by decide +kernel
theorem dX0_knownWorth_25 : decode cX0_knownWorth 25 = .ok (.getfield 18, 3) := by decide +kernel
theorem dX0_knownWorth_28 : decode cX0_knownWorth 28 = .ok (.iload_n 3, 1) := by decide +kernel
theorem dX0_knownWorth_29 : decode cX0_knownWorth 29 = .ok (.iaload, 1) := by decide +kernel
theorem dX0_knownWorth_30 : decode cX0_knownWorth 30 = .ok (.iload_n 2, 1) := by decide +kernel
theorem dX0_knownWorth_31 : decode cX0_knownWorth 31 = .ok (.if_icmp .gt 7, 3) := by decide +kernel
theorem dX0_knownWorth_34 : decode cX0_knownWorth 34 = .ok (.iconst 1, 1) := by decide +kernel
theorem dX0_knownWorth_35 : decode cX0_knownWorth 35 = .ok (.goto 4, 3) := by decide +kernel
theorem dX0_knownWorth_38 : decode cX0_knownWorth 38 = .ok (.iconst 0, 1) := by decide +kernel
theorem dX0_knownWorth_39 : decode cX0_knownWorth 39 = .ok (.istore 4, 2) := by decide +kernel
theorem dX0_knownWorth_41 : decode cX0_knownWorth 41 = .ok (.aload_n 0, 1) := by decide +kernel
theorem dX0_knownWorth_42 : decode cX0_knownWorth 42 = .ok (.getfield 9, 3) := by decide +kernel
theorem dX0_knownWorth_45 : decode cX0_knownWorth 45 = .ok (.iload_n 3, 1) := by decide +kernel
theorem dX0_knownWorth_46 : decode cX0_knownWorth 46 = .ok (.iaload, 1) := by decide +kernel
theorem dX0_knownWorth_47 : decode cX0_knownWorth 47 = .ok (.iload_n 1, 1) := by decide +kernel
theorem dX0_knownWorth_48 : decode cX0_knownWorth 48 = .ok (.if_icmp .ne 15, 3) := by decide +kernel
theorem dX0_knownWorth_51 : decode cX0_knownWorth 51 = .ok (.iload 4, 2) := by decide +kernel
theorem dX0_knownWorth_53 : decode cX0_knownWorth 53 = .ok (.ifCond .ne 10, 3) := by decide +kernel
theorem dX0_knownWorth_56 : decode cX0_knownWorth 56 = .ok (.aload_n 0, 1) := by decide +kernel
theorem dX0_knownWorth_57 : decode cX0_knownWorth 57 = .ok (.getfield 15, 3) := by decide +kernel
theorem dX0_knownWorth_60 : decode cX0_knownWorth 60 = .ok (.iload_n 3, 1) := by decide +kernel
theorem dX0_knownWorth_61 : decode cX0_knownWorth 61 = .ok (.iaload, 1) := by decide +kernel
theorem dX0_knownWorth_62 : decode cX0_knownWorth 62 = .ok (.ireturn, 1) := by decide +kernel
theorem dX0_knownWorth_63 : decode cX0_knownWorth 63 = .ok (.iinc 3 (-1), 3) := by decide +kernel
theorem dX0_knownWorth_66 : decode cX0_knownWorth 66 = .ok (.goto (-55), 3) := by decide +kernel
theorem dX0_knownWorth_69 : decode cX0_knownWorth 69 = .ok (.bipush (-2), 2) := by decide +kernel
theorem dX0_knownWorth_71 : decode cX0_knownWorth 71 = .ok (.ireturn, 1) := by decide +kernel
theorem dX1_init_0 : decode cX1_init 0 = .ok (.aload_n 0, 1) := by decide +kernel
theorem dX1_init_1 : decode cX1_init 1 = .ok (.invokespecial 3, 3) := by decide +kernel
theorem dX1_init_4 : decode cX1_init 4 = .ok (.aload_n 0, 1) := by decide +kernel
theorem dX1_init_5 : decode cX1_init 5 = .ok (.bipush 24, 2) := by decide +kernel
theorem dX1_init_7 : decode cX1_init 7 = .ok (.bipush 24, 2) := by decide +kernel
theorem dX1_init_9 : decode cX1_init 9 = .ok (.multianewarray 9 2, 4) := by decide +kernel
theorem dX1_init_13 : decode cX1_init 13 = .ok (.putfield 11, 3) := by decide +kernel
theorem dX1_init_16 : decode cX1_init 16 = .ok (.return_, 1) := by decide +kernel
set_option maxRecDepth 20000 in
theorem ggX1_begin_J7_fill_53178 : GoodIn wsX1_begin wsJ7_fill_53178 := goodIn_r _ [11] (by decide +kernel) (by decide +kernel)
set_option maxRecDepth 20000 in
theorem gX1_begin_J7_fill_53178 : GoodIn wsX1_begin (va_wsS RX1 27 yJ7_fill_53178 wsJ7_fill_53178) := goodIn_app (goodIn_of _ (by decide +kernel)) ggX1_begin_J7_fill_53178
theorem dX1_begin_0 : decode cX1_begin 0 = .ok (.aload_n 0, 1) := by decide +kernel
theorem dX1_begin_1 : decode cX1_begin 1 = .ok (.iconst 2, 1) := by decide +kernel
theorem dX1_begin_2 : decode cX1_begin 2 = .ok (.iload_n 1, 1) := by decide +kernel
theorem dX1_begin_3 : decode cX1_begin 3 = .ok (.imul, 1) := by decide +kernel
theorem dX1_begin_4 : decode cX1_begin 4 = .ok (.bipush 24, 2) := by decide +kernel
theorem dX1_begin_6 : decode cX1_begin 6 = .ok (.invokestatic 16, 3) := by decide +kernel
theorem dX1_begin_9 : decode cX1_begin 9 = .ok (.putfield 22, 3) := by decide +kernel
theorem dX1_begin_12 : decode cX1_begin 12 = .ok (.iconst 0, 1) := by decide +kernel
theorem dX1_begin_13 : decode cX1_begin 13 = .ok (.istore_n 2, 1) := by decide +kernel
theorem dX1_begin_14 : decode cX1_begin 14 = .ok (.iload_n 2, 1) := by decide +kernel
theorem dX1_begin_15 : decode cX1_begin 15 = .ok (.aload_n 0, 1) := by decide +kernel
theorem dX1_begin_16 : decode cX1_begin 16 = .ok (.getfield 22, 3) := by decide +kernel
theorem dX1_begin_19 : decode cX1_begin 19 = .ok (.if_icmp .ge 29, 3) := by decide +kernel
theorem dX1_begin_22 : decode cX1_begin 22 = .ok (.aload_n 0, 1) := by decide +kernel
theorem dX1_begin_23 : decode cX1_begin 23 = .ok (.getfield 11, 3) := by decide +kernel
theorem dX1_begin_26 : decode cX1_begin 26 = .ok (.iload_n 2, 1) := by decide +kernel
theorem dX1_begin_27 : decode cX1_begin 27 = .ok (.aaload, 1) := by decide +kernel
theorem dX1_begin_28 : decode cX1_begin 28 = .ok (.ldc 26, 2) := by decide +kernel
theorem dX1_begin_30 : decode cX1_begin 30 = .ok (.invokestatic 27, 3) := by decide +kernel
theorem dX1_begin_33 : decode cX1_begin 33 = .ok (.aload_n 0, 1) := by decide +kernel
theorem dX1_begin_34 : decode cX1_begin 34 = .ok (.getfield 11, 3) := by decide +kernel
theorem dX1_begin_37 : decode cX1_begin 37 = .ok (.iload_n 2, 1) := by decide +kernel
theorem dX1_begin_38 : decode cX1_begin 38 = .ok (.aaload, 1) := by decide +kernel
theorem dX1_begin_39 : decode cX1_begin 39 = .ok (.iload_n 2, 1) := by decide +kernel
theorem dX1_begin_40 : decode cX1_begin 40 = .ok (.iconst 0, 1) := by decide +kernel
theorem dX1_begin_41 : decode cX1_begin 41 = .ok (.iastore, 1) := by decide +kernel
theorem dX1_begin_42 : decode cX1_begin 42 = .ok (.iinc 2 1, 3) := by decide +kernel
theorem dX1_begin_45 : decode cX1_begin 45 = .ok (.goto (-31), 3) := by decide +kernel
theorem dX1_begin_48 : decode cX1_begin 48 = .ok (.iconst 0, 1) := by decide +kernel
theorem dX1_begin_49 : decode cX1_begin 49 = .ok (.istore_n 2, 1) := by decide +kernel
theorem dX1_begin_50 : decode cX1_begin 50 = .ok (.iload_n 2, 1) := by decide +kernel
theorem dX1_begin_51 : decode cX1_begin 51 = .ok (.iload_n 1, 1) := by decide +kernel
theorem dX1_begin_52 : decode cX1_begin 52 = .ok (.if_icmp .ge 24, 3) := by decide +kernel
theorem dX1_begin_55 : decode cX1_begin 55 = .ok (.aload_n 0, 1) := by decide +kernel
theorem dX1_begin_56 : decode cX1_begin 56 = .ok (.getfield 11, 3) := by decide +kernel
theorem dX1_begin_59 : decode cX1_begin 59 = .ok (.iconst 2, 1) := by decide +kernel
theorem dX1_begin_60 : decode cX1_begin 60 = .ok (.iload_n 2, 1) := by decide +kernel
theorem dX1_begin_61 : decode cX1_begin 61 = .ok (.imul, 1) := by decide +kernel
theorem dX1_begin_62 : decode cX1_begin 62 = .ok (.iconst 1, 1) := by decide +kernel
theorem dX1_begin_63 : decode cX1_begin 63 = .ok (.iadd, 1) := by decide +kernel
theorem dX1_begin_64 : decode cX1_begin 64 = .ok (.aaload, 1) := by decide +kernel
theorem dX1_begin_65 : decode cX1_begin 65 = .ok (.iconst 2, 1) := by decide +kernel
theorem dX1_begin_66 : decode cX1_begin 66 = .ok (.iload_n 2, 1) := by decide +kernel
theorem dX1_begin_67 : decode cX1_begin 67 = .ok (.imul, 1) := by decide +kernel
theorem dX1_begin_68 : decode cX1_begin 68 = .ok (.iconst 0, 1) := by decide +kernel
theorem dX1_begin_69 : decode cX1_begin 69 = .ok (.iastore, 1) := by decide +kernel
theorem dX1_begin_70 : decode cX1_begin 70 = .ok (.iinc 2 1, 3) := by decide +kernel
theorem dX1_begin_73 : decode cX1_begin 73 = .ok (.goto (-23), 3) := by decide +kernel
theorem dX1_begin_76 : decode cX1_begin 76 = .ok (.return_, 1) := by decide +kernel
theorem dX1_nothingFor_0 : decode cX1_nothingFor 0 = .ok (.aload_n 0, 1) := by decide +kernel
theorem dX1_nothingFor_1 : decode cX1_nothingFor 1 = .ok (.getfield 11, 3) := by decide +kernel
theorem dX1_nothingFor_4 : decode cX1_nothingFor 4 = .ok (.iconst 2, 1) := by decide +kernel
theorem dX1_nothingFor_5 : decode cX1_nothingFor 5 = .ok (.iload_n 1, 1) := by decide +kernel
theorem dX1_nothingFor_6 : decode cX1_nothingFor 6 = .ok (.imul, 1) := by decide +kernel
theorem dX1_nothingFor_7 : decode cX1_nothingFor 7 = .ok (.aaload, 1) := by decide +kernel
theorem dX1_nothingFor_8 : decode cX1_nothingFor 8 = .ok (.iconst 2, 1) := by decide +kernel
theorem dX1_nothingFor_9 : decode cX1_nothingFor 9 = .ok (.iload_n 1, 1) := by decide +kernel
theorem dX1_nothingFor_10 : decode cX1_nothingFor 10 = .ok (.imul, 1) := by decide +kernel
theorem dX1_nothingFor_11 : decode cX1_nothingFor 11 = .ok (.iconst 1, 1) := by decide +kernel
theorem dX1_nothingFor_12 : decode cX1_nothingFor 12 = .ok (.iadd, 1) := by decide +kernel
theorem dX1_nothingFor_13 : decode cX1_nothingFor 13 = .ok (.iconst 0, 1) := by decide +kernel
theorem dX1_nothingFor_14 : decode cX1_nothingFor 14 = .ok (.iastore, 1) := by decide +kernel
theorem dX1_nothingFor_15 : decode cX1_nothingFor 15 = .ok (.return_, 1) := by decide +kernel
theorem dX1_atLeast_0 : decode cX1_atLeast 0 = .ok (.aload_n 0, 1) := by decide +kernel
theorem dX1_atLeast_1 : decode cX1_atLeast 1 = .ok (.getfield 11, 3) := by decide +kernel
theorem dX1_atLeast_4 : decode cX1_atLeast 4 = .ok (.iconst 2, 1) := by decide +kernel
theorem dX1_atLeast_5 : decode cX1_atLeast 5 = .ok (.iload_n 1, 1) := by decide +kernel
theorem dX1_atLeast_6 : decode cX1_atLeast 6 = .ok (.imul, 1) := by decide +kernel
theorem dX1_atLeast_7 : decode cX1_atLeast 7 = .ok (.iconst 1, 1) := by decide +kernel
theorem dX1_atLeast_8 : decode cX1_atLeast 8 = .ok (.iadd, 1) := by decide +kernel
theorem dX1_atLeast_9 : decode cX1_atLeast 9 = .ok (.aaload, 1) := by decide +kernel
theorem dX1_atLeast_10 : decode cX1_atLeast 10 = .ok (.iconst 2, 1) := by decide +kernel
theorem dX1_atLeast_11 : decode cX1_atLeast 11 = .ok (.iload_n 2, 1) := by decide +kernel
theorem dX1_atLeast_12 : decode cX1_atLeast 12 = .ok (.imul, 1) := by decide +kernel
theorem dX1_atLeast_13 : decode cX1_atLeast 13 = .ok (.iload_n 3, 1) := by decide +kernel
theorem dX1_atLeast_14 : decode cX1_atLeast 14 = .ok (.ineg, 1) := by decide +kernel
theorem dX1_atLeast_15 : decode cX1_atLeast 15 = .ok (.iastore, 1) := by decide +kernel
theorem dX1_atLeast_16 : decode cX1_atLeast 16 = .ok (.aload_n 0, 1) := by decide +kernel
theorem dX1_atLeast_17 : decode cX1_atLeast 17 = .ok (.getfield 11, 3) := by decide +kernel
theorem dX1_atLeast_20 : decode cX1_atLeast 20 = .ok (.iconst 2, 1) := by decide +kernel
theorem dX1_atLeast_21 : decode cX1_atLeast 21 = .ok (.iload_n 2, 1) := by decide +kernel
theorem dX1_atLeast_22 : decode cX1_atLeast 22 = .ok (.imul, 1) := by decide +kernel
theorem dX1_atLeast_23 : decode cX1_atLeast 23 = .ok (.iconst 1, 1) := by decide +kernel
theorem dX1_atLeast_24 : decode cX1_atLeast 24 = .ok (.iadd, 1) := by decide +kernel
theorem dX1_atLeast_25 : decode cX1_atLeast 25 = .ok (.aaload, 1) := by decide +kernel
theorem dX1_atLeast_26 : decode cX1_atLeast 26 = .ok (.iconst 2, 1) := by decide +kernel
theorem dX1_atLeast_27 : decode cX1_atLeast 27 = .ok (.iload_n 1, 1) := by decide +kernel
theorem dX1_atLeast_28 : decode cX1_atLeast 28 = .ok (.imul, 1) := by decide +kernel
theorem dX1_atLeast_29 : decode cX1_atLeast 29 = .ok (.iload_n 3, 1) := by decide +kernel
theorem dX1_atLeast_30 : decode cX1_atLeast 30 = .ok (.ineg, 1) := by decide +kernel
theorem dX1_atLeast_31 : decode cX1_atLeast 31 = .ok (.iastore, 1) := by decide +kernel
theorem dX1_atLeast_32 : decode cX1_atLeast 32 = .ok (.return_, 1) := by decide +kernel
theorem dX1_atMost_0 : decode cX1_atMost 0 = .ok (.aload_n 0, 1) := by decide +kernel
theorem dX1_atMost_1 : decode cX1_atMost 1 = .ok (.getfield 11, 3) := by decide +kernel
theorem dX1_atMost_4 : decode cX1_atMost 4 = .ok (.iconst 2, 1) := by decide +kernel
theorem dX1_atMost_5 : decode cX1_atMost 5 = .ok (.iload_n 1, 1) := by decide +kernel
theorem dX1_atMost_6 : decode cX1_atMost 6 = .ok (.imul, 1) := by decide +kernel
theorem dX1_atMost_7 : decode cX1_atMost 7 = .ok (.aaload, 1) := by decide +kernel
theorem dX1_atMost_8 : decode cX1_atMost 8 = .ok (.iconst 2, 1) := by decide +kernel
theorem dX1_atMost_9 : decode cX1_atMost 9 = .ok (.iload_n 2, 1) := by decide +kernel
theorem dX1_atMost_10 : decode cX1_atMost 10 = .ok (.imul, 1) := by decide +kernel
theorem dX1_atMost_11 : decode cX1_atMost 11 = .ok (.iconst 1, 1) := by decide +kernel
theorem dX1_atMost_12 : decode cX1_atMost 12 = .ok (.iadd, 1) := by decide +kernel
theorem dX1_atMost_13 : decode cX1_atMost 13 = .ok (.iload_n 3, 1) := by decide +kernel
theorem dX1_atMost_14 : decode cX1_atMost 14 = .ok (.iastore, 1) := by decide +kernel
theorem dX1_atMost_15 : decode cX1_atMost 15 = .ok (.aload_n 0, 1) := by decide +kernel
theorem dX1_atMost_16 : decode cX1_atMost 16 = .ok (.getfield 11, 3) := by decide +kernel
theorem dX1_atMost_19 : decode cX1_atMost 19 = .ok (.iconst 2, 1) := by decide +kernel
theorem dX1_atMost_20 : decode cX1_atMost 20 = .ok (.iload_n 2, 1) := by decide +kernel
theorem dX1_atMost_21 : decode cX1_atMost 21 = .ok (.imul, 1) := by decide +kernel
theorem dX1_atMost_22 : decode cX1_atMost 22 = .ok (.aaload, 1) := by decide +kernel
theorem dX1_atMost_23 : decode cX1_atMost 23 = .ok (.iconst 2, 1) := by decide +kernel
theorem dX1_atMost_24 : decode cX1_atMost 24 = .ok (.iload_n 1, 1) := by decide +kernel
theorem dX1_atMost_25 : decode cX1_atMost 25 = .ok (.imul, 1) := by decide +kernel
theorem dX1_atMost_26 : decode cX1_atMost 26 = .ok (.iconst 1, 1) := by decide +kernel
theorem dX1_atMost_27 : decode cX1_atMost 27 = .ok (.iadd, 1) := by decide +kernel
theorem dX1_atMost_28 : decode cX1_atMost 28 = .ok (.iload_n 3, 1) := by decide +kernel
theorem dX1_atMost_29 : decode cX1_atMost 29 = .ok (.iastore, 1) := by decide +kernel
theorem dX1_atMost_30 : decode cX1_atMost 30 = .ok (.return_, 1) := by decide +kernel
theorem dX1_close_0 : decode cX1_close 0 = .ok (.iconst 0, 1) := by decide +kernel
theorem dX1_close_1 : decode cX1_close 1 = .ok (.istore_n 1, 1) := by decide +kernel
theorem dX1_close_2 : decode cX1_close 2 = .ok (.iload_n 1, 1) := by decide +kernel
theorem dX1_close_3 : decode cX1_close 3 = .ok (.aload_n 0, 1) := by decide +kernel
theorem dX1_close_4 : decode cX1_close 4 = .ok (.getfield 22, 3) := by decide +kernel
theorem dX1_close_7 : decode cX1_close 7 = .ok (.if_icmp .ge 105, 3) := by decide +kernel
theorem dX1_close_10 : decode cX1_close 10 = .ok (.iconst 0, 1) := by decide +kernel
theorem dX1_close_11 : decode cX1_close 11 = .ok (.istore_n 2, 1) := by decide +kernel
theorem dX1_close_12 : decode cX1_close 12 = .ok (.iload_n 2, 1) := by decide +kernel
theorem dX1_close_13 : decode cX1_close 13 = .ok (.aload_n 0, 1) := by decide +kernel
theorem dX1_close_14 : decode cX1_close 14 = .ok (.getfield 22, 3) := by decide +kernel
theorem dX1_close_17 : decode cX1_close 17 = .ok (.if_icmp .ge 89, 3) := by decide +kernel
theorem dX1_close_20 : decode cX1_close 20 = .ok (.aload_n 0, 1) := by decide +kernel
theorem dX1_close_21 : decode cX1_close 21 = .ok (.getfield 11, 3) := by decide +kernel
theorem dX1_close_24 : decode cX1_close 24 = .ok (.iload_n 2, 1) := by decide +kernel
theorem dX1_close_25 : decode cX1_close 25 = .ok (.aaload, 1) := by decide +kernel
theorem dX1_close_26 : decode cX1_close 26 = .ok (.iload_n 1, 1) := by decide +kernel
theorem dX1_close_27 : decode cX1_close 27 = .ok (.iaload, 1) := by decide +kernel
theorem dX1_close_28 : decode cX1_close 28 = .ok (.istore_n 3, 1) := by decide +kernel
theorem dX1_close_29 : decode cX1_close 29 = .ok (.iconst 0, 1) := by decide +kernel
theorem dX1_close_30 : decode cX1_close 30 = .ok (.istore 4, 2) := by decide +kernel
theorem dX1_close_32 : decode cX1_close 32 = .ok (.iload_n 3, 1) := by decide +kernel
theorem dX1_close_33 : decode cX1_close 33 = .ok (.ldc 26, 2) := by decide +kernel
theorem dX1_close_35 : decode cX1_close 35 = .ok (.if_icmp .eq 65, 3) := by decide +kernel
theorem dX1_close_38 : decode cX1_close 38 = .ok (.iload 4, 2) := by decide +kernel
theorem dX1_close_40 : decode cX1_close 40 = .ok (.aload_n 0, 1) := by decide +kernel
theorem dX1_close_41 : decode cX1_close 41 = .ok (.getfield 22, 3) := by decide +kernel
theorem dX1_close_44 : decode cX1_close 44 = .ok (.if_icmp .ge 56, 3) := by decide +kernel
theorem dX1_close_47 : decode cX1_close 47 = .ok (.aload_n 0, 1) := by decide +kernel
theorem dX1_close_48 : decode cX1_close 48 = .ok (.getfield 11, 3) := by decide +kernel
theorem dX1_close_51 : decode cX1_close 51 = .ok (.iload_n 1, 1) := by decide +kernel
theorem dX1_close_52 : decode cX1_close 52 = .ok (.aaload, 1) := by decide +kernel
theorem dX1_close_53 : decode cX1_close 53 = .ok (.iload 4, 2) := by decide +kernel
theorem dX1_close_55 : decode cX1_close 55 = .ok (.iaload, 1) := by decide +kernel
theorem dX1_close_56 : decode cX1_close 56 = .ok (.istore 5, 2) := by decide +kernel
theorem dX1_close_58 : decode cX1_close 58 = .ok (.iload 5, 2) := by decide +kernel
theorem dX1_close_60 : decode cX1_close 60 = .ok (.ldc 26, 2) := by decide +kernel
theorem dX1_close_62 : decode cX1_close 62 = .ok (.if_icmp .eq 32, 3) := by decide +kernel
theorem dX1_close_65 : decode cX1_close 65 = .ok (.iload_n 3, 1) := by decide +kernel
theorem dX1_close_66 : decode cX1_close 66 = .ok (.iload 5, 2) := by decide +kernel
theorem dX1_close_68 : decode cX1_close 68 = .ok (.iadd, 1) := by decide +kernel
theorem dX1_close_69 : decode cX1_close 69 = .ok (.aload_n 0, 1) := by decide +kernel
theorem dX1_close_70 : decode cX1_close 70 = .ok (.getfield 11, 3) := by decide +kernel
theorem dX1_close_73 : decode cX1_close 73 = .ok (.iload_n 2, 1) := by decide +kernel
theorem dX1_close_74 : decode cX1_close 74 = .ok (.aaload, 1) := by decide +kernel
theorem dX1_close_75 : decode cX1_close 75 = .ok (.iload 4, 2) := by decide +kernel
theorem dX1_close_77 : decode cX1_close 77 = .ok (.iaload, 1) := by decide +kernel
theorem dX1_close_78 : decode cX1_close 78 = .ok (.if_icmp .ge 16, 3) := by decide +kernel
theorem dX1_close_81 : decode cX1_close 81 = .ok (.aload_n 0, 1) := by decide +kernel
theorem dX1_close_82 : decode cX1_close 82 = .ok (.getfield 11, 3) := by decide +kernel
theorem dX1_close_85 : decode cX1_close 85 = .ok (.iload_n 2, 1) := by decide +kernel
theorem dX1_close_86 : decode cX1_close 86 = .ok (.aaload, 1) := by decide +kernel
theorem dX1_close_87 : decode cX1_close 87 = .ok (.iload 4, 2) := by decide +kernel
theorem dX1_close_89 : decode cX1_close 89 = .ok (.iload_n 3, 1) := by decide +kernel
theorem dX1_close_90 : decode cX1_close 90 = .ok (.iload 5, 2) := by decide +kernel
theorem dX1_close_92 : decode cX1_close 92 = .ok (.iadd, 1) := by decide +kernel
theorem dX1_close_93 : decode cX1_close 93 = .ok (.iastore, 1) := by decide +kernel
theorem dX1_close_94 : decode cX1_close 94 = .ok (.iinc 4 1, 3) := by decide +kernel
theorem dX1_close_97 : decode cX1_close 97 = .ok (.goto (-65), 3) := by decide +kernel
theorem dX1_close_100 : decode cX1_close 100 = .ok (.iinc 2 1, 3) := by decide +kernel
theorem dX1_close_103 : decode cX1_close 103 = .ok (.goto (-91), 3) := by decide +kernel
theorem dX1_close_106 : decode cX1_close 106 = .ok (.iinc 1 1, 3) := by decide +kernel
theorem dX1_close_109 : decode cX1_close 109 = .ok (.goto (-107), 3) := by decide +kernel
theorem dX1_close_112 : decode cX1_close 112 = .ok (.return_, 1) := by decide +kernel
theorem dX1_twiceMost_0 : decode cX1_twiceMost 0 = .ok (.aload_n 0, 1) := by decide +kernel
theorem dX1_twiceMost_1 : decode cX1_twiceMost 1 = .ok (.getfield 11, 3) := by decide +kernel
theorem dX1_twiceMost_4 : decode cX1_twiceMost 4 = .ok (.iconst 2, 1) := by decide +kernel
theorem dX1_twiceMost_5 : decode cX1_twiceMost 5 = .ok (.iload_n 1, 1) := by decide +kernel
theorem dX1_twiceMost_6 : decode cX1_twiceMost 6 = .ok (.imul, 1) := by decide +kernel
theorem dX1_twiceMost_7 : decode cX1_twiceMost 7 = .ok (.aaload, 1) := by decide +kernel
theorem dX1_twiceMost_8 : decode cX1_twiceMost 8 = .ok (.iconst 2, 1) := by decide +kernel
theorem dX1_twiceMost_9 : decode cX1_twiceMost 9 = .ok (.iload_n 1, 1) := by decide +kernel
theorem dX1_twiceMost_10 : decode cX1_twiceMost 10 = .ok (.imul, 1) := by decide +kernel
theorem dX1_twiceMost_11 : decode cX1_twiceMost 11 = .ok (.iconst 1, 1) := by decide +kernel
theorem dX1_twiceMost_12 : decode cX1_twiceMost 12 = .ok (.iadd, 1) := by decide +kernel
theorem dX1_twiceMost_13 : decode cX1_twiceMost 13 = .ok (.iaload, 1) := by decide +kernel
theorem dX1_twiceMost_14 : decode cX1_twiceMost 14 = .ok (.ireturn, 1) := by decide +kernel
theorem dX1_twiceLeast_0 : decode cX1_twiceLeast 0 = .ok (.aload_n 0, 1) := by decide +kernel
theorem dX1_twiceLeast_1 : decode cX1_twiceLeast 1 = .ok (.getfield 11, 3) := by decide +kernel
theorem dX1_twiceLeast_4 : decode cX1_twiceLeast 4 = .ok (.iconst 2, 1) := by decide +kernel
theorem dX1_twiceLeast_5 : decode cX1_twiceLeast 5 = .ok (.iload_n 1, 1) := by decide +kernel
theorem dX1_twiceLeast_6 : decode cX1_twiceLeast 6 = .ok (.imul, 1) := by decide +kernel
theorem dX1_twiceLeast_7 : decode cX1_twiceLeast 7 = .ok (.iconst 1, 1) := by decide +kernel
theorem dX1_twiceLeast_8 : decode cX1_twiceLeast 8 = .ok (.iadd, 1) := by decide +kernel
theorem dX1_twiceLeast_9 : decode cX1_twiceLeast 9 = .ok (.aaload, 1) := by decide +kernel
theorem dX1_twiceLeast_10 : decode cX1_twiceLeast 10 = .ok (.iconst 2, 1) := by decide +kernel
theorem dX1_twiceLeast_11 : decode cX1_twiceLeast 11 = .ok (.iload_n 1, 1) := by decide +kernel
theorem dX1_twiceLeast_12 : decode cX1_twiceLeast 12 = .ok (.imul, 1) := by decide +kernel
theorem dX1_twiceLeast_13 : decode cX1_twiceLeast 13 = .ok (.iaload, 1) := by decide +kernel
theorem dX1_twiceLeast_14 : decode cX1_twiceLeast 14 = .ok (.ineg, 1) := by decide +kernel
theorem dX1_twiceLeast_15 : decode cX1_twiceLeast 15 = .ok (.ireturn, 1) := by decide +kernel
set_option maxRecDepth 20000 in
theorem ggX1_twiceMostSum_X1_twiceMost : GoodIn wsX1_twiceMostSum wsX1_twiceMost := goodIn_r _ [6, 1, 15, 16] (by decide +kernel) (by decide +kernel)
set_option maxRecDepth 20000 in
theorem gX1_twiceMostSum_X1_twiceMost : GoodIn wsX1_twiceMostSum (wsV RX1 33 RX1 yX1_twiceMost wsX1_twiceMost) := goodIn_app (goodIn_of _ (by decide +kernel)) ggX1_twiceMostSum_X1_twiceMost
set_option maxRecDepth 20000 in
theorem ggX1_twiceMostSum_X1_tighter : GoodIn wsX1_twiceMostSum wsX1_tighter := goodIn_r _ [9, 10, 11, 12, 13, 14] (by decide +kernel) (by decide +kernel)
set_option maxRecDepth 20000 in
theorem gX1_twiceMostSum_X1_tighter : GoodIn wsX1_twiceMostSum (va_wsS RX1 37 yX1_tighter wsX1_tighter) := goodIn_app (goodIn_of _ (by decide +kernel)) ggX1_twiceMostSum_X1_tighter
theorem dX1_twiceMostSum_0 : decode cX1_twiceMostSum 0 = .ok (.aload_n 0, 1) := by decide +kernel
theorem dX1_twiceMostSum_1 : decode cX1_twiceMostSum 1 = .ok (.getfield 11, 3) := by decide +kernel
theorem dX1_twiceMostSum_4 : decode cX1_twiceMostSum 4 = .ok (.iconst 2, 1) := by decide +kernel
theorem dX1_twiceMostSum_5 : decode cX1_twiceMostSum 5 = .ok (.iload_n 1, 1) := by decide +kernel
theorem dX1_twiceMostSum_6 : decode cX1_twiceMostSum 6 = .ok (.imul, 1) := by decide +kernel
theorem dX1_twiceMostSum_7 : decode cX1_twiceMostSum 7 = .ok (.aaload, 1) := by decide +kernel
theorem dX1_twiceMostSum_8 : decode cX1_twiceMostSum 8 = .ok (.iconst 2, 1) := by decide +kernel
theorem dX1_twiceMostSum_9 : decode cX1_twiceMostSum 9 = .ok (.iload_n 2, 1) := by decide +kernel
theorem dX1_twiceMostSum_10 : decode cX1_twiceMostSum 10 = .ok (.imul, 1) := by decide +kernel
theorem dX1_twiceMostSum_11 : decode cX1_twiceMostSum 11 = .ok (.iconst 1, 1) := by decide +kernel
theorem dX1_twiceMostSum_12 : decode cX1_twiceMostSum 12 = .ok (.iadd, 1) := by decide +kernel
theorem dX1_twiceMostSum_13 : decode cX1_twiceMostSum 13 = .ok (.iaload, 1) := by decide +kernel
theorem dX1_twiceMostSum_14 : decode cX1_twiceMostSum 14 = .ok (.aload_n 0, 1) := by decide +kernel
theorem dX1_twiceMostSum_15 : decode cX1_twiceMostSum 15 = .ok (.iload_n 1, 1) := by decide +kernel
theorem dX1_twiceMostSum_16 : decode cX1_twiceMostSum 16 = .ok (.invokevirtual 33, 3) := by decide +kernel
theorem dX1_twiceMostSum_19 : decode cX1_twiceMostSum 19 = .ok (.aload_n 0, 1) := by decide +kernel
theorem dX1_twiceMostSum_20 : decode cX1_twiceMostSum 20 = .ok (.iload_n 2, 1) := by decide +kernel
theorem dX1_twiceMostSum_21 : decode cX1_twiceMostSum 21 = .ok (.invokevirtual 33, 3) := by decide +kernel
theorem dX1_twiceMostSum_24 : decode cX1_twiceMostSum 24 = .ok (.iadd, 1) := by decide +kernel
theorem dX1_twiceMostSum_25 : decode cX1_twiceMostSum 25 = .ok (.invokestatic 37, 3) := by decide +kernel
theorem dX1_twiceMostSum_28 : decode cX1_twiceMostSum 28 = .ok (.ireturn, 1) := by decide +kernel
set_option maxRecDepth 20000 in
theorem ggX1_twiceLeastSum_X1_twiceLeast : GoodIn wsX1_twiceLeastSum wsX1_twiceLeast := goodIn_r _ [6, 1, 15, 16] (by decide +kernel) (by decide +kernel)
set_option maxRecDepth 20000 in
theorem gX1_twiceLeastSum_X1_twiceLeast : GoodIn wsX1_twiceLeastSum (wsV RX1 40 RX1 yX1_twiceLeast wsX1_twiceLeast) := goodIn_app (goodIn_of _ (by decide +kernel)) ggX1_twiceLeastSum_X1_twiceLeast
set_option maxRecDepth 20000 in
theorem ggX1_twiceLeastSum_X1_tighter : GoodIn wsX1_twiceLeastSum wsX1_tighter := goodIn_r _ [9, 10, 11, 12, 13, 14] (by decide +kernel) (by decide +kernel)
set_option maxRecDepth 20000 in
theorem gX1_twiceLeastSum_X1_tighter : GoodIn wsX1_twiceLeastSum (va_wsS RX1 37 yX1_tighter wsX1_tighter) := goodIn_app (goodIn_of _ (by decide +kernel)) ggX1_twiceLeastSum_X1_tighter
theorem dX1_twiceLeastSum_0 : decode cX1_twiceLeastSum 0 = .ok (.aload_n 0, 1) := by decide +kernel
theorem dX1_twiceLeastSum_1 : decode cX1_twiceLeastSum 1 = .ok (.getfield 11, 3) := by decide +kernel
theorem dX1_twiceLeastSum_4 : decode cX1_twiceLeastSum 4 = .ok (.iconst 2, 1) := by decide +kernel
theorem dX1_twiceLeastSum_5 : decode cX1_twiceLeastSum 5 = .ok (.iload_n 1, 1) := by decide +kernel
theorem dX1_twiceLeastSum_6 : decode cX1_twiceLeastSum 6 = .ok (.imul, 1) := by decide +kernel
theorem dX1_twiceLeastSum_7 : decode cX1_twiceLeastSum 7 = .ok (.iconst 1, 1) := by decide +kernel
theorem dX1_twiceLeastSum_8 : decode cX1_twiceLeastSum 8 = .ok (.iadd, 1) := by decide +kernel
theorem dX1_twiceLeastSum_9 : decode cX1_twiceLeastSum 9 = .ok (.aaload, 1) := by decide +kernel
theorem dX1_twiceLeastSum_10 : decode cX1_twiceLeastSum 10 = .ok (.iconst 2, 1) := by decide +kernel
theorem dX1_twiceLeastSum_11 : decode cX1_twiceLeastSum 11 = .ok (.iload_n 2, 1) := by decide +kernel
theorem dX1_twiceLeastSum_12 : decode cX1_twiceLeastSum 12 = .ok (.imul, 1) := by decide +kernel
theorem dX1_twiceLeastSum_13 : decode cX1_twiceLeastSum 13 = .ok (.iaload, 1) := by decide +kernel
theorem dX1_twiceLeastSum_14 : decode cX1_twiceLeastSum 14 = .ok (.aload_n 0, 1) := by decide +kernel
theorem dX1_twiceLeastSum_15 : decode cX1_twiceLeastSum 15 = .ok (.iload_n 1, 1) := by decide +kernel
theorem dX1_twiceLeastSum_16 : decode cX1_twiceLeastSum 16 = .ok (.invokevirtual 40, 3) := by decide +kernel
theorem dX1_twiceLeastSum_19 : decode cX1_twiceLeastSum 19 = .ok (.ineg, 1) := by decide +kernel
theorem dX1_twiceLeastSum_20 : decode cX1_twiceLeastSum 20 = .ok (.aload_n 0, 1) := by decide +kernel
theorem dX1_twiceLeastSum_21 : decode cX1_twiceLeastSum 21 = .ok (.iload_n 2, 1) := by decide +kernel
theorem dX1_twiceLeastSum_22 : decode cX1_twiceLeastSum 22 = .ok (.invokevirtual 40, 3) := by decide +kernel
theorem dX1_twiceLeastSum_25 : decode cX1_twiceLeastSum 25 = .ok (.isub, 1) := by decide +kernel
theorem dX1_twiceLeastSum_26 : decode cX1_twiceLeastSum 26 = .ok (.invokestatic 37, 3) := by decide +kernel
theorem dX1_twiceLeastSum_29 : decode cX1_twiceLeastSum 29 = .ok (.ineg, 1) := by decide +kernel
theorem dX1_twiceLeastSum_30 : decode cX1_twiceLeastSum 30 = .ok (.ireturn, 1) := by decide +kernel
set_option maxRecDepth 20000 in
theorem ggX1_twiceMostAhead_X1_twiceMost : GoodIn wsX1_twiceMostAhead wsX1_twiceMost := goodIn_r _ [6, 1, 19, 20] (by decide +kernel) (by decide +kernel)
set_option maxRecDepth 20000 in
theorem gX1_twiceMostAhead_X1_twiceMost : GoodIn wsX1_twiceMostAhead (wsV RX1 33 RX1 yX1_twiceMost wsX1_twiceMost) := goodIn_app (goodIn_of _ (by decide +kernel)) ggX1_twiceMostAhead_X1_twiceMost
set_option maxRecDepth 20000 in
theorem ggX1_twiceMostAhead_X1_twiceLeast : GoodIn wsX1_twiceMostAhead wsX1_twiceLeast := goodIn_r _ [10, 1, 19, 20] (by decide +kernel) (by decide +kernel)
set_option maxRecDepth 20000 in
theorem gX1_twiceMostAhead_X1_twiceLeast : GoodIn wsX1_twiceMostAhead (wsV RX1 40 RX1 yX1_twiceLeast wsX1_twiceLeast) := goodIn_app (goodIn_of _ (by decide +kernel)) ggX1_twiceMostAhead_X1_twiceLeast
set_option maxRecDepth 20000 in
theorem ggX1_twiceMostAhead_X1_tighter : GoodIn wsX1_twiceMostAhead wsX1_tighter := goodIn_r _ [13, 14, 15, 16, 17, 18] (by decide +kernel) (by decide +kernel)
set_option maxRecDepth 20000 in
theorem gX1_twiceMostAhead_X1_tighter : GoodIn wsX1_twiceMostAhead (va_wsS RX1 37 yX1_tighter wsX1_tighter) := goodIn_app (goodIn_of _ (by decide +kernel)) ggX1_twiceMostAhead_X1_tighter
theorem dX1_twiceMostAhead_0 : decode cX1_twiceMostAhead 0 = .ok (.aload_n 0, 1) := by decide +kernel
theorem dX1_twiceMostAhead_1 : decode cX1_twiceMostAhead 1 = .ok (.getfield 11, 3) := by decide +kernel
theorem dX1_twiceMostAhead_4 : decode cX1_twiceMostAhead 4 = .ok (.iconst 2, 1) := by decide +kernel
theorem dX1_twiceMostAhead_5 : decode cX1_twiceMostAhead 5 = .ok (.iload_n 1, 1) := by decide +kernel
theorem dX1_twiceMostAhead_6 : decode cX1_twiceMostAhead 6 = .ok (.imul, 1) := by decide +kernel
theorem dX1_twiceMostAhead_7 : decode cX1_twiceMostAhead 7 = .ok (.aaload, 1) := by decide +kernel
theorem dX1_twiceMostAhead_8 : decode cX1_twiceMostAhead 8 = .ok (.iconst 2, 1) := by decide +kernel
theorem dX1_twiceMostAhead_9 : decode cX1_twiceMostAhead 9 = .ok (.iload_n 2, 1) := by decide +kernel
theorem dX1_twiceMostAhead_10 : decode cX1_twiceMostAhead 10 = .ok (.imul, 1) := by decide +kernel
theorem dX1_twiceMostAhead_11 : decode cX1_twiceMostAhead 11 = .ok (.iaload, 1) := by decide +kernel
theorem dX1_twiceMostAhead_12 : decode cX1_twiceMostAhead 12 = .ok (.aload_n 0, 1) := by decide +kernel
theorem dX1_twiceMostAhead_13 : decode cX1_twiceMostAhead 13 = .ok (.iload_n 1, 1) := by decide +kernel
theorem dX1_twiceMostAhead_14 : decode cX1_twiceMostAhead 14 = .ok (.invokevirtual 33, 3) := by decide +kernel
theorem dX1_twiceMostAhead_17 : decode cX1_twiceMostAhead 17 = .ok (.aload_n 0, 1) := by decide +kernel
theorem dX1_twiceMostAhead_18 : decode cX1_twiceMostAhead 18 = .ok (.iload_n 2, 1) := by decide +kernel
theorem dX1_twiceMostAhead_19 : decode cX1_twiceMostAhead 19 = .ok (.invokevirtual 40, 3) := by decide +kernel
theorem dX1_twiceMostAhead_22 : decode cX1_twiceMostAhead 22 = .ok (.isub, 1) := by decide +kernel
theorem dX1_twiceMostAhead_23 : decode cX1_twiceMostAhead 23 = .ok (.invokestatic 37, 3) := by decide +kernel
theorem dX1_twiceMostAhead_26 : decode cX1_twiceMostAhead 26 = .ok (.ireturn, 1) := by decide +kernel
theorem dX1_tighter_0 : decode cX1_tighter 0 = .ok (.iload_n 0, 1) := by decide +kernel
theorem dX1_tighter_1 : decode cX1_tighter 1 = .ok (.ldc 26, 2) := by decide +kernel
theorem dX1_tighter_3 : decode cX1_tighter 3 = .ok (.if_icmp .ne 7, 3) := by decide +kernel
theorem dX1_tighter_6 : decode cX1_tighter 6 = .ok (.iload_n 1, 1) := by decide +kernel
theorem dX1_tighter_7 : decode cX1_tighter 7 = .ok (.goto 10, 3) := by decide +kernel
theorem dX1_tighter_10 : decode cX1_tighter 10 = .ok (.iconst 2, 1) := by decide +kernel
theorem dX1_tighter_11 : decode cX1_tighter 11 = .ok (.iload_n 0, 1) := by decide +kernel
theorem dX1_tighter_12 : decode cX1_tighter 12 = .ok (.imul, 1) := by decide +kernel
theorem dX1_tighter_13 : decode cX1_tighter 13 = .ok (.iload_n 1, 1) := by decide +kernel
theorem dX1_tighter_14 : decode cX1_tighter 14 = .ok (.invokestatic 16, 3) := by decide +kernel
theorem dX1_tighter_17 : decode cX1_tighter 17 = .ok (.ireturn, 1) := by decide +kernel
theorem dX2_init_0 : decode cX2_init 0 = .ok (.aload_n 0, 1) := by decide +kernel
theorem dX2_init_1 : decode cX2_init 1 = .ok (.invokespecial 3, 3) := by decide +kernel
theorem dX2_init_4 : decode cX2_init 4 = .ok (.aload_n 0, 1) := by decide +kernel
theorem dX2_init_5 : decode cX2_init 5 = .ok (.iconst 0, 1) := by decide +kernel
theorem dX2_init_6 : decode cX2_init 6 = .ok (.iload_n 1, 1) := by decide +kernel
theorem dX2_init_7 : decode cX2_init 7 = .ok (.invokestatic 9, 3) := by decide +kernel
theorem dX2_init_10 : decode cX2_init 10 = .ok (.newarray .byte, 2) := by decide +kernel
theorem dX2_init_12 : decode cX2_init 12 = .ok (.putfield 15, 3) := by decide +kernel
theorem dX2_init_15 : decode cX2_init 15 = .ok (.return_, 1) := by decide +kernel
theorem dX2_size_0 : decode cX2_size 0 = .ok (.aload_n 0, 1) := by decide +kernel
theorem dX2_size_1 : decode cX2_size 1 = .ok (.getfield 21, 3) := by decide +kernel
theorem dX2_size_4 : decode cX2_size 4 = .ok (.ireturn, 1) := by decide +kernel
theorem dX2_hasRoom_0 : decode cX2_hasRoom 0 = .ok (.aload_n 0, 1) := by decide +kernel
theorem dX2_hasRoom_1 : decode cX2_hasRoom 1 = .ok (.getfield 21, 3) := by decide +kernel
theorem dX2_hasRoom_4 : decode cX2_hasRoom 4 = .ok (.iload_n 1, 1) := by decide +kernel
theorem dX2_hasRoom_5 : decode cX2_hasRoom 5 = .ok (.iadd, 1) := by decide +kernel
theorem dX2_hasRoom_6 : decode cX2_hasRoom 6 = .ok (.aload_n 0, 1) := by decide +kernel
theorem dX2_hasRoom_7 : decode cX2_hasRoom 7 = .ok (.getfield 15, 3) := by decide +kernel
theorem dX2_hasRoom_10 : decode cX2_hasRoom 10 = .ok (.arraylength, 1) := by decide +kernel
theorem dX2_hasRoom_11 : decode cX2_hasRoom 11 = .ok (.if_icmp .gt 7, 3) := by decide +kernel
theorem dX2_hasRoom_14 : decode cX2_hasRoom 14 = .ok (.iconst 1, 1) := by decide +kernel
theorem dX2_hasRoom_15 : decode cX2_hasRoom 15 = .ok (.goto 4, 3) := by decide +kernel
theorem dX2_hasRoom_18 : decode cX2_hasRoom 18 = .ok (.iconst 0, 1) := by decide +kernel
theorem dX2_hasRoom_19 : decode cX2_hasRoom 19 = .ok (.ireturn, 1) := by decide +kernel
theorem dX2_at_0 : decode cX2_at 0 = .ok (.iload_n 1, 1) := by decide +kernel
theorem dX2_at_1 : decode cX2_at 1 = .ok (.ifCond .lt 24, 3) := by decide +kernel
theorem dX2_at_4 : decode cX2_at 4 = .ok (.iload_n 1, 1) := by decide +kernel
theorem dX2_at_5 : decode cX2_at 5 = .ok (.aload_n 0, 1) := by decide +kernel
theorem dX2_at_6 : decode cX2_at 6 = .ok (.getfield 21, 3) := by decide +kernel
theorem dX2_at_9 : decode cX2_at 9 = .ok (.if_icmp .ge 16, 3) := by decide +kernel
theorem dX2_at_12 : decode cX2_at 12 = .ok (.aload_n 0, 1) := by decide +kernel
theorem dX2_at_13 : decode cX2_at 13 = .ok (.getfield 15, 3) := by decide +kernel
theorem dX2_at_16 : decode cX2_at 16 = .ok (.iload_n 1, 1) := by decide +kernel
theorem dX2_at_17 : decode cX2_at 17 = .ok (.baload, 1) := by decide +kernel
theorem dX2_at_18 : decode cX2_at 18 = .ok (.sipush 255, 3) := by decide +kernel
theorem dX2_at_21 : decode cX2_at 21 = .ok (.iand, 1) := by decide +kernel
theorem dX2_at_22 : decode cX2_at 22 = .ok (.goto 4, 3) := by decide +kernel
theorem dX2_at_25 : decode cX2_at 25 = .ok (.iconst (-1), 1) := by decide +kernel
theorem dX2_at_26 : decode cX2_at 26 = .ok (.ireturn, 1) := by decide +kernel
theorem dX2_put_0 : decode cX2_put 0 = .ok (.aload_n 0, 1) := by decide +kernel
theorem dX2_put_1 : decode cX2_put 1 = .ok (.getfield 21, 3) := by decide +kernel
theorem dX2_put_4 : decode cX2_put 4 = .ok (.aload_n 0, 1) := by decide +kernel
theorem dX2_put_5 : decode cX2_put 5 = .ok (.getfield 15, 3) := by decide +kernel
theorem dX2_put_8 : decode cX2_put 8 = .ok (.arraylength, 1) := by decide +kernel
theorem dX2_put_9 : decode cX2_put 9 = .ok (.if_icmp .ge 24, 3) := by decide +kernel
theorem dX2_put_12 : decode cX2_put 12 = .ok (.aload_n 0, 1) := by decide +kernel
theorem dX2_put_13 : decode cX2_put 13 = .ok (.getfield 15, 3) := by decide +kernel
theorem dX2_put_16 : decode cX2_put 16 = .ok (.aload_n 0, 1) := by decide +kernel
theorem dX2_put_17 : decode cX2_put 17 = .ok (.getfield 21, 3) := by decide +kernel
theorem dX2_put_20 : decode cX2_put 20 = .ok (.iload_n 1, 1) := by decide +kernel
theorem dX2_put_21 : decode cX2_put 21 = .ok (.i2b, 1) := by decide +kernel
theorem dX2_put_22 : decode cX2_put 22 = .ok (.bastore, 1) := by decide +kernel
theorem dX2_put_23 : decode cX2_put 23 = .ok (.aload_n 0, 1) := by decide +kernel
theorem dX2_put_24 : decode cX2_put 24 = .ok (.dup, 1) := by decide +kernel
theorem dX2_put_25 : decode cX2_put 25 = .ok (.getfield 21, 3) := by decide +kernel
theorem dX2_put_28 : decode cX2_put 28 = .ok (.iconst 1, 1) := by decide +kernel
theorem dX2_put_29 : decode cX2_put 29 = .ok (.iadd, 1) := by decide +kernel
theorem dX2_put_30 : decode cX2_put 30 = .ok (.putfield 21, 3) := by decide +kernel
theorem dX2_put_33 : decode cX2_put 33 = .ok (.return_, 1) := by decide +kernel
set_option maxRecDepth 20000 in
theorem ggX2_putNumber_X2_putTwo : GoodIn wsX2_putNumber wsX2_putTwo := goodIn_r _ [5, 6, 7, 8, 4, 9, 10, 11, 12, 13] (by decide +kernel) (by decide +kernel)
set_option maxRecDepth 20000 in
theorem gX2_putNumber_X2_putTwo : GoodIn wsX2_putNumber (wsV RX2 25 RX2 yX2_putTwo wsX2_putTwo) := goodIn_app (goodIn_of _ (by decide +kernel)) ggX2_putNumber_X2_putTwo
theorem dX2_putNumber_0 : decode cX2_putNumber 0 = .ok (.aload_n 0, 1) := by decide +kernel
theorem dX2_putNumber_1 : decode cX2_putNumber 1 = .ok (.iload_n 1, 1) := by decide +kernel
theorem dX2_putNumber_2 : decode cX2_putNumber 2 = .ok (.bipush 16, 2) := by decide +kernel
theorem dX2_putNumber_4 : decode cX2_putNumber 4 = .ok (.ishr, 1) := by decide +kernel
theorem dX2_putNumber_5 : decode cX2_putNumber 5 = .ok (.invokevirtual 25, 3) := by decide +kernel
theorem dX2_putNumber_8 : decode cX2_putNumber 8 = .ok (.aload_n 0, 1) := by decide +kernel
theorem dX2_putNumber_9 : decode cX2_putNumber 9 = .ok (.iload_n 1, 1) := by decide +kernel
theorem dX2_putNumber_10 : decode cX2_putNumber 10 = .ok (.invokevirtual 25, 3) := by decide +kernel
theorem dX2_putNumber_13 : decode cX2_putNumber 13 = .ok (.return_, 1) := by decide +kernel
set_option maxRecDepth 20000 in
theorem ggX2_putTwo_X2_put : GoodIn wsX2_putTwo wsX2_put := goodIn_r _ [5, 6, 7, 8, 9] (by decide +kernel) (by decide +kernel)
set_option maxRecDepth 20000 in
theorem gX2_putTwo_X2_put : GoodIn wsX2_putTwo (wsV RX2 29 RX2 yX2_put wsX2_put) := goodIn_app (goodIn_of _ (by decide +kernel)) ggX2_putTwo_X2_put
theorem dX2_putTwo_0 : decode cX2_putTwo 0 = .ok (.aload_n 0, 1) := by decide +kernel
theorem dX2_putTwo_1 : decode cX2_putTwo 1 = .ok (.iload_n 1, 1) := by decide +kernel
theorem dX2_putTwo_2 : decode cX2_putTwo 2 = .ok (.bipush 8, 2) := by decide +kernel
theorem dX2_putTwo_4 : decode cX2_putTwo 4 = .ok (.ishr, 1) := by decide +kernel
theorem dX2_putTwo_5 : decode cX2_putTwo 5 = .ok (.invokevirtual 29, 3) := by decide +kernel
theorem dX2_putTwo_8 : decode cX2_putTwo 8 = .ok (.aload_n 0, 1) := by decide +kernel
theorem dX2_putTwo_9 : decode cX2_putTwo 9 = .ok (.iload_n 1, 1) := by decide +kernel
theorem dX2_putTwo_10 : decode cX2_putTwo 10 = .ok (.invokevirtual 29, 3) := by decide +kernel
theorem dX2_putTwo_13 : decode cX2_putTwo 13 = .ok (.return_, 1) := by decide +kernel
theorem dX2_cut_0 : decode cX2_cut 0 = .ok (.iload_n 1, 1) := by decide +kernel
theorem dX2_cut_1 : decode cX2_cut 1 = .ok (.ifCond .lt 11, 3) := by decide +kernel
theorem dX2_cut_4 : decode cX2_cut 4 = .ok (.iload_n 1, 1) := by decide +kernel
theorem dX2_cut_5 : decode cX2_cut 5 = .ok (.aload_n 0, 1) := by decide +kernel
theorem dX2_cut_6 : decode cX2_cut 6 = .ok (.getfield 21, 3) := by decide +kernel
theorem dX2_cut_9 : decode cX2_cut 9 = .ok (.if_icmp .le 5, 3) := by decide +kernel
theorem dX2_cut_12 : decode cX2_cut 12 = .ok (.iconst 0, 1) := by decide +kernel
theorem dX2_cut_13 : decode cX2_cut 13 = .ok (.ireturn, 1) := by decide +kernel
theorem dX2_cut_14 : decode cX2_cut 14 = .ok (.aload_n 0, 1) := by decide +kernel
theorem dX2_cut_15 : decode cX2_cut 15 = .ok (.iload_n 1, 1) := by decide +kernel
theorem dX2_cut_16 : decode cX2_cut 16 = .ok (.putfield 21, 3) := by decide +kernel
theorem dX2_cut_19 : decode cX2_cut 19 = .ok (.iconst 1, 1) := by decide +kernel
theorem dX2_cut_20 : decode cX2_cut 20 = .ok (.ireturn, 1) := by decide +kernel
set_option maxRecDepth 20000 in
theorem ggX2_twoAt_X2_at : GoodIn wsX2_twoAt wsX2_at := goodIn_r _ [5, 6, 7, 8, 9] (by decide +kernel) (by decide +kernel)
set_option maxRecDepth 20000 in
theorem gX2_twoAt_X2_at : GoodIn wsX2_twoAt (wsV RX2 32 RX2 yX2_at wsX2_at) := goodIn_app (goodIn_of _ (by decide +kernel)) ggX2_twoAt_X2_at
theorem dX2_twoAt_0 : decode cX2_twoAt 0 = .ok (.aload_n 0, 1) := by decide +kernel

