theorem dX8_write_0 : decode cX8_write 0 = .ok (.iload_n 1, 1) := by decide +kernel
theorem dX8_write_1 : decode cX8_write 1 = .ok (.iconst 1, 1) := by decide +kernel
theorem dX8_write_2 : decode cX8_write 2 = .ok (.if_icmp .lt 9, 3) := by decide +kernel
theorem dX8_write_5 : decode cX8_write 5 = .ok (.iload_n 1, 1) := by decide +kernel
theorem dX8_write_6 : decode cX8_write 6 = .ok (.bipush 8, 2) := by decide +kernel
theorem dX8_write_8 : decode cX8_write 8 = .ok (.if_icmp .le 6, 3) := by decide +kernel
theorem dX8_write_11 : decode cX8_write 11 = .ok (.bipush (-2), 2) := by decide +kernel
theorem dX8_write_13 : decode cX8_write 13 = .ok (.ireturn, 1) := by decide +kernel
theorem dX8_write_14 : decode cX8_write 14 = .ok (.aload_n 0, 1) := by decide +kernel
theorem dX8_write_15 : decode cX8_write 15 = .ok (.getfield 10, 3) := by decide +kernel
theorem dX8_write_18 : decode cX8_write 18 = .ok (.getfield 79, 3) := by decide +kernel
theorem dX8_write_21 : decode cX8_write 21 = .ok (.iload_n 1, 1) := by decide +kernel
theorem dX8_write_22 : decode cX8_write 22 = .ok (.iadd, 1) := by decide +kernel
theorem dX8_write_23 : decode cX8_write 23 = .ok (.bipush 96, 2) := by decide +kernel
theorem dX8_write_25 : decode cX8_write 25 = .ok (.if_icmp .le 6, 3) := by decide +kernel
theorem dX8_write_28 : decode cX8_write 28 = .ok (.bipush (-4), 2) := by decide +kernel
theorem dX8_write_30 : decode cX8_write 30 = .ok (.ireturn, 1) := by decide +kernel
theorem dX8_write_31 : decode cX8_write 31 = .ok (.iload_n 1, 1) := by decide +kernel
theorem dX8_write_32 : decode cX8_write 32 = .ok (.iconst 1, 1) := by decide +kernel
theorem dX8_write_33 : decode cX8_write 33 = .ok (.isub, 1) := by decide +kernel
theorem dX8_write_34 : decode cX8_write 34 = .ok (.istore 4, 2) := by decide +kernel
theorem dX8_write_36 : decode cX8_write 36 = .ok (.iload 4, 2) := by decide +kernel
theorem dX8_write_38 : decode cX8_write 38 = .ok (.ifCond .lt 28, 3) := by decide +kernel
theorem dX8_write_41 : decode cX8_write 41 = .ok (.aload_n 0, 1) := by decide +kernel
theorem dX8_write_42 : decode cX8_write 42 = .ok (.getfield 10, 3) := by decide +kernel
theorem dX8_write_45 : decode cX8_write 45 = .ok (.lload_n 2, 1) := by decide +kernel
theorem dX8_write_46 : decode cX8_write 46 = .ok (.bipush 8, 2) := by decide +kernel
theorem dX8_write_48 : decode cX8_write 48 = .ok (.iload 4, 2) := by decide +kernel
theorem dX8_write_50 : decode cX8_write 50 = .ok (.imul, 1) := by decide +kernel
theorem dX8_write_51 : decode cX8_write 51 = .ok (.lushr, 1) := by decide +kernel
theorem dX8_write_52 : decode cX8_write 52 = .ok (.l2i, 1) := by decide +kernel
theorem dX8_write_53 : decode cX8_write 53 = .ok (.sipush 255, 3) := by decide +kernel
theorem dX8_write_56 : decode cX8_write 56 = .ok (.iand, 1) := by decide +kernel
theorem dX8_write_57 : decode cX8_write 57 = .ok (.invokevirtual 82, 3) := by decide +kernel
theorem dX8_write_60 : decode cX8_write 60 = .ok (.iinc 4 (-1), 3) := by decide +kernel
theorem dX8_write_63 : decode cX8_write 63 = .ok (.goto (-27), 3) := by decide +kernel
theorem dX8_write_66 : decode cX8_write 66 = .ok (.aload_n 0, 1) := by decide +kernel
theorem dX8_write_67 : decode cX8_write 67 = .ok (.getfield 10, 3) := by decide +kernel
theorem dX8_write_70 : decode cX8_write 70 = .ok (.getfield 79, 3) := by decide +kernel
theorem dX8_write_73 : decode cX8_write 73 = .ok (.ireturn, 1) := by decide +kernel
theorem dX8_wipe_0 : decode cX8_wipe 0 = .ok (.aload_n 0, 1) := by decide +kernel
theorem dX8_wipe_1 : decode cX8_wipe 1 = .ok (.getfield 10, 3) := by decide +kernel
theorem dX8_wipe_4 : decode cX8_wipe 4 = .ok (.getfield 79, 3) := by decide +kernel
theorem dX8_wipe_7 : decode cX8_wipe 7 = .ok (.istore_n 1, 1) := by decide +kernel
theorem dX8_wipe_8 : decode cX8_wipe 8 = .ok (.aload_n 0, 1) := by decide +kernel
theorem dX8_wipe_9 : decode cX8_wipe 9 = .ok (.getfield 10, 3) := by decide +kernel
theorem dX8_wipe_12 : decode cX8_wipe 12 = .ok (.iconst 0, 1) := by decide +kernel
theorem dX8_wipe_13 : decode cX8_wipe 13 = .ok (.putfield 79, 3) := by decide +kernel
theorem dX8_wipe_16 : decode cX8_wipe 16 = .ok (.iload_n 1, 1) := by decide +kernel
theorem dX8_wipe_17 : decode cX8_wipe 17 = .ok (.ireturn, 1) := by decide +kernel
set_option maxRecDepth 20000 in
theorem ggX8_fault_X6_findFault : GoodIn wsX8_fault wsX6_findFault := goodIn_r _ [5, 6, 7, 8, 9, 10, 11, 12, 3, 13, 14, 15, 16, 17, 18, 19, 20, 21, 22, 23, 24, 25, 26, 27, 28, 29, 30, 31, 32, 33, 34, 35, 36, 37, 38, 39, 40, 41, 42, 43, 55, 56, 57, 58, 59, 60, 61, 62, 63, 64] (by decide +kernel) (by decide +kernel)
set_option maxRecDepth 20000 in
theorem gX8_fault_X6_findFault_n86 : GoodIn wsX8_fault (wsX6_findFault) := ggX8_fault_X6_findFault
theorem dX8_fault_0 : decode cX8_fault 0 = .ok (.aload_n 0, 1) := by decide +kernel
theorem dX8_fault_1 : decode cX8_fault 1 = .ok (.getfield 10, 3) := by decide +kernel
theorem dX8_fault_4 : decode cX8_fault 4 = .ok (.invokevirtual 86, 3) := by decide +kernel
theorem dX8_fault_7 : decode cX8_fault 7 = .ok (.ireturn, 1) := by decide +kernel
set_option maxRecDepth 20000 in
theorem ggX8_town_X6_findFault : GoodIn wsX8_town wsX6_findFault := goodIn_r _ [9, 10, 11, 12, 13, 14, 15, 16, 7, 17, 18, 19, 20, 21, 22, 23, 24, 25, 26, 27, 28, 29, 30, 31, 32, 33, 34, 35, 36, 37, 38, 39, 40, 41, 42, 43, 44, 45, 46, 47, 76, 77, 78, 79, 80, 81, 82, 95, 96, 97] (by decide +kernel) (by decide +kernel)
set_option maxRecDepth 20000 in
theorem gX8_town_X6_findFault_n86 : GoodIn wsX8_town (wsX6_findFault) := ggX8_town_X6_findFault
set_option maxRecDepth 20000 in
theorem ggX8_town_X1_beginTown : GoodIn wsX8_town wsX1_beginTown := goodIn_r _ [51, 52, 53, 54, 55, 56, 57, 58, 59, 60, 76, 77, 78, 79, 80, 81, 82, 83, 84, 85, 86, 87, 88, 89, 90, 91, 92, 93, 94] (by decide +kernel) (by decide +kernel)
set_option maxRecDepth 20000 in
theorem gX8_town_X1_beginTown_n90 : GoodIn wsX8_town (wsX1_beginTown) := ggX8_town_X1_beginTown
set_option maxRecDepth 20000 in
theorem ggX8_town_X2_become : GoodIn wsX8_town wsX2_become := goodIn_r _ [63, 46, 64, 56, 57, 58, 47, 45, 95, 96, 97] (by decide +kernel) (by decide +kernel)
set_option maxRecDepth 20000 in
theorem gX8_town_X2_become_n97 : GoodIn wsX8_town (wsX2_become) := ggX8_town_X2_become
theorem dX8_town_0 : decode cX8_town 0 = .ok (.aload_n 0, 1) := by decide +kernel
theorem dX8_town_1 : decode cX8_town 1 = .ok (.getfield 10, 3) := by decide +kernel
theorem dX8_town_4 : decode cX8_town 4 = .ok (.invokevirtual 86, 3) := by decide +kernel
theorem dX8_town_7 : decode cX8_town 7 = .ok (.bipush (-9), 2) := by decide +kernel
theorem dX8_town_9 : decode cX8_town 9 = .ok (.if_icmp .eq 6, 3) := by decide +kernel
theorem dX8_town_12 : decode cX8_town 12 = .ok (.bipush (-3), 2) := by decide +kernel
theorem dX8_town_14 : decode cX8_town 14 = .ok (.ireturn, 1) := by decide +kernel
theorem dX8_town_15 : decode cX8_town 15 = .ok (.aload_n 0, 1) := by decide +kernel
theorem dX8_town_16 : decode cX8_town 16 = .ok (.getfield 26, 3) := by decide +kernel
theorem dX8_town_19 : decode cX8_town 19 = .ok (.aload_n 0, 1) := by decide +kernel
theorem dX8_town_20 : decode cX8_town 20 = .ok (.getfield 10, 3) := by decide +kernel
theorem dX8_town_23 : decode cX8_town 23 = .ok (.invokevirtual 90, 3) := by decide +kernel
theorem dX8_town_26 : decode cX8_town 26 = .ok (.aload_n 0, 1) := by decide +kernel
theorem dX8_town_27 : decode cX8_town 27 = .ok (.getfield 19, 3) := by decide +kernel
theorem dX8_town_30 : decode cX8_town 30 = .ok (.aload_n 0, 1) := by decide +kernel
theorem dX8_town_31 : decode cX8_town 31 = .ok (.getfield 10, 3) := by decide +kernel
theorem dX8_town_34 : decode cX8_town 34 = .ok (.getfield 94, 3) := by decide +kernel
theorem dX8_town_37 : decode cX8_town 37 = .ok (.invokevirtual 97, 3) := by decide +kernel
theorem dX8_town_40 : decode cX8_town 40 = .ok (.aload_n 0, 1) := by decide +kernel
theorem dX8_town_41 : decode cX8_town 41 = .ok (.getfield 30, 3) := by decide +kernel
theorem dX8_town_44 : decode cX8_town 44 = .ok (.iconst 0, 1) := by decide +kernel
theorem dX8_town_45 : decode cX8_town 45 = .ok (.putfield 101, 3) := by decide +kernel
theorem dX8_town_48 : decode cX8_town 48 = .ok (.aload_n 0, 1) := by decide +kernel
theorem dX8_town_49 : decode cX8_town 49 = .ok (.getfield 33, 3) := by decide +kernel
theorem dX8_town_52 : decode cX8_town 52 = .ok (.iconst 0, 1) := by decide +kernel
theorem dX8_town_53 : decode cX8_town 53 = .ok (.putfield 101, 3) := by decide +kernel
theorem dX8_town_56 : decode cX8_town 56 = .ok (.aload_n 0, 1) := by decide +kernel
theorem dX8_town_57 : decode cX8_town 57 = .ok (.getfield 26, 3) := by decide +kernel
theorem dX8_town_60 : decode cX8_town 60 = .ok (.getfield 75, 3) := by decide +kernel
theorem dX8_town_63 : decode cX8_town 63 = .ok (.ireturn, 1) := by decide +kernel
set_option maxRecDepth 20000 in
theorem ggX8_purse_X1_isPerson : GoodIn wsX8_purse wsX1_isPerson := goodIn_r _ [5, 6, 18, 19, 20, 21, 22, 23, 24, 25, 26, 27, 28, 29] (by decide +kernel) (by decide +kernel)
set_option maxRecDepth 20000 in
theorem gX8_purse_X1_isPerson_n105 : GoodIn wsX8_purse (wsX1_isPerson) := ggX8_purse_X1_isPerson
theorem dX8_purse_0 : decode cX8_purse 0 = .ok (.aload_n 0, 1) := by decide +kernel
theorem dX8_purse_1 : decode cX8_purse 1 = .ok (.getfield 26, 3) := by decide +kernel
theorem dX8_purse_4 : decode cX8_purse 4 = .ok (.iload_n 1, 1) := by decide +kernel
theorem dX8_purse_5 : decode cX8_purse 5 = .ok (.invokevirtual 105, 3) := by decide +kernel
theorem dX8_purse_8 : decode cX8_purse 8 = .ok (.ifCond .ne 5, 3) := by decide +kernel
theorem dX8_purse_11 : decode cX8_purse 11 = .ok (.iconst (-1), 1) := by decide +kernel
theorem dX8_purse_12 : decode cX8_purse 12 = .ok (.ireturn, 1) := by decide +kernel
theorem dX8_purse_13 : decode cX8_purse 13 = .ok (.aload_n 0, 1) := by decide +kernel
theorem dX8_purse_14 : decode cX8_purse 14 = .ok (.getfield 26, 3) := by decide +kernel
theorem dX8_purse_17 : decode cX8_purse 17 = .ok (.getfield 109, 3) := by decide +kernel
theorem dX8_purse_20 : decode cX8_purse 20 = .ok (.iload_n 1, 1) := by decide +kernel
theorem dX8_purse_21 : decode cX8_purse 21 = .ok (.iaload, 1) := by decide +kernel
theorem dX8_purse_22 : decode cX8_purse 22 = .ok (.ireturn, 1) := by decide +kernel
set_option maxRecDepth 20000 in
theorem ggX8_fill_X1_isPerson : GoodIn wsX8_fill wsX1_isPerson := goodIn_r _ [5, 6, 23, 24, 25, 26, 27, 28, 29, 30, 31, 32, 33, 34] (by decide +kernel) (by decide +kernel)
set_option maxRecDepth 20000 in
theorem gX8_fill_X1_isPerson_n105 : GoodIn wsX8_fill (wsX1_isPerson) := ggX8_fill_X1_isPerson
set_option maxRecDepth 20000 in
theorem ggX8_fill_X8_isSum : GoodIn wsX8_fill wsX8_isSum := goodIn_r _ [10, 11] (by decide +kernel) (by decide +kernel)
set_option maxRecDepth 20000 in
theorem gX8_fill_X8_isSum : GoodIn wsX8_fill (va_wsS RX8 112 yX8_isSum wsX8_isSum) := goodIn_app (goodIn_of _ (by decide +kernel)) ggX8_fill_X8_isSum
theorem dX8_fill_0 : decode cX8_fill 0 = .ok (.aload_n 0, 1) := by decide +kernel
theorem dX8_fill_1 : decode cX8_fill 1 = .ok (.getfield 26, 3) := by decide +kernel
theorem dX8_fill_4 : decode cX8_fill 4 = .ok (.iload_n 1, 1) := by decide +kernel
theorem dX8_fill_5 : decode cX8_fill 5 = .ok (.invokevirtual 105, 3) := by decide +kernel
theorem dX8_fill_8 : decode cX8_fill 8 = .ok (.ifCond .ne 5, 3) := by decide +kernel
theorem dX8_fill_11 : decode cX8_fill 11 = .ok (.iconst (-1), 1) := by decide +kernel
theorem dX8_fill_12 : decode cX8_fill 12 = .ok (.ireturn, 1) := by decide +kernel
theorem dX8_fill_13 : decode cX8_fill 13 = .ok (.iload_n 2, 1) := by decide +kernel
theorem dX8_fill_14 : decode cX8_fill 14 = .ok (.invokestatic 112, 3) := by decide +kernel
theorem dX8_fill_17 : decode cX8_fill 17 = .ok (.ifCond .ne 6, 3) := by decide +kernel
theorem dX8_fill_20 : decode cX8_fill 20 = .ok (.bipush (-2), 2) := by decide +kernel
theorem dX8_fill_22 : decode cX8_fill 22 = .ok (.ireturn, 1) := by decide +kernel
theorem dX8_fill_23 : decode cX8_fill 23 = .ok (.aload_n 0, 1) := by decide +kernel
theorem dX8_fill_24 : decode cX8_fill 24 = .ok (.getfield 26, 3) := by decide +kernel
theorem dX8_fill_27 : decode cX8_fill 27 = .ok (.getfield 109, 3) := by decide +kernel
theorem dX8_fill_30 : decode cX8_fill 30 = .ok (.iload_n 1, 1) := by decide +kernel
theorem dX8_fill_31 : decode cX8_fill 31 = .ok (.iaload, 1) := by decide +kernel
theorem dX8_fill_32 : decode cX8_fill 32 = .ok (.istore_n 3, 1) := by decide +kernel
theorem dX8_fill_33 : decode cX8_fill 33 = .ok (.aload_n 0, 1) := by decide +kernel
theorem dX8_fill_34 : decode cX8_fill 34 = .ok (.getfield 26, 3) := by decide +kernel
theorem dX8_fill_37 : decode cX8_fill 37 = .ok (.getfield 109, 3) := by decide +kernel
theorem dX8_fill_40 : decode cX8_fill 40 = .ok (.iload_n 1, 1) := by decide +kernel
theorem dX8_fill_41 : decode cX8_fill 41 = .ok (.iload_n 2, 1) := by decide +kernel
theorem dX8_fill_42 : decode cX8_fill 42 = .ok (.iastore, 1) := by decide +kernel
theorem dX8_fill_43 : decode cX8_fill 43 = .ok (.aload_n 0, 1) := by decide +kernel
theorem dX8_fill_44 : decode cX8_fill 44 = .ok (.getfield 26, 3) := by decide +kernel
theorem dX8_fill_47 : decode cX8_fill 47 = .ok (.iconst 0, 1) := by decide +kernel
theorem dX8_fill_48 : decode cX8_fill 48 = .ok (.putfield 115, 3) := by decide +kernel
theorem dX8_fill_51 : decode cX8_fill 51 = .ok (.iload_n 3, 1) := by decide +kernel
theorem dX8_fill_52 : decode cX8_fill 52 = .ok (.ireturn, 1) := by decide +kernel
theorem dX8_law_0 : decode cX8_law 0 = .ok (.iload_n 1, 1) := by decide +kernel
theorem dX8_law_1 : decode cX8_law 1 = .ok (.ifCond .lt 8, 3) := by decide +kernel
theorem dX8_law_4 : decode cX8_law 4 = .ok (.iload_n 1, 1) := by decide +kernel
theorem dX8_law_5 : decode cX8_law 5 = .ok (.iconst 4, 1) := by decide +kernel
theorem dX8_law_6 : decode cX8_law 6 = .ok (.if_icmp .lt 6, 3) := by decide +kernel
theorem dX8_law_9 : decode cX8_law 9 = .ok (.bipush (-2), 2) := by decide +kernel
theorem dX8_law_11 : decode cX8_law 11 = .ok (.ireturn, 1) := by decide +kernel
theorem dX8_law_12 : decode cX8_law 12 = .ok (.aload_n 0, 1) := by decide +kernel
theorem dX8_law_13 : decode cX8_law 13 = .ok (.getfield 26, 3) := by decide +kernel
theorem dX8_law_16 : decode cX8_law 16 = .ok (.getfield 118, 3) := by decide +kernel
theorem dX8_law_19 : decode cX8_law 19 = .ok (.istore_n 2, 1) := by decide +kernel
theorem dX8_law_20 : decode cX8_law 20 = .ok (.aload_n 0, 1) := by decide +kernel
theorem dX8_law_21 : decode cX8_law 21 = .ok (.getfield 26, 3) := by decide +kernel
theorem dX8_law_24 : decode cX8_law 24 = .ok (.iload_n 1, 1) := by decide +kernel
theorem dX8_law_25 : decode cX8_law 25 = .ok (.putfield 118, 3) := by decide +kernel
theorem dX8_law_28 : decode cX8_law 28 = .ok (.iload_n 2, 1) := by decide +kernel
theorem dX8_law_29 : decode cX8_law 29 = .ok (.ireturn, 1) := by decide +kernel
set_option maxRecDepth 20000 in
theorem ggX8_daily_X2_has : GoodIn wsX8_daily wsX2_has := goodIn_r _ [5, 6, 18, 19, 20] (by decide +kernel) (by decide +kernel)
set_option maxRecDepth 20000 in
theorem gX8_daily_X2_has_n121 : GoodIn wsX8_daily (wsX2_has) := ggX8_daily_X2_has
theorem dX8_daily_0 : decode cX8_daily 0 = .ok (.iload_n 2, 1) := by decide +kernel
theorem dX8_daily_1 : decode cX8_daily 1 = .ok (.ifCond .lt 8, 3) := by decide +kernel
theorem dX8_daily_4 : decode cX8_daily 4 = .ok (.iload_n 2, 1) := by decide +kernel
theorem dX8_daily_5 : decode cX8_daily 5 = .ok (.iconst 1, 1) := by decide +kernel
theorem dX8_daily_6 : decode cX8_daily 6 = .ok (.if_icmp .le 6, 3) := by decide +kernel
theorem dX8_daily_9 : decode cX8_daily 9 = .ok (.bipush (-2), 2) := by decide +kernel
theorem dX8_daily_11 : decode cX8_daily 11 = .ok (.ireturn, 1) := by decide +kernel
theorem dX8_daily_12 : decode cX8_daily 12 = .ok (.aload_n 0, 1) := by decide +kernel
theorem dX8_daily_13 : decode cX8_daily 13 = .ok (.getfield 19, 3) := by decide +kernel
theorem dX8_daily_16 : decode cX8_daily 16 = .ok (.iload_n 1, 1) := by decide +kernel
theorem dX8_daily_17 : decode cX8_daily 17 = .ok (.invokevirtual 121, 3) := by decide +kernel
theorem dX8_daily_20 : decode cX8_daily 20 = .ok (.ifCond .ne 6, 3) := by decide +kernel
theorem dX8_daily_23 : decode cX8_daily 23 = .ok (.bipush (-9), 2) := by decide +kernel
theorem dX8_daily_25 : decode cX8_daily 25 = .ok (.ireturn, 1) := by decide +kernel
theorem dX8_daily_26 : decode cX8_daily 26 = .ok (.iload_n 2, 1) := by decide +kernel
theorem dX8_daily_27 : decode cX8_daily 27 = .ok (.ifCond .ne 15, 3) := by decide +kernel
theorem dX8_daily_30 : decode cX8_daily 30 = .ok (.aload_n 0, 1) := by decide +kernel
theorem dX8_daily_31 : decode cX8_daily 31 = .ok (.getfield 19, 3) := by decide +kernel
theorem dX8_daily_34 : decode cX8_daily 34 = .ok (.getfield 124, 3) := by decide +kernel
theorem dX8_daily_37 : decode cX8_daily 37 = .ok (.iload_n 1, 1) := by decide +kernel
theorem dX8_daily_38 : decode cX8_daily 38 = .ok (.iaload, 1) := by decide +kernel
theorem dX8_daily_39 : decode cX8_daily 39 = .ok (.goto 12, 3) := by decide +kernel
theorem dX8_daily_42 : decode cX8_daily 42 = .ok (.aload_n 0, 1) := by decide +kernel
theorem dX8_daily_43 : decode cX8_daily 43 = .ok (.getfield 19, 3) := by decide +kernel
theorem dX8_daily_46 : decode cX8_daily 46 = .ok (.getfield 127, 3) := by decide +kernel
theorem dX8_daily_49 : decode cX8_daily 49 = .ok (.iload_n 1, 1) := by decide +kernel
theorem dX8_daily_50 : decode cX8_daily 50 = .ok (.iaload, 1) := by decide +kernel
theorem dX8_daily_51 : decode cX8_daily 51 = .ok (.ireturn, 1) := by decide +kernel
set_option maxRecDepth 20000 in
theorem ggX8_shared_X8_refusalOfTwo : GoodIn wsX8_shared wsX8_refusalOfTwo := goodIn_r _ [6, 1, 7, 8, 9, 10, 11, 19, 20, 21, 22, 23, 24, 25, 26, 27, 28, 29, 30, 31, 32, 33, 34, 35, 36, 37, 38, 39, 40, 41] (by decide +kernel) (by decide +kernel)
set_option maxRecDepth 20000 in
theorem gX8_shared_X8_refusalOfTwo : GoodIn wsX8_shared (wsV RX8 130 RX8 yX8_refusalOfTwo wsX8_refusalOfTwo) := goodIn_app (goodIn_of _ (by decide +kernel)) ggX8_shared_X8_refusalOfTwo
set_option maxRecDepth 20000 in
theorem ggX8_shared_X8_sharedBy : GoodIn wsX8_shared wsX8_sharedBy := goodIn_r _ [14, 15, 16, 5, 17, 18] (by decide +kernel) (by decide +kernel)
set_option maxRecDepth 20000 in
theorem gX8_shared_X8_sharedBy : GoodIn wsX8_shared (va_wsS RX8 134 yX8_sharedBy wsX8_sharedBy) := goodIn_app (goodIn_of _ (by decide +kernel)) ggX8_shared_X8_sharedBy
theorem dX8_shared_0 : decode cX8_shared 0 = .ok (.aload_n 0, 1) := by decide +kernel
theorem dX8_shared_1 : decode cX8_shared 1 = .ok (.iload_n 1, 1) := by decide +kernel
theorem dX8_shared_2 : decode cX8_shared 2 = .ok (.iload_n 2, 1) := by decide +kernel
theorem dX8_shared_3 : decode cX8_shared 3 = .ok (.invokevirtual 130, 3) := by decide +kernel
theorem dX8_shared_6 : decode cX8_shared 6 = .ok (.istore_n 3, 1) := by decide +kernel
theorem dX8_shared_7 : decode cX8_shared 7 = .ok (.iload_n 3, 1) := by decide +kernel
theorem dX8_shared_8 : decode cX8_shared 8 = .ok (.ifCond .eq 5, 3) := by decide +kernel
theorem dX8_shared_11 : decode cX8_shared 11 = .ok (.iload_n 3, 1) := by decide +kernel
theorem dX8_shared_12 : decode cX8_shared 12 = .ok (.ireturn, 1) := by decide +kernel
theorem dX8_shared_13 : decode cX8_shared 13 = .ok (.aload_n 0, 1) := by decide +kernel
theorem dX8_shared_14 : decode cX8_shared 14 = .ok (.getfield 26, 3) := by decide +kernel
theorem dX8_shared_17 : decode cX8_shared 17 = .ok (.getfield 109, 3) := by decide +kernel
theorem dX8_shared_20 : decode cX8_shared 20 = .ok (.iload_n 1, 1) := by decide +kernel
theorem dX8_shared_21 : decode cX8_shared 21 = .ok (.iaload, 1) := by decide +kernel
theorem dX8_shared_22 : decode cX8_shared 22 = .ok (.aload_n 0, 1) := by decide +kernel
theorem dX8_shared_23 : decode cX8_shared 23 = .ok (.getfield 26, 3) := by decide +kernel
theorem dX8_shared_26 : decode cX8_shared 26 = .ok (.getfield 109, 3) := by decide +kernel
theorem dX8_shared_29 : decode cX8_shared 29 = .ok (.iload_n 2, 1) := by decide +kernel
theorem dX8_shared_30 : decode cX8_shared 30 = .ok (.iaload, 1) := by decide +kernel
theorem dX8_shared_31 : decode cX8_shared 31 = .ok (.invokestatic 134, 3) := by decide +kernel
theorem dX8_shared_34 : decode cX8_shared 34 = .ok (.ireturn, 1) := by decide +kernel
set_option maxRecDepth 20000 in
theorem ggX8_meet_X8_refusalOfTwo : GoodIn wsX8_meet wsX8_refusalOfTwo := goodIn_r _ [7, 1, 8, 9, 10, 11, 12, 49, 50, 51, 52, 53, 54, 55, 56, 57, 58, 59, 60, 61, 62, 63, 64, 65, 66, 67, 68, 69, 70, 71] (by decide +kernel) (by decide +kernel)
set_option maxRecDepth 20000 in
theorem gX8_meet_X8_refusalOfTwo : GoodIn wsX8_meet (wsV RX8 130 RX8 yX8_refusalOfTwo wsX8_refusalOfTwo) := goodIn_app (goodIn_of _ (by decide +kernel)) ggX8_meet_X8_refusalOfTwo
set_option maxRecDepth 20000 in
theorem ggX8_meet_X1_addMeeting : GoodIn wsX8_meet wsX1_addMeeting := goodIn_r _ [15, 16, 17, 18, 19, 20, 21, 22, 23, 6, 24, 25, 26, 27, 28, 29, 30, 31, 32, 33, 34, 35, 36, 37, 38, 39, 40, 41, 42, 43, 44, 45, 46, 47, 48, 60, 61, 62, 63, 64, 65, 66, 67, 68, 69, 70, 71] (by decide +kernel) (by decide +kernel)
set_option maxRecDepth 20000 in
theorem gX8_meet_X1_addMeeting_n137 : GoodIn wsX8_meet (wsX1_addMeeting) := ggX8_meet_X1_addMeeting
theorem dX8_meet_0 : decode cX8_meet 0 = .ok (.aload_n 0, 1) := by decide +kernel
theorem dX8_meet_1 : decode cX8_meet 1 = .ok (.iload_n 1, 1) := by decide +kernel
theorem dX8_meet_2 : decode cX8_meet 2 = .ok (.iload_n 2, 1) := by decide +kernel
theorem dX8_meet_3 : decode cX8_meet 3 = .ok (.invokevirtual 130, 3) := by decide +kernel
theorem dX8_meet_6 : decode cX8_meet 6 = .ok (.istore_n 3, 1) := by decide +kernel
theorem dX8_meet_7 : decode cX8_meet 7 = .ok (.iload_n 3, 1) := by decide +kernel
theorem dX8_meet_8 : decode cX8_meet 8 = .ok (.ifCond .eq 5, 3) := by decide +kernel
theorem dX8_meet_11 : decode cX8_meet 11 = .ok (.iload_n 3, 1) := by decide +kernel
theorem dX8_meet_12 : decode cX8_meet 12 = .ok (.ireturn, 1) := by decide +kernel
theorem dX8_meet_13 : decode cX8_meet 13 = .ok (.aload_n 0, 1) := by decide +kernel
theorem dX8_meet_14 : decode cX8_meet 14 = .ok (.getfield 26, 3) := by decide +kernel
theorem dX8_meet_17 : decode cX8_meet 17 = .ok (.getfield 115, 3) := by decide +kernel
theorem dX8_meet_20 : decode cX8_meet 20 = .ok (.bipush 32, 2) := by decide +kernel
theorem dX8_meet_22 : decode cX8_meet 22 = .ok (.if_icmp .lt 6, 3) := by decide +kernel
theorem dX8_meet_25 : decode cX8_meet 25 = .ok (.bipush (-4), 2) := by decide +kernel
theorem dX8_meet_27 : decode cX8_meet 27 = .ok (.ireturn, 1) := by decide +kernel
theorem dX8_meet_28 : decode cX8_meet 28 = .ok (.aload_n 0, 1) := by decide +kernel
theorem dX8_meet_29 : decode cX8_meet 29 = .ok (.getfield 26, 3) := by decide +kernel
theorem dX8_meet_32 : decode cX8_meet 32 = .ok (.getfield 109, 3) := by decide +kernel
theorem dX8_meet_35 : decode cX8_meet 35 = .ok (.iload_n 1, 1) := by decide +kernel
theorem dX8_meet_36 : decode cX8_meet 36 = .ok (.iaload, 1) := by decide +kernel
theorem dX8_meet_37 : decode cX8_meet 37 = .ok (.istore 4, 2) := by decide +kernel
theorem dX8_meet_39 : decode cX8_meet 39 = .ok (.aload_n 0, 1) := by decide +kernel
theorem dX8_meet_40 : decode cX8_meet 40 = .ok (.getfield 26, 3) := by decide +kernel
theorem dX8_meet_43 : decode cX8_meet 43 = .ok (.iload_n 1, 1) := by decide +kernel
theorem dX8_meet_44 : decode cX8_meet 44 = .ok (.iload_n 2, 1) := by decide +kernel
theorem dX8_meet_45 : decode cX8_meet 45 = .ok (.invokevirtual 137, 3) := by decide +kernel
theorem dX8_meet_48 : decode cX8_meet 48 = .ok (.aload_n 0, 1) := by decide +kernel
theorem dX8_meet_49 : decode cX8_meet 49 = .ok (.getfield 26, 3) := by decide +kernel
theorem dX8_meet_52 : decode cX8_meet 52 = .ok (.getfield 109, 3) := by decide +kernel
theorem dX8_meet_55 : decode cX8_meet 55 = .ok (.iload_n 1, 1) := by decide +kernel
theorem dX8_meet_56 : decode cX8_meet 56 = .ok (.iaload, 1) := by decide +kernel
theorem dX8_meet_57 : decode cX8_meet 57 = .ok (.iload 4, 2) := by decide +kernel
theorem dX8_meet_59 : decode cX8_meet 59 = .ok (.isub, 1) := by decide +kernel
theorem dX8_meet_60 : decode cX8_meet 60 = .ok (.ldc 141, 2) := by decide +kernel
theorem dX8_meet_62 : decode cX8_meet 62 = .ok (.iadd, 1) := by decide +kernel
theorem dX8_meet_63 : decode cX8_meet 63 = .ok (.ireturn, 1) := by decide +kernel
set_option maxRecDepth 20000 in
theorem ggX8_back_X1_takeBack : GoodIn wsX8_back wsX1_takeBack := goodIn_r _ [5, 6, 7, 8, 9, 10, 11, 23, 24, 25, 26, 27, 28, 29, 30, 31, 32, 33, 34] (by decide +kernel) (by decide +kernel)
set_option maxRecDepth 20000 in
theorem gX8_back_X1_takeBack_n142 : GoodIn wsX8_back (wsX1_takeBack) := ggX8_back_X1_takeBack
theorem dX8_back_0 : decode cX8_back 0 = .ok (.aload_n 0, 1) := by decide +kernel
theorem dX8_back_1 : decode cX8_back 1 = .ok (.getfield 26, 3) := by decide +kernel
theorem dX8_back_4 : decode cX8_back 4 = .ok (.getfield 115, 3) := by decide +kernel
theorem dX8_back_7 : decode cX8_back 7 = .ok (.iconst 1, 1) := by decide +kernel
theorem dX8_back_8 : decode cX8_back 8 = .ok (.if_icmp .ge 6, 3) := by decide +kernel
theorem dX8_back_11 : decode cX8_back 11 = .ok (.bipush (-3), 2) := by decide +kernel
theorem dX8_back_13 : decode cX8_back 13 = .ok (.ireturn, 1) := by decide +kernel
theorem dX8_back_14 : decode cX8_back 14 = .ok (.aload_n 0, 1) := by decide +kernel
theorem dX8_back_15 : decode cX8_back 15 = .ok (.getfield 26, 3) := by decide +kernel
theorem dX8_back_18 : decode cX8_back 18 = .ok (.invokevirtual 142, 3) := by decide +kernel
theorem dX8_back_21 : decode cX8_back 21 = .ok (.aload_n 0, 1) := by decide +kernel
theorem dX8_back_22 : decode cX8_back 22 = .ok (.getfield 26, 3) := by decide +kernel
theorem dX8_back_25 : decode cX8_back 25 = .ok (.getfield 115, 3) := by decide +kernel
theorem dX8_back_28 : decode cX8_back 28 = .ok (.ireturn, 1) := by decide +kernel
set_option maxRecDepth 20000 in
theorem ggX8_day_X2_makeAll : GoodIn wsX8_day wsX2_makeAll := goodIn_r _ [6, 7, 8, 9, 10, 4, 11, 12, 13, 14, 15, 16, 17, 18, 19, 20, 21, 22, 23, 24, 25, 26, 27, 28, 29, 30, 31, 32, 33, 34, 35, 36, 37, 38, 39, 40, 64, 65, 66] (by decide +kernel) (by decide +kernel)
set_option maxRecDepth 20000 in
theorem gX8_day_X2_makeAll_n145 : GoodIn wsX8_day (wsX2_makeAll) := ggX8_day_X2_makeAll
theorem dX8_day_0 : decode cX8_day 0 = .ok (.aload_n 0, 1) := by decide +kernel
theorem dX8_day_1 : decode cX8_day 1 = .ok (.getfield 26, 3) := by decide +kernel
theorem dX8_day_4 : decode cX8_day 4 = .ok (.iconst 0, 1) := by decide +kernel
theorem dX8_day_5 : decode cX8_day 5 = .ok (.putfield 115, 3) := by decide +kernel
theorem dX8_day_8 : decode cX8_day 8 = .ok (.aload_n 0, 1) := by decide +kernel
theorem dX8_day_9 : decode cX8_day 9 = .ok (.getfield 19, 3) := by decide +kernel
theorem dX8_day_12 : decode cX8_day 12 = .ok (.aload_n 0, 1) := by decide +kernel
theorem dX8_day_13 : decode cX8_day 13 = .ok (.getfield 26, 3) := by decide +kernel
theorem dX8_day_16 : decode cX8_day 16 = .ok (.getfield 109, 3) := by decide +kernel
theorem dX8_day_19 : decode cX8_day 19 = .ok (.aload_n 0, 1) := by decide +kernel
theorem dX8_day_20 : decode cX8_day 20 = .ok (.getfield 26, 3) := by decide +kernel
theorem dX8_day_23 : decode cX8_day 23 = .ok (.getfield 118, 3) := by decide +kernel
theorem dX8_day_26 : decode cX8_day 26 = .ok (.invokevirtual 145, 3) := by decide +kernel
theorem dX8_day_29 : decode cX8_day 29 = .ok (.ireturn, 1) := by decide +kernel
set_option maxRecDepth 20000 in
theorem ggX8_after_X1_isPerson : GoodIn wsX8_after wsX1_isPerson := goodIn_r _ [7, 8, 82, 83, 84, 85, 86, 87, 88, 89, 90, 91, 92, 93] (by decide +kernel) (by decide +kernel)
set_option maxRecDepth 20000 in
theorem gX8_after_X1_isPerson_n105 : GoodIn wsX8_after (wsX1_isPerson) := ggX8_after_X1_isPerson
set_option maxRecDepth 20000 in
theorem ggX8_after_X7_begin : GoodIn wsX8_after wsX7_begin := goodIn_r _ [12, 13, 14, 15, 16, 17, 18, 19, 20, 21, 22, 23, 94, 95, 96, 97, 98] (by decide +kernel) (by decide +kernel)
set_option maxRecDepth 20000 in
theorem gX8_after_X7_begin_n150 : GoodIn wsX8_after (wsX7_begin) := ggX8_after_X7_begin
set_option maxRecDepth 20000 in
theorem ggX8_after_X7_makeToRing : GoodIn wsX8_after wsX7_makeToRing := goodIn_r _ [26, 27, 28, 29, 30, 31, 32, 33, 34, 10, 35, 14, 15, 16, 13, 36, 37, 38, 39, 40, 41, 42, 43, 44, 45, 46, 47, 48, 49, 50, 51, 52, 53, 54, 55, 56, 18, 57, 23, 58, 59, 60, 61, 62, 63, 64, 65, 66, 67, 68, 69, 70, 17, 19, 20, 21, 22, 94, 95, 96, 97, 98] (by decide +kernel) (by decide +kernel)
set_option maxRecDepth 20000 in
theorem gX8_after_X7_makeToRing_n154 : GoodIn wsX8_after (wsX7_makeToRing) := ggX8_after_X7_makeToRing
set_option maxRecDepth 20000 in
theorem ggX8_after_X7_makeAlike : GoodIn wsX8_after wsX7_makeAlike := goodIn_r _ [61, 13, 14, 15, 16, 62, 18, 63, 64, 41, 30, 42, 65, 66, 29, 31, 67, 68, 69, 70, 48, 49, 17, 19, 20, 21, 22, 23, 94, 95, 96, 97, 98] (by decide +kernel) (by decide +kernel)
set_option maxRecDepth 20000 in
theorem gX8_after_X7_makeAlike_n158 : GoodIn wsX8_after (wsX7_makeAlike) := ggX8_after_X7_makeAlike
theorem dX8_after_0 : decode cX8_after 0 = .ok (.aload_n 0, 1) := by decide +kernel
theorem dX8_after_1 : decode cX8_after 1 = .ok (.getfield 26, 3) := by decide +kernel
theorem dX8_after_4 : decode cX8_after 4 = .ok (.iload_n 1, 1) := by decide +kernel
theorem dX8_after_5 : decode cX8_after 5 = .ok (.invokevirtual 105, 3) := by decide +kernel
theorem dX8_after_8 : decode cX8_after 8 = .ok (.ifCond .eq 14, 3) := by decide +kernel
theorem dX8_after_11 : decode cX8_after 11 = .ok (.aload_n 0, 1) := by decide +kernel
theorem dX8_after_12 : decode cX8_after 12 = .ok (.getfield 26, 3) := by decide +kernel
theorem dX8_after_15 : decode cX8_after 15 = .ok (.iload_n 2, 1) := by decide +kernel
theorem dX8_after_16 : decode cX8_after 16 = .ok (.invokevirtual 105, 3) := by decide +kernel
theorem dX8_after_19 : decode cX8_after 19 = .ok (.ifCond .ne 5, 3) := by decide +kernel
theorem dX8_after_22 : decode cX8_after 22 = .ok (.iconst (-1), 1) := by decide +kernel
theorem dX8_after_23 : decode cX8_after 23 = .ok (.ireturn, 1) := by decide +kernel
theorem dX8_after_24 : decode cX8_after 24 = .ok (.iload_n 3, 1) := by decide +kernel
theorem dX8_after_25 : decode cX8_after 25 = .ok (.ifCond .lt 9, 3) := by decide +kernel
theorem dX8_after_28 : decode cX8_after 28 = .ok (.iload_n 3, 1) := by decide +kernel
theorem dX8_after_29 : decode cX8_after 29 = .ok (.ldc 149, 2) := by decide +kernel
theorem dX8_after_31 : decode cX8_after 31 = .ok (.if_icmp .le 6, 3) := by decide +kernel
theorem dX8_after_34 : decode cX8_after 34 = .ok (.bipush (-2), 2) := by decide +kernel
theorem dX8_after_36 : decode cX8_after 36 = .ok (.ireturn, 1) := by decide +kernel
theorem dX8_after_37 : decode cX8_after 37 = .ok (.iload_n 1, 1) := by decide +kernel
theorem dX8_after_38 : decode cX8_after 38 = .ok (.iload_n 2, 1) := by decide +kernel
theorem dX8_after_39 : decode cX8_after 39 = .ok (.if_icmp .ne 6, 3) := by decide +kernel
theorem dX8_after_42 : decode cX8_after 42 = .ok (.bipush (-3), 2) := by decide +kernel
theorem dX8_after_44 : decode cX8_after 44 = .ok (.ireturn, 1) := by decide +kernel
theorem dX8_after_45 : decode cX8_after 45 = .ok (.aload_n 0, 1) := by decide +kernel
theorem dX8_after_46 : decode cX8_after 46 = .ok (.getfield 43, 3) := by decide +kernel
theorem dX8_after_49 : decode cX8_after 49 = .ok (.aload_n 0, 1) := by decide +kernel
theorem dX8_after_50 : decode cX8_after 50 = .ok (.getfield 26, 3) := by decide +kernel
theorem dX8_after_53 : decode cX8_after 53 = .ok (.getfield 118, 3) := by decide +kernel
theorem dX8_after_56 : decode cX8_after 56 = .ok (.aload_n 0, 1) := by decide +kernel
theorem dX8_after_57 : decode cX8_after 57 = .ok (.getfield 26, 3) := by decide +kernel
theorem dX8_after_60 : decode cX8_after 60 = .ok (.getfield 109, 3) := by decide +kernel
theorem dX8_after_63 : decode cX8_after 63 = .ok (.iload_n 1, 1) := by decide +kernel
theorem dX8_after_64 : decode cX8_after 64 = .ok (.iaload, 1) := by decide +kernel
theorem dX8_after_65 : decode cX8_after 65 = .ok (.aload_n 0, 1) := by decide +kernel
theorem dX8_after_66 : decode cX8_after 66 = .ok (.getfield 26, 3) := by decide +kernel
theorem dX8_after_69 : decode cX8_after 69 = .ok (.getfield 109, 3) := by decide +kernel
theorem dX8_after_72 : decode cX8_after 72 = .ok (.iload_n 2, 1) := by decide +kernel
theorem dX8_after_73 : decode cX8_after 73 = .ok (.iaload, 1) := by decide +kernel
theorem dX8_after_74 : decode cX8_after 74 = .ok (.invokevirtual 150, 3) := by decide +kernel
theorem dX8_after_77 : decode cX8_after 77 = .ok (.iload_n 3, 1) := by decide +kernel
theorem dX8_after_78 : decode cX8_after 78 = .ok (.aload_n 0, 1) := by decide +kernel
theorem dX8_after_79 : decode cX8_after 79 = .ok (.getfield 43, 3) := by decide +kernel
theorem dX8_after_82 : decode cX8_after 82 = .ok (.iload_n 3, 1) := by decide +kernel
theorem dX8_after_83 : decode cX8_after 83 = .ok (.invokevirtual 154, 3) := by decide +kernel
theorem dX8_after_86 : decode cX8_after 86 = .ok (.isub, 1) := by decide +kernel
theorem dX8_after_87 : decode cX8_after 87 = .ok (.istore 4, 2) := by decide +kernel
theorem dX8_after_89 : decode cX8_after 89 = .ok (.iload 4, 2) := by decide +kernel
theorem dX8_after_91 : decode cX8_after 91 = .ok (.iconst 2, 1) := by decide +kernel
theorem dX8_after_92 : decode cX8_after 92 = .ok (.irem, 1) := by decide +kernel
theorem dX8_after_93 : decode cX8_after 93 = .ok (.iconst 1, 1) := by decide +kernel
theorem dX8_after_94 : decode cX8_after 94 = .ok (.if_icmp .ne 11, 3) := by decide +kernel
theorem dX8_after_97 : decode cX8_after 97 = .ok (.aload_n 0, 1) := by decide +kernel
theorem dX8_after_98 : decode cX8_after 98 = .ok (.getfield 43, 3) := by decide +kernel
theorem dX8_after_101 : decode cX8_after 101 = .ok (.iconst 1, 1) := by decide +kernel
theorem dX8_after_102 : decode cX8_after 102 = .ok (.invokevirtual 158, 3) := by decide +kernel
theorem dX8_after_105 : decode cX8_after 105 = .ok (.aload_n 0, 1) := by decide +kernel
theorem dX8_after_106 : decode cX8_after 106 = .ok (.getfield 43, 3) := by decide +kernel
theorem dX8_after_109 : decode cX8_after 109 = .ok (.getfield 161, 3) := by decide +kernel
theorem dX8_after_112 : decode cX8_after 112 = .ok (.ireturn, 1) := by decide +kernel
set_option maxRecDepth 20000 in
theorem ggX8_ring_X8_refusalOfTwo : GoodIn wsX8_ring wsX8_refusalOfTwo := goodIn_r _ [8, 2, 9, 10, 11, 12, 13, 78, 79, 80, 81, 82, 83, 84, 85, 86, 87, 88, 89, 90, 91, 92, 93, 94, 95, 96, 97, 98, 99, 100] (by decide +kernel) (by decide +kernel)
set_option maxRecDepth 20000 in
theorem gX8_ring_X8_refusalOfTwo : GoodIn wsX8_ring (wsV RX8 130 RX8 yX8_refusalOfTwo wsX8_refusalOfTwo) := goodIn_app (goodIn_of _ (by decide +kernel)) ggX8_ring_X8_refusalOfTwo
set_option maxRecDepth 20000 in
theorem ggX8_ring_X7_begin : GoodIn wsX8_ring wsX7_begin := goodIn_r _ [17, 18, 19, 20, 21, 22, 7, 23, 24, 25, 26, 27, 101, 102, 103, 104, 105] (by decide +kernel) (by decide +kernel)
set_option maxRecDepth 20000 in
theorem gX8_ring_X7_begin_n150 : GoodIn wsX8_ring (wsX7_begin) := ggX8_ring_X7_begin
set_option maxRecDepth 20000 in
theorem ggX8_ring_X7_makeToRing : GoodIn wsX8_ring wsX7_makeToRing := goodIn_r _ [30, 31, 32, 33, 34, 35, 36, 37, 38, 15, 39, 19, 20, 21, 18, 40, 41, 42, 43, 44, 45, 46, 47, 48, 49, 50, 51, 52, 53, 54, 55, 56, 57, 58, 59, 60, 7, 61, 27, 62, 63, 64, 65, 66, 67, 68, 69, 70, 71, 72, 73, 74, 22, 23, 24, 25, 26, 101, 102, 103, 104, 105] (by decide +kernel) (by decide +kernel)
set_option maxRecDepth 20000 in
theorem gX8_ring_X7_makeToRing_n154 : GoodIn wsX8_ring (wsX7_makeToRing) := ggX8_ring_X7_makeToRing
set_option maxRecDepth 20000 in
theorem ggX8_ring_X7_ringLength : GoodIn wsX8_ring wsX7_ringLength := goodIn_r _ [77, 40, 41, 42, 15, 43, 19, 20, 44, 45, 34, 46, 21, 18, 36, 37, 38, 39, 101, 102, 103, 104, 105] (by decide +kernel) (by decide +kernel)
set_option maxRecDepth 20000 in
theorem gX8_ring_X7_ringLength_n164 : GoodIn wsX8_ring (wsX7_ringLength) := ggX8_ring_X7_ringLength
theorem dX8_ring_0 : decode cX8_ring 0 = .ok (.aload_n 0, 1) := by decide +kernel
theorem dX8_ring_1 : decode cX8_ring 1 = .ok (.iload_n 1, 1) := by decide +kernel
theorem dX8_ring_2 : decode cX8_ring 2 = .ok (.iload_n 2, 1) := by decide +kernel
theorem dX8_ring_3 : decode cX8_ring 3 = .ok (.invokevirtual 130, 3) := by decide +kernel
theorem dX8_ring_6 : decode cX8_ring 6 = .ok (.istore_n 3, 1) := by decide +kernel
theorem dX8_ring_7 : decode cX8_ring 7 = .ok (.iload_n 3, 1) := by decide +kernel
theorem dX8_ring_8 : decode cX8_ring 8 = .ok (.ifCond .eq 5, 3) := by decide +kernel
theorem dX8_ring_11 : decode cX8_ring 11 = .ok (.iload_n 3, 1) := by decide +kernel
theorem dX8_ring_12 : decode cX8_ring 12 = .ok (.ireturn, 1) := by decide +kernel
theorem dX8_ring_13 : decode cX8_ring 13 = .ok (.aload_n 0, 1) := by decide +kernel
theorem dX8_ring_14 : decode cX8_ring 14 = .ok (.getfield 43, 3) := by decide +kernel
theorem dX8_ring_17 : decode cX8_ring 17 = .ok (.aload_n 0, 1) := by decide +kernel
theorem dX8_ring_18 : decode cX8_ring 18 = .ok (.getfield 26, 3) := by decide +kernel
theorem dX8_ring_21 : decode cX8_ring 21 = .ok (.getfield 118, 3) := by decide +kernel
theorem dX8_ring_24 : decode cX8_ring 24 = .ok (.aload_n 0, 1) := by decide +kernel
theorem dX8_ring_25 : decode cX8_ring 25 = .ok (.getfield 26, 3) := by decide +kernel
theorem dX8_ring_28 : decode cX8_ring 28 = .ok (.getfield 109, 3) := by decide +kernel
theorem dX8_ring_31 : decode cX8_ring 31 = .ok (.iload_n 1, 1) := by decide +kernel
theorem dX8_ring_32 : decode cX8_ring 32 = .ok (.iaload, 1) := by decide +kernel
theorem dX8_ring_33 : decode cX8_ring 33 = .ok (.aload_n 0, 1) := by decide +kernel
theorem dX8_ring_34 : decode cX8_ring 34 = .ok (.getfield 26, 3) := by decide +kernel
theorem dX8_ring_37 : decode cX8_ring 37 = .ok (.getfield 109, 3) := by decide +kernel
theorem dX8_ring_40 : decode cX8_ring 40 = .ok (.iload_n 2, 1) := by decide +kernel
theorem dX8_ring_41 : decode cX8_ring 41 = .ok (.iaload, 1) := by decide +kernel
theorem dX8_ring_42 : decode cX8_ring 42 = .ok (.invokevirtual 150, 3) := by decide +kernel
theorem dX8_ring_45 : decode cX8_ring 45 = .ok (.aload_n 0, 1) := by decide +kernel
theorem dX8_ring_46 : decode cX8_ring 46 = .ok (.getfield 43, 3) := by decide +kernel
theorem dX8_ring_49 : decode cX8_ring 49 = .ok (.ldc 149, 2) := by decide +kernel
theorem dX8_ring_51 : decode cX8_ring 51 = .ok (.invokevirtual 154, 3) := by decide +kernel
theorem dX8_ring_54 : decode cX8_ring 54 = .ok (.pop, 1) := by decide +kernel
theorem dX8_ring_55 : decode cX8_ring 55 = .ok (.aload_n 0, 1) := by decide +kernel
theorem dX8_ring_56 : decode cX8_ring 56 = .ok (.getfield 43, 3) := by decide +kernel
theorem dX8_ring_59 : decode cX8_ring 59 = .ok (.invokevirtual 164, 3) := by decide +kernel
theorem dX8_ring_62 : decode cX8_ring 62 = .ok (.ireturn, 1) := by decide +kernel
set_option maxRecDepth 20000 in
theorem ggX8_lead_X8_refusalOfTwo : GoodIn wsX8_lead wsX8_refusalOfTwo := goodIn_r _ [8, 2, 9, 10, 11, 12, 13, 75, 76, 77, 78, 79, 80, 81, 82, 83, 84, 85, 86, 87, 88, 89, 90, 91, 92, 93, 94, 95, 96, 97] (by decide +kernel) (by decide +kernel)
set_option maxRecDepth 20000 in
theorem gX8_lead_X8_refusalOfTwo : GoodIn wsX8_lead (wsV RX8 130 RX8 yX8_refusalOfTwo wsX8_refusalOfTwo) := goodIn_app (goodIn_of _ (by decide +kernel)) ggX8_lead_X8_refusalOfTwo
set_option maxRecDepth 20000 in
theorem ggX8_lead_X7_begin : GoodIn wsX8_lead wsX7_begin := goodIn_r _ [17, 18, 19, 20, 21, 22, 7, 23, 24, 25, 26, 27, 98, 99, 100, 101, 102] (by decide +kernel) (by decide +kernel)
set_option maxRecDepth 20000 in
theorem gX8_lead_X7_begin_n150 : GoodIn wsX8_lead (wsX7_begin) := ggX8_lead_X7_begin
set_option maxRecDepth 20000 in
theorem ggX8_lead_X7_makeToRing : GoodIn wsX8_lead wsX7_makeToRing := goodIn_r _ [30, 31, 32, 33, 34, 35, 36, 37, 38, 15, 39, 19, 20, 21, 18, 40, 41, 42, 43, 44, 45, 46, 47, 48, 49, 50, 51, 52, 53, 54, 55, 56, 57, 58, 59, 60, 7, 61, 27, 62, 63, 64, 65, 66, 67, 68, 69, 70, 71, 72, 73, 74, 22, 23, 24, 25, 26, 98, 99, 100, 101, 102] (by decide +kernel) (by decide +kernel)
set_option maxRecDepth 20000 in
theorem gX8_lead_X7_makeToRing_n154 : GoodIn wsX8_lead (wsX7_makeToRing) := ggX8_lead_X7_makeToRing
theorem dX8_lead_0 : decode cX8_lead 0 = .ok (.aload_n 0, 1) := by decide +kernel
theorem dX8_lead_1 : decode cX8_lead 1 = .ok (.iload_n 1, 1) := by decide +kernel
theorem dX8_lead_2 : decode cX8_lead 2 = .ok (.iload_n 2, 1) := by decide +kernel
theorem dX8_lead_3 : decode cX8_lead 3 = .ok (.invokevirtual 130, 3) := by decide +kernel
theorem dX8_lead_6 : decode cX8_lead 6 = .ok (.istore_n 3, 1) := by decide +kernel
theorem dX8_lead_7 : decode cX8_lead 7 = .ok (.iload_n 3, 1) := by decide +kernel
theorem dX8_lead_8 : decode cX8_lead 8 = .ok (.ifCond .eq 5, 3) := by decide +kernel
theorem dX8_lead_11 : decode cX8_lead 11 = .ok (.iload_n 3, 1) := by decide +kernel
theorem dX8_lead_12 : decode cX8_lead 12 = .ok (.ireturn, 1) := by decide +kernel
theorem dX8_lead_13 : decode cX8_lead 13 = .ok (.aload_n 0, 1) := by decide +kernel
theorem dX8_lead_14 : decode cX8_lead 14 = .ok (.getfield 43, 3) := by decide +kernel
theorem dX8_lead_17 : decode cX8_lead 17 = .ok (.aload_n 0, 1) := by decide +kernel
theorem dX8_lead_18 : decode cX8_lead 18 = .ok (.getfield 26, 3) := by decide +kernel
theorem dX8_lead_21 : decode cX8_lead 21 = .ok (.getfield 118, 3) := by decide +kernel
theorem dX8_lead_24 : decode cX8_lead 24 = .ok (.aload_n 0, 1) := by decide +kernel
theorem dX8_lead_25 : decode cX8_lead 25 = .ok (.getfield 26, 3) := by decide +kernel
theorem dX8_lead_28 : decode cX8_lead 28 = .ok (.getfield 109, 3) := by decide +kernel
theorem dX8_lead_31 : decode cX8_lead 31 = .ok (.iload_n 1, 1) := by decide +kernel
theorem dX8_lead_32 : decode cX8_lead 32 = .ok (.iaload, 1) := by decide +kernel
theorem dX8_lead_33 : decode cX8_lead 33 = .ok (.aload_n 0, 1) := by decide +kernel
theorem dX8_lead_34 : decode cX8_lead 34 = .ok (.getfield 26, 3) := by decide +kernel
theorem dX8_lead_37 : decode cX8_lead 37 = .ok (.getfield 109, 3) := by decide +kernel
theorem dX8_lead_40 : decode cX8_lead 40 = .ok (.iload_n 2, 1) := by decide +kernel
theorem dX8_lead_41 : decode cX8_lead 41 = .ok (.iaload, 1) := by decide +kernel
theorem dX8_lead_42 : decode cX8_lead 42 = .ok (.invokevirtual 150, 3) := by decide +kernel
theorem dX8_lead_45 : decode cX8_lead 45 = .ok (.aload_n 0, 1) := by decide +kernel
theorem dX8_lead_46 : decode cX8_lead 46 = .ok (.getfield 43, 3) := by decide +kernel
theorem dX8_lead_49 : decode cX8_lead 49 = .ok (.ldc 149, 2) := by decide +kernel
theorem dX8_lead_51 : decode cX8_lead 51 = .ok (.invokevirtual 154, 3) := by decide +kernel
theorem dX8_lead_54 : decode cX8_lead 54 = .ok (.ireturn, 1) := by decide +kernel
set_option maxRecDepth 20000 in
theorem ggX8_later_X1_isPerson : GoodIn wsX8_later wsX1_isPerson := goodIn_r _ [11, 12, 62, 63, 64, 65, 66, 67, 68, 69, 70, 71, 72, 73] (by decide +kernel) (by decide +kernel)
set_option maxRecDepth 20000 in
theorem gX8_later_X1_isPerson_n105 : GoodIn wsX8_later (wsX1_isPerson) := ggX8_later_X1_isPerson
set_option maxRecDepth 20000 in
theorem ggX8_later_X2_makeAll : GoodIn wsX8_later wsX2_makeAll := goodIn_r _ [16, 17, 18, 19, 20, 14, 21, 22, 23, 24, 25, 26, 27, 28, 29, 30, 31, 32, 33, 34, 35, 36, 37, 38, 39, 40, 41, 42, 43, 44, 45, 46, 47, 48, 49, 50, 74, 75, 76] (by decide +kernel) (by decide +kernel)
set_option maxRecDepth 20000 in
theorem gX8_later_X2_makeAll_n145 : GoodIn wsX8_later (wsX2_makeAll) := ggX8_later_X2_makeAll
theorem dX8_later_0 : decode cX8_later 0 = .ok (.aload_n 0, 1) := by decide +kernel
theorem dX8_later_1 : decode cX8_later 1 = .ok (.getfield 26, 3) := by decide +kernel
theorem dX8_later_4 : decode cX8_later 4 = .ok (.iload_n 1, 1) := by decide +kernel
theorem dX8_later_5 : decode cX8_later 5 = .ok (.invokevirtual 105, 3) := by decide +kernel
theorem dX8_later_8 : decode cX8_later 8 = .ok (.ifCond .ne 5, 3) := by decide +kernel
theorem dX8_later_11 : decode cX8_later 11 = .ok (.iconst (-1), 1) := by decide +kernel
theorem dX8_later_12 : decode cX8_later 12 = .ok (.ireturn, 1) := by decide +kernel
theorem dX8_later_13 : decode cX8_later 13 = .ok (.iload_n 2, 1) := by decide +kernel
theorem dX8_later_14 : decode cX8_later 14 = .ok (.ifCond .lt 10, 3) := by decide +kernel
theorem dX8_later_17 : decode cX8_later 17 = .ok (.iload_n 2, 1) := by decide +kernel
theorem dX8_later_18 : decode cX8_later 18 = .ok (.sipush 300, 3) := by decide +kernel
theorem dX8_later_21 : decode cX8_later 21 = .ok (.if_icmp .le 6, 3) := by decide +kernel
theorem dX8_later_24 : decode cX8_later 24 = .ok (.bipush (-2), 2) := by decide +kernel
theorem dX8_later_26 : decode cX8_later 26 = .ok (.ireturn, 1) := by decide +kernel
theorem dX8_later_27 : decode cX8_later 27 = .ok (.aload_n 0, 1) := by decide +kernel
theorem dX8_later_28 : decode cX8_later 28 = .ok (.getfield 26, 3) := by decide +kernel
theorem dX8_later_31 : decode cX8_later 31 = .ok (.getfield 109, 3) := by decide +kernel
theorem dX8_later_34 : decode cX8_later 34 = .ok (.iconst 0, 1) := by decide +kernel
theorem dX8_later_35 : decode cX8_later 35 = .ok (.aload_n 0, 1) := by decide +kernel
theorem dX8_later_36 : decode cX8_later 36 = .ok (.getfield 36, 3) := by decide +kernel
theorem dX8_later_39 : decode cX8_later 39 = .ok (.iconst 0, 1) := by decide +kernel
theorem dX8_later_40 : decode cX8_later 40 = .ok (.bipush 8, 2) := by decide +kernel
theorem dX8_later_42 : decode cX8_later 42 = .ok (.invokestatic 167, 3) := by decide +kernel
theorem dX8_later_45 : decode cX8_later 45 = .ok (.iconst 1, 1) := by decide +kernel
theorem dX8_later_46 : decode cX8_later 46 = .ok (.istore_n 3, 1) := by decide +kernel
theorem dX8_later_47 : decode cX8_later 47 = .ok (.iconst 0, 1) := by decide +kernel
theorem dX8_later_48 : decode cX8_later 48 = .ok (.istore 4, 2) := by decide +kernel
theorem dX8_later_50 : decode cX8_later 50 = .ok (.iload 4, 2) := by decide +kernel
theorem dX8_later_52 : decode cX8_later 52 = .ok (.iload_n 2, 1) := by decide +kernel
theorem dX8_later_53 : decode cX8_later 53 = .ok (.if_icmp .ge 32, 3) := by decide +kernel
theorem dX8_later_56 : decode cX8_later 56 = .ok (.iload_n 3, 1) := by decide +kernel
theorem dX8_later_57 : decode cX8_later 57 = .ok (.ifCond .le 28, 3) := by decide +kernel
theorem dX8_later_60 : decode cX8_later 60 = .ok (.aload_n 0, 1) := by decide +kernel
theorem dX8_later_61 : decode cX8_later 61 = .ok (.getfield 19, 3) := by decide +kernel
theorem dX8_later_64 : decode cX8_later 64 = .ok (.aload_n 0, 1) := by decide +kernel
theorem dX8_later_65 : decode cX8_later 65 = .ok (.getfield 36, 3) := by decide +kernel
theorem dX8_later_68 : decode cX8_later 68 = .ok (.aload_n 0, 1) := by decide +kernel
theorem dX8_later_69 : decode cX8_later 69 = .ok (.getfield 26, 3) := by decide +kernel
theorem dX8_later_72 : decode cX8_later 72 = .ok (.getfield 118, 3) := by decide +kernel
theorem dX8_later_75 : decode cX8_later 75 = .ok (.invokevirtual 145, 3) := by decide +kernel
theorem dX8_later_78 : decode cX8_later 78 = .ok (.istore_n 3, 1) := by decide +kernel
theorem dX8_later_79 : decode cX8_later 79 = .ok (.iinc 4 1, 3) := by decide +kernel
theorem dX8_later_82 : decode cX8_later 82 = .ok (.goto (-32), 3) := by decide +kernel
theorem dX8_later_85 : decode cX8_later 85 = .ok (.aload_n 0, 1) := by decide +kernel
theorem dX8_later_86 : decode cX8_later 86 = .ok (.getfield 36, 3) := by decide +kernel
theorem dX8_later_89 : decode cX8_later 89 = .ok (.iload_n 1, 1) := by decide +kernel
theorem dX8_later_90 : decode cX8_later 90 = .ok (.iaload, 1) := by decide +kernel
theorem dX8_later_91 : decode cX8_later 91 = .ok (.ireturn, 1) := by decide +kernel
set_option maxRecDepth 20000 in
theorem ggX8_dayRing_X0_find : GoodIn wsX8_dayRing wsX0_find := goodIn_r _ [7, 8, 9, 10, 11, 12, 13, 14, 15, 16, 17, 18, 19, 20, 21, 22, 23, 24, 25, 26, 27, 28, 29, 30, 31, 32, 33, 34, 35, 36, 37, 38, 39, 40, 41, 42, 43, 44, 45, 46, 47, 48, 49, 50, 51, 52, 53, 54, 55, 56, 5, 57, 58, 59, 60, 61, 73, 74, 75, 76, 77, 78, 79, 80, 81, 82, 83, 84, 85, 86, 87, 88, 89, 90, 91] (by decide +kernel) (by decide +kernel)
set_option maxRecDepth 20000 in
theorem gX8_dayRing_X0_find_n173 : GoodIn wsX8_dayRing (wsX0_find) := ggX8_dayRing_X0_find
theorem dX8_dayRing_0 : decode cX8_dayRing 0 = .ok (.aload_n 0, 1) := by decide +kernel
theorem dX8_dayRing_1 : decode cX8_dayRing 1 = .ok (.getfield 50, 3) := by decide +kernel
theorem dX8_dayRing_4 : decode cX8_dayRing 4 = .ok (.aload_n 0, 1) := by decide +kernel
theorem dX8_dayRing_5 : decode cX8_dayRing 5 = .ok (.getfield 26, 3) := by decide +kernel
theorem dX8_dayRing_8 : decode cX8_dayRing 8 = .ok (.aload_n 0, 1) := by decide +kernel
theorem dX8_dayRing_9 : decode cX8_dayRing 9 = .ok (.getfield 19, 3) := by decide +kernel
theorem dX8_dayRing_12 : decode cX8_dayRing 12 = .ok (.invokevirtual 173, 3) := by decide +kernel
theorem dX8_dayRing_15 : decode cX8_dayRing 15 = .ok (.iload_n 1, 1) := by decide +kernel
theorem dX8_dayRing_16 : decode cX8_dayRing 16 = .ok (.ifCond .eq 13, 3) := by decide +kernel
theorem dX8_dayRing_19 : decode cX8_dayRing 19 = .ok (.aload_n 0, 1) := by decide +kernel
theorem dX8_dayRing_20 : decode cX8_dayRing 20 = .ok (.getfield 50, 3) := by decide +kernel
theorem dX8_dayRing_23 : decode cX8_dayRing 23 = .ok (.getfield 177, 3) := by decide +kernel
theorem dX8_dayRing_26 : decode cX8_dayRing 26 = .ok (.goto 10, 3) := by decide +kernel
theorem dX8_dayRing_29 : decode cX8_dayRing 29 = .ok (.aload_n 0, 1) := by decide +kernel
theorem dX8_dayRing_30 : decode cX8_dayRing 30 = .ok (.getfield 50, 3) := by decide +kernel
theorem dX8_dayRing_33 : decode cX8_dayRing 33 = .ok (.getfield 180, 3) := by decide +kernel
theorem dX8_dayRing_36 : decode cX8_dayRing 36 = .ok (.ireturn, 1) := by decide +kernel
set_option maxRecDepth 20000 in
theorem ggX8_most_X1_isPerson : GoodIn wsX8_most wsX1_isPerson := goodIn_r _ [7, 8, 87, 88, 89, 90, 91, 92, 93, 94, 95, 96, 97, 98] (by decide +kernel) (by decide +kernel)
set_option maxRecDepth 20000 in
theorem gX8_most_X1_isPerson_n105 : GoodIn wsX8_most (wsX1_isPerson) := ggX8_most_X1_isPerson
set_option maxRecDepth 20000 in
theorem ggX8_most_X3_find : GoodIn wsX8_most wsX3_find := goodIn_r _ [12, 13, 14, 15, 16, 17, 18, 19, 20, 21, 22, 23, 24, 25, 26, 27, 28, 10, 29, 30, 31, 32, 33, 34, 35, 36, 37, 38, 39, 40, 41, 42, 43, 44, 45, 46, 47, 48, 49, 50, 51, 52, 53, 54, 55, 56, 57, 58, 59, 60, 61, 62, 63, 64, 87, 88, 89, 90, 91, 92, 93, 94, 95, 96, 97, 98, 79, 80, 81, 82, 83, 84, 85, 86, 76, 77, 78] (by decide +kernel) (by decide +kernel)
set_option maxRecDepth 20000 in
theorem gX8_most_X3_find_n186 : GoodIn wsX8_most (wsX3_find) := ggX8_most_X3_find
theorem dX8_most_0 : decode cX8_most 0 = .ok (.aload_n 0, 1) := by decide +kernel
theorem dX8_most_1 : decode cX8_most 1 = .ok (.getfield 26, 3) := by decide +kernel
theorem dX8_most_4 : decode cX8_most 4 = .ok (.iload_n 1, 1) := by decide +kernel
theorem dX8_most_5 : decode cX8_most 5 = .ok (.invokevirtual 105, 3) := by decide +kernel
theorem dX8_most_8 : decode cX8_most 8 = .ok (.ifCond .ne 5, 3) := by decide +kernel
theorem dX8_most_11 : decode cX8_most 11 = .ok (.iconst (-1), 1) := by decide +kernel
theorem dX8_most_12 : decode cX8_most 12 = .ok (.ireturn, 1) := by decide +kernel
theorem dX8_most_13 : decode cX8_most 13 = .ok (.aload_n 0, 1) := by decide +kernel
theorem dX8_most_14 : decode cX8_most 14 = .ok (.getfield 19, 3) := by decide +kernel
theorem dX8_most_17 : decode cX8_most 17 = .ok (.getfield 183, 3) := by decide +kernel
theorem dX8_most_20 : decode cX8_most 20 = .ok (.bipush 6, 2) := by decide +kernel
theorem dX8_most_22 : decode cX8_most 22 = .ok (.if_icmp .le 6, 3) := by decide +kernel
theorem dX8_most_25 : decode cX8_most 25 = .ok (.bipush (-3), 2) := by decide +kernel
theorem dX8_most_27 : decode cX8_most 27 = .ok (.ireturn, 1) := by decide +kernel
theorem dX8_most_28 : decode cX8_most 28 = .ok (.aload_n 0, 1) := by decide +kernel
theorem dX8_most_29 : decode cX8_most 29 = .ok (.getfield 57, 3) := by decide +kernel
theorem dX8_most_32 : decode cX8_most 32 = .ok (.aload_n 0, 1) := by decide +kernel
theorem dX8_most_33 : decode cX8_most 33 = .ok (.getfield 26, 3) := by decide +kernel
theorem dX8_most_36 : decode cX8_most 36 = .ok (.aload_n 0, 1) := by decide +kernel
theorem dX8_most_37 : decode cX8_most 37 = .ok (.getfield 19, 3) := by decide +kernel
theorem dX8_most_40 : decode cX8_most 40 = .ok (.iload_n 1, 1) := by decide +kernel
theorem dX8_most_41 : decode cX8_most 41 = .ok (.invokevirtual 186, 3) := by decide +kernel
theorem dX8_most_44 : decode cX8_most 44 = .ok (.aload_n 0, 1) := by decide +kernel
theorem dX8_most_45 : decode cX8_most 45 = .ok (.getfield 57, 3) := by decide +kernel
theorem dX8_most_48 : decode cX8_most 48 = .ok (.getfield 189, 3) := by decide +kernel
theorem dX8_most_51 : decode cX8_most 51 = .ok (.ireturn, 1) := by decide +kernel
set_option maxRecDepth 20000 in
theorem ggX8_mostAt_X1_isPerson : GoodIn wsX8_mostAt wsX1_isPerson := goodIn_r _ [7, 8, 92, 93, 94, 95, 96, 97, 98, 99, 100, 101, 102, 103] (by decide +kernel) (by decide +kernel)
set_option maxRecDepth 20000 in
theorem gX8_mostAt_X1_isPerson_n105 : GoodIn wsX8_mostAt (wsX1_isPerson) := ggX8_mostAt_X1_isPerson
set_option maxRecDepth 20000 in
theorem ggX8_mostAt_X2_has : GoodIn wsX8_mostAt wsX2_has := goodIn_r _ [12, 13, 81, 82, 83] (by decide +kernel) (by decide +kernel)
set_option maxRecDepth 20000 in
theorem gX8_mostAt_X2_has_n121 : GoodIn wsX8_mostAt (wsX2_has) := ggX8_mostAt_X2_has
set_option maxRecDepth 20000 in
theorem ggX8_mostAt_X3_find : GoodIn wsX8_mostAt wsX3_find := goodIn_r _ [17, 18, 19, 20, 21, 22, 23, 24, 25, 26, 27, 28, 29, 30, 31, 32, 33, 15, 34, 35, 36, 37, 38, 39, 40, 41, 42, 43, 44, 45, 46, 47, 48, 49, 50, 51, 52, 53, 54, 55, 56, 57, 58, 59, 60, 61, 62, 63, 64, 65, 66, 67, 68, 69, 92, 93, 94, 95, 96, 97, 98, 99, 100, 101, 102, 103, 84, 85, 86, 87, 88, 89, 90, 91, 81, 82, 83] (by decide +kernel) (by decide +kernel)
set_option maxRecDepth 20000 in
theorem gX8_mostAt_X3_find_n186 : GoodIn wsX8_mostAt (wsX3_find) := ggX8_mostAt_X3_find
theorem dX8_mostAt_0 : decode cX8_mostAt 0 = .ok (.aload_n 0, 1) := by decide +kernel
theorem dX8_mostAt_1 : decode cX8_mostAt 1 = .ok (.getfield 26, 3) := by decide +kernel
theorem dX8_mostAt_4 : decode cX8_mostAt 4 = .ok (.iload_n 1, 1) := by decide +kernel
theorem dX8_mostAt_5 : decode cX8_mostAt 5 = .ok (.invokevirtual 105, 3) := by decide +kernel
theorem dX8_mostAt_8 : decode cX8_mostAt 8 = .ok (.ifCond .ne 5, 3) := by decide +kernel
theorem dX8_mostAt_11 : decode cX8_mostAt 11 = .ok (.iconst (-1), 1) := by decide +kernel
theorem dX8_mostAt_12 : decode cX8_mostAt 12 = .ok (.ireturn, 1) := by decide +kernel
theorem dX8_mostAt_13 : decode cX8_mostAt 13 = .ok (.aload_n 0, 1) := by decide +kernel
theorem dX8_mostAt_14 : decode cX8_mostAt 14 = .ok (.getfield 19, 3) := by decide +kernel
theorem dX8_mostAt_17 : decode cX8_mostAt 17 = .ok (.getfield 183, 3) := by decide +kernel
theorem dX8_mostAt_20 : decode cX8_mostAt 20 = .ok (.bipush 6, 2) := by decide +kernel
theorem dX8_mostAt_22 : decode cX8_mostAt 22 = .ok (.if_icmp .le 6, 3) := by decide +kernel
theorem dX8_mostAt_25 : decode cX8_mostAt 25 = .ok (.bipush (-3), 2) := by decide +kernel
theorem dX8_mostAt_27 : decode cX8_mostAt 27 = .ok (.ireturn, 1) := by decide +kernel
theorem dX8_mostAt_28 : decode cX8_mostAt 28 = .ok (.aload_n 0, 1) := by decide +kernel
theorem dX8_mostAt_29 : decode cX8_mostAt 29 = .ok (.getfield 19, 3) := by decide +kernel
theorem dX8_mostAt_32 : decode cX8_mostAt 32 = .ok (.iload_n 2, 1) := by decide +kernel
theorem dX8_mostAt_33 : decode cX8_mostAt 33 = .ok (.invokevirtual 121, 3) := by decide +kernel
theorem dX8_mostAt_36 : decode cX8_mostAt 36 = .ok (.ifCond .ne 6, 3) := by decide +kernel
theorem dX8_mostAt_39 : decode cX8_mostAt 39 = .ok (.bipush (-9), 2) := by decide +kernel
theorem dX8_mostAt_41 : decode cX8_mostAt 41 = .ok (.ireturn, 1) := by decide +kernel
theorem dX8_mostAt_42 : decode cX8_mostAt 42 = .ok (.aload_n 0, 1) := by decide +kernel
theorem dX8_mostAt_43 : decode cX8_mostAt 43 = .ok (.getfield 57, 3) := by decide +kernel
theorem dX8_mostAt_46 : decode cX8_mostAt 46 = .ok (.aload_n 0, 1) := by decide +kernel
theorem dX8_mostAt_47 : decode cX8_mostAt 47 = .ok (.getfield 26, 3) := by decide +kernel
theorem dX8_mostAt_50 : decode cX8_mostAt 50 = .ok (.aload_n 0, 1) := by decide +kernel
theorem dX8_mostAt_51 : decode cX8_mostAt 51 = .ok (.getfield 19, 3) := by decide +kernel
theorem dX8_mostAt_54 : decode cX8_mostAt 54 = .ok (.iload_n 1, 1) := by decide +kernel
theorem dX8_mostAt_55 : decode cX8_mostAt 55 = .ok (.invokevirtual 186, 3) := by decide +kernel
theorem dX8_mostAt_58 : decode cX8_mostAt 58 = .ok (.aload_n 0, 1) := by decide +kernel
theorem dX8_mostAt_59 : decode cX8_mostAt 59 = .ok (.getfield 57, 3) := by decide +kernel
theorem dX8_mostAt_62 : decode cX8_mostAt 62 = .ok (.getfield 192, 3) := by decide +kernel
theorem dX8_mostAt_65 : decode cX8_mostAt 65 = .ok (.iload_n 2, 1) := by decide +kernel
theorem dX8_mostAt_66 : decode cX8_mostAt 66 = .ok (.iaload, 1) := by decide +kernel
theorem dX8_mostAt_67 : decode cX8_mostAt 67 = .ok (.ireturn, 1) := by decide +kernel
set_option maxRecDepth 20000 in
theorem ggX8_pennies_X8_refusalOfTwo : GoodIn wsX8_pennies wsX8_refusalOfTwo := goodIn_r _ [6, 1, 7, 8, 9, 10, 11, 19, 20, 21, 22, 23, 24, 25, 26, 27, 28, 29, 30, 31, 32, 33, 34, 35, 36, 37, 38, 39, 40, 41] (by decide +kernel) (by decide +kernel)
set_option maxRecDepth 20000 in
theorem gX8_pennies_X8_refusalOfTwo : GoodIn wsX8_pennies (wsV RX8 130 RX8 yX8_refusalOfTwo wsX8_refusalOfTwo) := goodIn_app (goodIn_of _ (by decide +kernel)) ggX8_pennies_X8_refusalOfTwo
set_option maxRecDepth 20000 in
theorem ggX8_pennies_X8_penniesToShareOne : GoodIn wsX8_pennies wsX8_penniesToShareOne := goodIn_r _ [14, 15, 16, 5, 17, 18] (by decide +kernel) (by decide +kernel)
set_option maxRecDepth 20000 in
theorem gX8_pennies_X8_penniesToShareOne : GoodIn wsX8_pennies (va_wsS RX8 195 yX8_penniesToShareOne wsX8_penniesToShareOne) := goodIn_app (goodIn_of _ (by decide +kernel)) ggX8_pennies_X8_penniesToShareOne
theorem dX8_pennies_0 : decode cX8_pennies 0 = .ok (.aload_n 0, 1) := by decide +kernel
theorem dX8_pennies_1 : decode cX8_pennies 1 = .ok (.iload_n 1, 1) := by decide +kernel
theorem dX8_pennies_2 : decode cX8_pennies 2 = .ok (.iload_n 2, 1) := by decide +kernel
theorem dX8_pennies_3 : decode cX8_pennies 3 = .ok (.invokevirtual 130, 3) := by decide +kernel
theorem dX8_pennies_6 : decode cX8_pennies 6 = .ok (.istore_n 3, 1) := by decide +kernel
theorem dX8_pennies_7 : decode cX8_pennies 7 = .ok (.iload_n 3, 1) := by decide +kernel
theorem dX8_pennies_8 : decode cX8_pennies 8 = .ok (.ifCond .eq 5, 3) := by decide +kernel
theorem dX8_pennies_11 : decode cX8_pennies 11 = .ok (.iload_n 3, 1) := by decide +kernel
theorem dX8_pennies_12 : decode cX8_pennies 12 = .ok (.ireturn, 1) := by decide +kernel
theorem dX8_pennies_13 : decode cX8_pennies 13 = .ok (.aload_n 0, 1) := by decide +kernel
theorem dX8_pennies_14 : decode cX8_pennies 14 = .ok (.getfield 26, 3) := by decide +kernel
theorem dX8_pennies_17 : decode cX8_pennies 17 = .ok (.getfield 109, 3) := by decide +kernel
theorem dX8_pennies_20 : decode cX8_pennies 20 = .ok (.iload_n 1, 1) := by decide +kernel
theorem dX8_pennies_21 : decode cX8_pennies 21 = .ok (.iaload, 1) := by decide +kernel
theorem dX8_pennies_22 : decode cX8_pennies 22 = .ok (.istore 4, 2) := by decide +kernel
theorem dX8_pennies_24 : decode cX8_pennies 24 = .ok (.aload_n 0, 1) := by decide +kernel
theorem dX8_pennies_25 : decode cX8_pennies 25 = .ok (.getfield 26, 3) := by decide +kernel
theorem dX8_pennies_28 : decode cX8_pennies 28 = .ok (.getfield 109, 3) := by decide +kernel
theorem dX8_pennies_31 : decode cX8_pennies 31 = .ok (.iload_n 2, 1) := by decide +kernel
theorem dX8_pennies_32 : decode cX8_pennies 32 = .ok (.iaload, 1) := by decide +kernel
theorem dX8_pennies_33 : decode cX8_pennies 33 = .ok (.istore 5, 2) := by decide +kernel
theorem dX8_pennies_35 : decode cX8_pennies 35 = .ok (.iload 4, 2) := by decide +kernel
theorem dX8_pennies_37 : decode cX8_pennies 37 = .ok (.iload 5, 2) := by decide +kernel
theorem dX8_pennies_39 : decode cX8_pennies 39 = .ok (.isub, 1) := by decide +kernel
theorem dX8_pennies_40 : decode cX8_pennies 40 = .ok (.istore 6, 2) := by decide +kernel
theorem dX8_pennies_42 : decode cX8_pennies 42 = .ok (.iload 4, 2) := by decide +kernel
theorem dX8_pennies_44 : decode cX8_pennies 44 = .ok (.ifCond .eq 8, 3) := by decide +kernel
theorem dX8_pennies_47 : decode cX8_pennies 47 = .ok (.iload 5, 2) := by decide +kernel
theorem dX8_pennies_49 : decode cX8_pennies 49 = .ok (.ifCond .ne 5, 3) := by decide +kernel
theorem dX8_pennies_52 : decode cX8_pennies 52 = .ok (.iconst 0, 1) := by decide +kernel
theorem dX8_pennies_53 : decode cX8_pennies 53 = .ok (.ireturn, 1) := by decide +kernel
theorem dX8_pennies_54 : decode cX8_pennies 54 = .ok (.aload_n 0, 1) := by decide +kernel
theorem dX8_pennies_55 : decode cX8_pennies 55 = .ok (.getfield 26, 3) := by decide +kernel
theorem dX8_pennies_58 : decode cX8_pennies 58 = .ok (.getfield 118, 3) := by decide +kernel
theorem dX8_pennies_61 : decode cX8_pennies 61 = .ok (.iconst 1, 1) := by decide +kernel
theorem dX8_pennies_62 : decode cX8_pennies 62 = .ok (.if_icmp .ne 15, 3) := by decide +kernel
theorem dX8_pennies_65 : decode cX8_pennies 65 = .ok (.iload 6, 2) := by decide +kernel
theorem dX8_pennies_67 : decode cX8_pennies 67 = .ok (.ifCond .ge 8, 3) := by decide +kernel
theorem dX8_pennies_70 : decode cX8_pennies 70 = .ok (.iload 4, 2) := by decide +kernel
theorem dX8_pennies_72 : decode cX8_pennies 72 = .ok (.goto 4, 3) := by decide +kernel
theorem dX8_pennies_75 : decode cX8_pennies 75 = .ok (.iconst 0, 1) := by decide +kernel
theorem dX8_pennies_76 : decode cX8_pennies 76 = .ok (.ireturn, 1) := by decide +kernel
theorem dX8_pennies_77 : decode cX8_pennies 77 = .ok (.iload 6, 2) := by decide +kernel
theorem dX8_pennies_79 : decode cX8_pennies 79 = .ok (.ifCond .gt 5, 3) := by decide +kernel
theorem dX8_pennies_82 : decode cX8_pennies 82 = .ok (.iconst 0, 1) := by decide +kernel
theorem dX8_pennies_83 : decode cX8_pennies 83 = .ok (.ireturn, 1) := by decide +kernel
theorem dX8_pennies_84 : decode cX8_pennies 84 = .ok (.aload_n 0, 1) := by decide +kernel
theorem dX8_pennies_85 : decode cX8_pennies 85 = .ok (.getfield 26, 3) := by decide +kernel
theorem dX8_pennies_88 : decode cX8_pennies 88 = .ok (.getfield 118, 3) := by decide +kernel
theorem dX8_pennies_91 : decode cX8_pennies 91 = .ok (.iconst 2, 1) := by decide +kernel
theorem dX8_pennies_92 : decode cX8_pennies 92 = .ok (.if_icmp .ne 13, 3) := by decide +kernel
theorem dX8_pennies_95 : decode cX8_pennies 95 = .ok (.iload 4, 2) := by decide +kernel
theorem dX8_pennies_97 : decode cX8_pennies 97 = .ok (.iload 5, 2) := by decide +kernel
theorem dX8_pennies_99 : decode cX8_pennies 99 = .ok (.invokestatic 195, 3) := by decide +kernel
theorem dX8_pennies_102 : decode cX8_pennies 102 = .ok (.goto 5, 3) := by decide +kernel
theorem dX8_pennies_105 : decode cX8_pennies 105 = .ok (.iload 6, 2) := by decide +kernel
theorem dX8_pennies_107 : decode cX8_pennies 107 = .ok (.ireturn, 1) := by decide +kernel
set_option maxRecDepth 20000 in
theorem ggX8_see_X8_isSum : GoodIn wsX8_see wsX8_isSum := goodIn_r _ [6, 1] (by decide +kernel) (by decide +kernel)
set_option maxRecDepth 20000 in
theorem gX8_see_X8_isSum : GoodIn wsX8_see (va_wsS RX8 112 yX8_isSum wsX8_isSum) := goodIn_app (goodIn_of _ (by decide +kernel)) ggX8_see_X8_isSum
set_option maxRecDepth 20000 in
theorem ggX8_see_X1_addSeen : GoodIn wsX8_see wsX1_addSeen := goodIn_r _ [10, 11, 12, 13, 25, 26, 27, 28, 29, 30, 31, 32, 33, 34, 35, 36] (by decide +kernel) (by decide +kernel)
set_option maxRecDepth 20000 in
theorem gX8_see_X1_addSeen_n202 : GoodIn wsX8_see (wsX1_addSeen) := ggX8_see_X1_addSeen
theorem dX8_see_0 : decode cX8_see 0 = .ok (.iload_n 1, 1) := by decide +kernel
theorem dX8_see_1 : decode cX8_see 1 = .ok (.iconst 1, 1) := by decide +kernel
theorem dX8_see_2 : decode cX8_see 2 = .ok (.if_icmp .lt 16, 3) := by decide +kernel
theorem dX8_see_5 : decode cX8_see 5 = .ok (.iload_n 1, 1) := by decide +kernel
theorem dX8_see_6 : decode cX8_see 6 = .ok (.ldc 198, 2) := by decide +kernel
theorem dX8_see_8 : decode cX8_see 8 = .ok (.if_icmp .gt 10, 3) := by decide +kernel
theorem dX8_see_11 : decode cX8_see 11 = .ok (.iload_n 2, 1) := by decide +kernel
theorem dX8_see_12 : decode cX8_see 12 = .ok (.invokestatic 112, 3) := by decide +kernel
theorem dX8_see_15 : decode cX8_see 15 = .ok (.ifCond .ne 6, 3) := by decide +kernel
theorem dX8_see_18 : decode cX8_see 18 = .ok (.bipush (-2), 2) := by decide +kernel
theorem dX8_see_20 : decode cX8_see 20 = .ok (.ireturn, 1) := by decide +kernel
theorem dX8_see_21 : decode cX8_see 21 = .ok (.aload_n 0, 1) := by decide +kernel
theorem dX8_see_22 : decode cX8_see 22 = .ok (.getfield 26, 3) := by decide +kernel
theorem dX8_see_25 : decode cX8_see 25 = .ok (.getfield 199, 3) := by decide +kernel
theorem dX8_see_28 : decode cX8_see 28 = .ok (.bipush 8, 2) := by decide +kernel
theorem dX8_see_30 : decode cX8_see 30 = .ok (.if_icmp .lt 6, 3) := by decide +kernel
theorem dX8_see_33 : decode cX8_see 33 = .ok (.bipush (-4), 2) := by decide +kernel
theorem dX8_see_35 : decode cX8_see 35 = .ok (.ireturn, 1) := by decide +kernel
theorem dX8_see_36 : decode cX8_see 36 = .ok (.aload_n 0, 1) := by decide +kernel
theorem dX8_see_37 : decode cX8_see 37 = .ok (.getfield 26, 3) := by decide +kernel
theorem dX8_see_40 : decode cX8_see 40 = .ok (.iload_n 1, 1) := by decide +kernel
theorem dX8_see_41 : decode cX8_see 41 = .ok (.iload_n 2, 1) := by decide +kernel
theorem dX8_see_42 : decode cX8_see 42 = .ok (.invokevirtual 202, 3) := by decide +kernel
theorem dX8_see_45 : decode cX8_see 45 = .ok (.aload_n 0, 1) := by decide +kernel
theorem dX8_see_46 : decode cX8_see 46 = .ok (.getfield 26, 3) := by decide +kernel
theorem dX8_see_49 : decode cX8_see 49 = .ok (.getfield 199, 3) := by decide +kernel
theorem dX8_see_52 : decode cX8_see 52 = .ok (.ireturn, 1) := by decide +kernel
theorem dX8_unsee_0 : decode cX8_unsee 0 = .ok (.aload_n 0, 1) := by decide +kernel
theorem dX8_unsee_1 : decode cX8_unsee 1 = .ok (.getfield 26, 3) := by decide +kernel
theorem dX8_unsee_4 : decode cX8_unsee 4 = .ok (.getfield 199, 3) := by decide +kernel
theorem dX8_unsee_7 : decode cX8_unsee 7 = .ok (.istore_n 1, 1) := by decide +kernel
theorem dX8_unsee_8 : decode cX8_unsee 8 = .ok (.aload_n 0, 1) := by decide +kernel
theorem dX8_unsee_9 : decode cX8_unsee 9 = .ok (.getfield 26, 3) := by decide +kernel
theorem dX8_unsee_12 : decode cX8_unsee 12 = .ok (.iconst 0, 1) := by decide +kernel
theorem dX8_unsee_13 : decode cX8_unsee 13 = .ok (.putfield 199, 3) := by decide +kernel
theorem dX8_unsee_16 : decode cX8_unsee 16 = .ok (.iload_n 1, 1) := by decide +kernel
theorem dX8_unsee_17 : decode cX8_unsee 17 = .ok (.ireturn, 1) := by decide +kernel
set_option maxRecDepth 20000 in
theorem ggX8_mayHold_X8_isSum : GoodIn wsX8_mayHold wsX8_isSum := goodIn_r _ [6, 7] (by decide +kernel) (by decide +kernel)
set_option maxRecDepth 20000 in
theorem gX8_mayHold_X8_isSum : GoodIn wsX8_mayHold (va_wsS RX8 112 yX8_isSum wsX8_isSum) := goodIn_app (goodIn_of _ (by decide +kernel)) ggX8_mayHold_X8_isSum
set_option maxRecDepth 20000 in
theorem ggX8_mayHold_X5_find : GoodIn wsX8_mayHold wsX5_find := goodIn_r _ [11, 12, 13, 14, 15, 16, 17, 9, 18, 19, 20, 21, 22, 23, 24, 25, 26, 27, 5, 28, 29, 30, 31, 32, 33, 34, 35, 36, 37, 38, 39, 40, 41, 42, 43, 44, 45, 46, 47, 48, 49, 50, 51, 52, 53, 65, 66, 67, 68, 69, 70, 71, 72, 73, 74, 75, 76, 77, 78, 79, 80, 81, 82, 83] (by decide +kernel) (by decide +kernel)
set_option maxRecDepth 20000 in
theorem gX8_mayHold_X5_find_n205 : GoodIn wsX8_mayHold (wsX5_find) := ggX8_mayHold_X5_find
theorem dX8_mayHold_0 : decode cX8_mayHold 0 = .ok (.iload_n 1, 1) := by decide +kernel
theorem dX8_mayHold_1 : decode cX8_mayHold 1 = .ok (.invokestatic 112, 3) := by decide +kernel
theorem dX8_mayHold_4 : decode cX8_mayHold 4 = .ok (.ifCond .eq 12, 3) := by decide +kernel
theorem dX8_mayHold_7 : decode cX8_mayHold 7 = .ok (.iload_n 2, 1) := by decide +kernel
theorem dX8_mayHold_8 : decode cX8_mayHold 8 = .ok (.ifCond .lt 8, 3) := by decide +kernel
theorem dX8_mayHold_11 : decode cX8_mayHold 11 = .ok (.iload_n 2, 1) := by decide +kernel
theorem dX8_mayHold_12 : decode cX8_mayHold 12 = .ok (.iconst 2, 1) := by decide +kernel
theorem dX8_mayHold_13 : decode cX8_mayHold 13 = .ok (.if_icmp .le 6, 3) := by decide +kernel
theorem dX8_mayHold_16 : decode cX8_mayHold 16 = .ok (.bipush (-2), 2) := by decide +kernel
theorem dX8_mayHold_18 : decode cX8_mayHold 18 = .ok (.ireturn, 1) := by decide +kernel
theorem dX8_mayHold_19 : decode cX8_mayHold 19 = .ok (.aload_n 0, 1) := by decide +kernel
theorem dX8_mayHold_20 : decode cX8_mayHold 20 = .ok (.getfield 71, 3) := by decide +kernel
theorem dX8_mayHold_23 : decode cX8_mayHold 23 = .ok (.aload_n 0, 1) := by decide +kernel
theorem dX8_mayHold_24 : decode cX8_mayHold 24 = .ok (.getfield 26, 3) := by decide +kernel
theorem dX8_mayHold_27 : decode cX8_mayHold 27 = .ok (.iload_n 1, 1) := by decide +kernel
theorem dX8_mayHold_28 : decode cX8_mayHold 28 = .ok (.invokevirtual 205, 3) := by decide +kernel
theorem dX8_mayHold_31 : decode cX8_mayHold 31 = .ok (.iload_n 2, 1) := by decide +kernel
theorem dX8_mayHold_32 : decode cX8_mayHold 32 = .ok (.ifCond .ne 11, 3) := by decide +kernel
theorem dX8_mayHold_35 : decode cX8_mayHold 35 = .ok (.aload_n 0, 1) := by decide +kernel
theorem dX8_mayHold_36 : decode cX8_mayHold 36 = .ok (.getfield 71, 3) := by decide +kernel
theorem dX8_mayHold_39 : decode cX8_mayHold 39 = .ok (.getfield 208, 3) := by decide +kernel
theorem dX8_mayHold_42 : decode cX8_mayHold 42 = .ok (.ireturn, 1) := by decide +kernel
theorem dX8_mayHold_43 : decode cX8_mayHold 43 = .ok (.iload_n 2, 1) := by decide +kernel
theorem dX8_mayHold_44 : decode cX8_mayHold 44 = .ok (.iconst 1, 1) := by decide +kernel
theorem dX8_mayHold_45 : decode cX8_mayHold 45 = .ok (.if_icmp .ne 13, 3) := by decide +kernel
theorem dX8_mayHold_48 : decode cX8_mayHold 48 = .ok (.aload_n 0, 1) := by decide +kernel
theorem dX8_mayHold_49 : decode cX8_mayHold 49 = .ok (.getfield 71, 3) := by decide +kernel
theorem dX8_mayHold_52 : decode cX8_mayHold 52 = .ok (.getfield 211, 3) := by decide +kernel
theorem dX8_mayHold_55 : decode cX8_mayHold 55 = .ok (.goto 10, 3) := by decide +kernel
theorem dX8_mayHold_58 : decode cX8_mayHold 58 = .ok (.aload_n 0, 1) := by decide +kernel
theorem dX8_mayHold_59 : decode cX8_mayHold 59 = .ok (.getfield 71, 3) := by decide +kernel
theorem dX8_mayHold_62 : decode cX8_mayHold 62 = .ok (.getfield 214, 3) := by decide +kernel
theorem dX8_mayHold_65 : decode cX8_mayHold 65 = .ok (.ireturn, 1) := by decide +kernel
set_option maxRecDepth 20000 in
theorem ggX8_ruin_X1_isPerson : GoodIn wsX8_ruin wsX1_isPerson := goodIn_r _ [6, 7, 84, 85, 86, 87, 88, 89, 90, 91, 92, 93, 94, 95] (by decide +kernel) (by decide +kernel)
set_option maxRecDepth 20000 in
theorem gX8_ruin_X1_isPerson_n105 : GoodIn wsX8_ruin (wsX1_isPerson) := ggX8_ruin_X1_isPerson
set_option maxRecDepth 20000 in
theorem ggX8_ruin_X8_isSum : GoodIn wsX8_ruin wsX8_isSum := goodIn_r _ [11, 12] (by decide +kernel) (by decide +kernel)
set_option maxRecDepth 20000 in
theorem gX8_ruin_X8_isSum : GoodIn wsX8_ruin (va_wsS RX8 112 yX8_isSum wsX8_isSum) := goodIn_app (goodIn_of _ (by decide +kernel)) ggX8_ruin_X8_isSum
set_option maxRecDepth 20000 in
theorem ggX8_ruin_X4_find : GoodIn wsX8_ruin wsX4_find := goodIn_r _ [16, 17, 18, 19, 20, 21, 22, 23, 24, 25, 26, 27, 14, 28, 29, 30, 31, 32, 33, 34, 35, 36, 37, 38, 39, 10, 40, 41, 42, 43, 44, 45, 46, 47, 48, 49, 50, 51, 52, 53, 54, 12, 55, 56, 57, 58, 59, 60, 61, 62, 63, 84, 85, 86, 87, 88, 89, 90, 91, 92, 93, 94, 95, 78, 79, 80, 81, 82, 83] (by decide +kernel) (by decide +kernel)
set_option maxRecDepth 20000 in
theorem gX8_ruin_X4_find_n217 : GoodIn wsX8_ruin (wsX4_find) := ggX8_ruin_X4_find
set_option maxRecDepth 20000 in
theorem ggX8_ruin_X4_isFound : GoodIn wsX8_ruin wsX4_isFound := goodIn_r _ [66, 19, 17, 78, 79, 80, 81, 82, 83] (by decide +kernel) (by decide +kernel)
set_option maxRecDepth 20000 in
theorem gX8_ruin_X4_isFound_n220 : GoodIn wsX8_ruin (wsX4_isFound) := ggX8_ruin_X4_isFound
theorem dX8_ruin_0 : decode cX8_ruin 0 = .ok (.aload_n 0, 1) := by decide +kernel
theorem dX8_ruin_1 : decode cX8_ruin 1 = .ok (.getfield 26, 3) := by decide +kernel
theorem dX8_ruin_4 : decode cX8_ruin 4 = .ok (.iload_n 1, 1) := by decide +kernel
theorem dX8_ruin_5 : decode cX8_ruin 5 = .ok (.invokevirtual 105, 3) := by decide +kernel
theorem dX8_ruin_8 : decode cX8_ruin 8 = .ok (.ifCond .ne 5, 3) := by decide +kernel
theorem dX8_ruin_11 : decode cX8_ruin 11 = .ok (.iconst (-1), 1) := by decide +kernel
theorem dX8_ruin_12 : decode cX8_ruin 12 = .ok (.ireturn, 1) := by decide +kernel
theorem dX8_ruin_13 : decode cX8_ruin 13 = .ok (.iload_n 2, 1) := by decide +kernel
theorem dX8_ruin_14 : decode cX8_ruin 14 = .ok (.invokestatic 112, 3) := by decide +kernel
theorem dX8_ruin_17 : decode cX8_ruin 17 = .ok (.ifCond .ne 6, 3) := by decide +kernel
theorem dX8_ruin_20 : decode cX8_ruin 20 = .ok (.bipush (-2), 2) := by decide +kernel
theorem dX8_ruin_22 : decode cX8_ruin 22 = .ok (.ireturn, 1) := by decide +kernel
theorem dX8_ruin_23 : decode cX8_ruin 23 = .ok (.aload_n 0, 1) := by decide +kernel
theorem dX8_ruin_24 : decode cX8_ruin 24 = .ok (.getfield 64, 3) := by decide +kernel
theorem dX8_ruin_27 : decode cX8_ruin 27 = .ok (.aload_n 0, 1) := by decide +kernel
theorem dX8_ruin_28 : decode cX8_ruin 28 = .ok (.getfield 26, 3) := by decide +kernel
theorem dX8_ruin_31 : decode cX8_ruin 31 = .ok (.iload_n 1, 1) := by decide +kernel
theorem dX8_ruin_32 : decode cX8_ruin 32 = .ok (.iload_n 2, 1) := by decide +kernel
theorem dX8_ruin_33 : decode cX8_ruin 33 = .ok (.invokevirtual 217, 3) := by decide +kernel
theorem dX8_ruin_36 : decode cX8_ruin 36 = .ok (.aload_n 0, 1) := by decide +kernel
theorem dX8_ruin_37 : decode cX8_ruin 37 = .ok (.getfield 64, 3) := by decide +kernel
theorem dX8_ruin_40 : decode cX8_ruin 40 = .ok (.invokevirtual 220, 3) := by decide +kernel
theorem dX8_ruin_43 : decode cX8_ruin 43 = .ok (.ifCond .eq 13, 3) := by decide +kernel
theorem dX8_ruin_46 : decode cX8_ruin 46 = .ok (.aload_n 0, 1) := by decide +kernel
theorem dX8_ruin_47 : decode cX8_ruin 47 = .ok (.getfield 64, 3) := by decide +kernel
theorem dX8_ruin_50 : decode cX8_ruin 50 = .ok (.getfield 224, 3) := by decide +kernel
theorem dX8_ruin_53 : decode cX8_ruin 53 = .ok (.goto 5, 3) := by decide +kernel
theorem dX8_ruin_56 : decode cX8_ruin 56 = .ok (.bipush (-9), 2) := by decide +kernel
theorem dX8_ruin_58 : decode cX8_ruin 58 = .ok (.ireturn, 1) := by decide +kernel
set_option maxRecDepth 20000 in
theorem ggX8_ruinAt_X1_isPerson : GoodIn wsX8_ruinAt wsX1_isPerson := goodIn_r _ [6, 7, 84, 85, 86, 87, 88, 89, 90, 91, 92, 93, 94, 95] (by decide +kernel) (by decide +kernel)
set_option maxRecDepth 20000 in
theorem gX8_ruinAt_X1_isPerson_n105 : GoodIn wsX8_ruinAt (wsX1_isPerson) := ggX8_ruinAt_X1_isPerson
set_option maxRecDepth 20000 in
theorem ggX8_ruinAt_X8_isSum : GoodIn wsX8_ruinAt wsX8_isSum := goodIn_r _ [11, 12] (by decide +kernel) (by decide +kernel)
set_option maxRecDepth 20000 in
theorem gX8_ruinAt_X8_isSum : GoodIn wsX8_ruinAt (va_wsS RX8 112 yX8_isSum wsX8_isSum) := goodIn_app (goodIn_of _ (by decide +kernel)) ggX8_ruinAt_X8_isSum
set_option maxRecDepth 20000 in
theorem ggX8_ruinAt_X4_find : GoodIn wsX8_ruinAt wsX4_find := goodIn_r _ [16, 17, 18, 19, 20, 21, 22, 23, 24, 25, 26, 27, 14, 28, 29, 30, 31, 32, 33, 34, 35, 36, 37, 38, 39, 10, 40, 41, 42, 43, 44, 45, 46, 47, 48, 49, 50, 51, 52, 53, 54, 12, 55, 56, 57, 58, 59, 60, 61, 62, 63, 84, 85, 86, 87, 88, 89, 90, 91, 92, 93, 94, 95, 78, 79, 80, 81, 82, 83] (by decide +kernel) (by decide +kernel)
set_option maxRecDepth 20000 in
theorem gX8_ruinAt_X4_find_n217 : GoodIn wsX8_ruinAt (wsX4_find) := ggX8_ruinAt_X4_find
set_option maxRecDepth 20000 in
theorem ggX8_ruinAt_X4_isFound : GoodIn wsX8_ruinAt wsX4_isFound := goodIn_r _ [66, 19, 17, 78, 79, 80, 81, 82, 83] (by decide +kernel) (by decide +kernel)
set_option maxRecDepth 20000 in
theorem gX8_ruinAt_X4_isFound_n220 : GoodIn wsX8_ruinAt (wsX4_isFound) := ggX8_ruinAt_X4_isFound
theorem dX8_ruinAt_0 : decode cX8_ruinAt 0 = .ok (.aload_n 0, 1) := by decide +kernel
theorem dX8_ruinAt_1 : decode cX8_ruinAt 1 = .ok (.getfield 26, 3) := by decide +kernel
theorem dX8_ruinAt_4 : decode cX8_ruinAt 4 = .ok (.iload_n 1, 1) := by decide +kernel
theorem dX8_ruinAt_5 : decode cX8_ruinAt 5 = .ok (.invokevirtual 105, 3) := by decide +kernel
theorem dX8_ruinAt_8 : decode cX8_ruinAt 8 = .ok (.ifCond .ne 5, 3) := by decide +kernel
theorem dX8_ruinAt_11 : decode cX8_ruinAt 11 = .ok (.iconst (-1), 1) := by decide +kernel
theorem dX8_ruinAt_12 : decode cX8_ruinAt 12 = .ok (.ireturn, 1) := by decide +kernel
theorem dX8_ruinAt_13 : decode cX8_ruinAt 13 = .ok (.iload_n 2, 1) := by decide +kernel
theorem dX8_ruinAt_14 : decode cX8_ruinAt 14 = .ok (.invokestatic 112, 3) := by decide +kernel
theorem dX8_ruinAt_17 : decode cX8_ruinAt 17 = .ok (.ifCond .ne 6, 3) := by decide +kernel
theorem dX8_ruinAt_20 : decode cX8_ruinAt 20 = .ok (.bipush (-2), 2) := by decide +kernel
theorem dX8_ruinAt_22 : decode cX8_ruinAt 22 = .ok (.ireturn, 1) := by decide +kernel
theorem dX8_ruinAt_23 : decode cX8_ruinAt 23 = .ok (.aload_n 0, 1) := by decide +kernel
theorem dX8_ruinAt_24 : decode cX8_ruinAt 24 = .ok (.getfield 64, 3) := by decide +kernel
theorem dX8_ruinAt_27 : decode cX8_ruinAt 27 = .ok (.aload_n 0, 1) := by decide +kernel
theorem dX8_ruinAt_28 : decode cX8_ruinAt 28 = .ok (.getfield 26, 3) := by decide +kernel
theorem dX8_ruinAt_31 : decode cX8_ruinAt 31 = .ok (.iload_n 1, 1) := by decide +kernel
theorem dX8_ruinAt_32 : decode cX8_ruinAt 32 = .ok (.iload_n 2, 1) := by decide +kernel
theorem dX8_ruinAt_33 : decode cX8_ruinAt 33 = .ok (.invokevirtual 217, 3) := by decide +kernel
theorem dX8_ruinAt_36 : decode cX8_ruinAt 36 = .ok (.aload_n 0, 1) := by decide +kernel
theorem dX8_ruinAt_37 : decode cX8_ruinAt 37 = .ok (.getfield 64, 3) := by decide +kernel
theorem dX8_ruinAt_40 : decode cX8_ruinAt 40 = .ok (.invokevirtual 220, 3) := by decide +kernel
theorem dX8_ruinAt_43 : decode cX8_ruinAt 43 = .ok (.ifCond .eq 18, 3) := by decide +kernel
theorem dX8_ruinAt_46 : decode cX8_ruinAt 46 = .ok (.iload_n 3, 1) := by decide +kernel
theorem dX8_ruinAt_47 : decode cX8_ruinAt 47 = .ok (.ifCond .lt 14, 3) := by decide +kernel
theorem dX8_ruinAt_50 : decode cX8_ruinAt 50 = .ok (.iload_n 3, 1) := by decide +kernel
theorem dX8_ruinAt_51 : decode cX8_ruinAt 51 = .ok (.aload_n 0, 1) := by decide +kernel
theorem dX8_ruinAt_52 : decode cX8_ruinAt 52 = .ok (.getfield 64, 3) := by decide +kernel
theorem dX8_ruinAt_55 : decode cX8_ruinAt 55 = .ok (.getfield 224, 3) := by decide +kernel
theorem dX8_ruinAt_58 : decode cX8_ruinAt 58 = .ok (.if_icmp .lt 6, 3) := by decide +kernel
theorem dX8_ruinAt_61 : decode cX8_ruinAt 61 = .ok (.bipush (-9), 2) := by decide +kernel
theorem dX8_ruinAt_63 : decode cX8_ruinAt 63 = .ok (.ireturn, 1) := by decide +kernel
theorem dX8_ruinAt_64 : decode cX8_ruinAt 64 = .ok (.aload_n 0, 1) := by decide +kernel
theorem dX8_ruinAt_65 : decode cX8_ruinAt 65 = .ok (.getfield 64, 3) := by decide +kernel
theorem dX8_ruinAt_68 : decode cX8_ruinAt 68 = .ok (.getfield 227, 3) := by decide +kernel
theorem dX8_ruinAt_71 : decode cX8_ruinAt 71 = .ok (.iload_n 3, 1) := by decide +kernel
theorem dX8_ruinAt_72 : decode cX8_ruinAt 72 = .ok (.iaload, 1) := by decide +kernel
theorem dX8_ruinAt_73 : decode cX8_ruinAt 73 = .ok (.ireturn, 1) := by decide +kernel
set_option maxRecDepth 20000 in
theorem ggX8_coin_X8_greatestDivisor : GoodIn wsX8_coin wsX8_greatestDivisor := goodIn_r _ [5, 6] (by decide +kernel) (by decide +kernel)
set_option maxRecDepth 20000 in
theorem gX8_coin_X8_greatestDivisor : GoodIn wsX8_coin (va_wsS RX8 228 yX8_greatestDivisor wsX8_greatestDivisor) := goodIn_app (goodIn_of _ (by decide +kernel)) ggX8_coin_X8_greatestDivisor
theorem dX8_coin_0 : decode cX8_coin 0 = .ok (.iconst 0, 1) := by decide +kernel
theorem dX8_coin_1 : decode cX8_coin 1 = .ok (.istore_n 1, 1) := by decide +kernel
theorem dX8_coin_2 : decode cX8_coin 2 = .ok (.iconst 0, 1) := by decide +kernel
theorem dX8_coin_3 : decode cX8_coin 3 = .ok (.istore_n 2, 1) := by decide +kernel
theorem dX8_coin_4 : decode cX8_coin 4 = .ok (.iload_n 2, 1) := by decide +kernel
theorem dX8_coin_5 : decode cX8_coin 5 = .ok (.aload_n 0, 1) := by decide +kernel
theorem dX8_coin_6 : decode cX8_coin 6 = .ok (.getfield 26, 3) := by decide +kernel
theorem dX8_coin_9 : decode cX8_coin 9 = .ok (.getfield 75, 3) := by decide +kernel
theorem dX8_coin_12 : decode cX8_coin 12 = .ok (.if_icmp .ge 23, 3) := by decide +kernel
theorem dX8_coin_15 : decode cX8_coin 15 = .ok (.iload_n 1, 1) := by decide +kernel
theorem dX8_coin_16 : decode cX8_coin 16 = .ok (.aload_n 0, 1) := by decide +kernel
theorem dX8_coin_17 : decode cX8_coin 17 = .ok (.getfield 26, 3) := by decide +kernel
theorem dX8_coin_20 : decode cX8_coin 20 = .ok (.getfield 109, 3) := by decide +kernel
theorem dX8_coin_23 : decode cX8_coin 23 = .ok (.iload_n 2, 1) := by decide +kernel
theorem dX8_coin_24 : decode cX8_coin 24 = .ok (.iaload, 1) := by decide +kernel
theorem dX8_coin_25 : decode cX8_coin 25 = .ok (.invokestatic 228, 3) := by decide +kernel
theorem dX8_coin_28 : decode cX8_coin 28 = .ok (.istore_n 1, 1) := by decide +kernel
theorem dX8_coin_29 : decode cX8_coin 29 = .ok (.iinc 2 1, 3) := by decide +kernel
theorem dX8_coin_32 : decode cX8_coin 32 = .ok (.goto (-28), 3) := by decide +kernel
theorem dX8_coin_35 : decode cX8_coin 35 = .ok (.iload_n 1, 1) := by decide +kernel
theorem dX8_coin_36 : decode cX8_coin 36 = .ok (.ireturn, 1) := by decide +kernel
set_option maxRecDepth 20000 in
theorem ggX8_charm_X1_isPerson : GoodIn wsX8_charm wsX1_isPerson := goodIn_r _ [6, 7, 23, 24, 25, 26, 27, 28, 29, 30, 31, 32, 33, 34] (by decide +kernel) (by decide +kernel)
set_option maxRecDepth 20000 in
theorem gX8_charm_X1_isPerson_n105 : GoodIn wsX8_charm (wsX1_isPerson) := ggX8_charm_X1_isPerson
set_option maxRecDepth 20000 in
theorem ggX8_charm_X8_isPrime : GoodIn wsX8_charm wsX8_isPrime := goodIn_r _ [11] (by decide +kernel) (by decide +kernel)
set_option maxRecDepth 20000 in
theorem gX8_charm_X8_isPrime : GoodIn wsX8_charm (va_wsS RX8 232 yX8_isPrime wsX8_isPrime) := goodIn_app (goodIn_of _ (by decide +kernel)) ggX8_charm_X8_isPrime
theorem dX8_charm_0 : decode cX8_charm 0 = .ok (.aload_n 0, 1) := by decide +kernel
theorem dX8_charm_1 : decode cX8_charm 1 = .ok (.getfield 26, 3) := by decide +kernel
theorem dX8_charm_4 : decode cX8_charm 4 = .ok (.iload_n 1, 1) := by decide +kernel
theorem dX8_charm_5 : decode cX8_charm 5 = .ok (.invokevirtual 105, 3) := by decide +kernel
theorem dX8_charm_8 : decode cX8_charm 8 = .ok (.ifCond .ne 5, 3) := by decide +kernel
theorem dX8_charm_11 : decode cX8_charm 11 = .ok (.iconst (-1), 1) := by decide +kernel
theorem dX8_charm_12 : decode cX8_charm 12 = .ok (.ireturn, 1) := by decide +kernel
theorem dX8_charm_13 : decode cX8_charm 13 = .ok (.iconst 0, 1) := by decide +kernel
theorem dX8_charm_14 : decode cX8_charm 14 = .ok (.istore_n 2, 1) := by decide +kernel
theorem dX8_charm_15 : decode cX8_charm 15 = .ok (.iload_n 2, 1) := by decide +kernel
theorem dX8_charm_16 : decode cX8_charm 16 = .ok (.ldc 231, 2) := by decide +kernel
theorem dX8_charm_18 : decode cX8_charm 18 = .ok (.if_icmp .ge 26, 3) := by decide +kernel
theorem dX8_charm_21 : decode cX8_charm 21 = .ok (.aload_n 0, 1) := by decide +kernel
theorem dX8_charm_22 : decode cX8_charm 22 = .ok (.getfield 26, 3) := by decide +kernel
theorem dX8_charm_25 : decode cX8_charm 25 = .ok (.getfield 109, 3) := by decide +kernel
theorem dX8_charm_28 : decode cX8_charm 28 = .ok (.iload_n 1, 1) := by decide +kernel
theorem dX8_charm_29 : decode cX8_charm 29 = .ok (.iaload, 1) := by decide +kernel
theorem dX8_charm_30 : decode cX8_charm 30 = .ok (.iload_n 2, 1) := by decide +kernel
theorem dX8_charm_31 : decode cX8_charm 31 = .ok (.iadd, 1) := by decide +kernel
theorem dX8_charm_32 : decode cX8_charm 32 = .ok (.invokestatic 232, 3) := by decide +kernel
theorem dX8_charm_35 : decode cX8_charm 35 = .ok (.ifCond .ne 9, 3) := by decide +kernel
theorem dX8_charm_38 : decode cX8_charm 38 = .ok (.iinc 2 1, 3) := by decide +kernel
theorem dX8_charm_41 : decode cX8_charm 41 = .ok (.goto (-26), 3) := by decide +kernel
theorem dX8_charm_44 : decode cX8_charm 44 = .ok (.iload_n 2, 1) := by decide +kernel
theorem dX8_charm_45 : decode cX8_charm 45 = .ok (.ireturn, 1) := by decide +kernel
set_option maxRecDepth 20000 in
theorem ggX8_keep_X8_slotAt : GoodIn wsX8_keep wsX8_slotAt := goodIn_r _ [6, 7, 8, 29, 30, 31, 32, 33, 34, 35, 36, 37, 38, 39] (by decide +kernel) (by decide +kernel)
set_option maxRecDepth 20000 in
theorem gX8_keep_X8_slotAt : GoodIn wsX8_keep (wsV RX8 235 RX8 yX8_slotAt wsX8_slotAt) := goodIn_app (goodIn_of _ (by decide +kernel)) ggX8_keep_X8_slotAt
set_option maxRecDepth 20000 in
theorem ggX8_keep_X1_become : GoodIn wsX8_keep wsX1_become := goodIn_r _ [12, 13, 14, 15, 16, 17, 18, 19, 20, 21, 22, 23, 24, 25, 26, 27, 28, 40, 41, 42, 43, 44, 45, 46, 47, 48, 49, 50, 51] (by decide +kernel) (by decide +kernel)
set_option maxRecDepth 20000 in
theorem gX8_keep_X1_become_n239 : GoodIn wsX8_keep (wsX1_become) := ggX8_keep_X1_become
theorem dX8_keep_0 : decode cX8_keep 0 = .ok (.iload_n 1, 1) := by decide +kernel
theorem dX8_keep_1 : decode cX8_keep 1 = .ok (.ifCond .lt 8, 3) := by decide +kernel
theorem dX8_keep_4 : decode cX8_keep 4 = .ok (.iload_n 1, 1) := by decide +kernel
theorem dX8_keep_5 : decode cX8_keep 5 = .ok (.iconst 2, 1) := by decide +kernel
theorem dX8_keep_6 : decode cX8_keep 6 = .ok (.if_icmp .lt 5, 3) := by decide +kernel
theorem dX8_keep_9 : decode cX8_keep 9 = .ok (.iconst (-1), 1) := by decide +kernel
