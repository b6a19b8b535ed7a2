theorem dX9_tryDay_4 : decode cX9_tryDay 4 = .ok (.iload_n 2, 1) := by decide +kernel
theorem dX9_tryDay_5 : decode cX9_tryDay 5 = .ok (.aload_n 0, 1) := by decide +kernel
theorem dX9_tryDay_6 : decode cX9_tryDay 6 = .ok (.getfield 106, 3) := by decide +kernel
theorem dX9_tryDay_9 : decode cX9_tryDay 9 = .ok (.if_icmp .ge 25, 3) := by decide +kernel
theorem dX9_tryDay_12 : decode cX9_tryDay 12 = .ok (.iload_n 1, 1) := by decide +kernel
theorem dX9_tryDay_13 : decode cX9_tryDay 13 = .ok (.aload_n 0, 1) := by decide +kernel
theorem dX9_tryDay_14 : decode cX9_tryDay 14 = .ok (.iload_n 2, 1) := by decide +kernel
theorem dX9_tryDay_15 : decode cX9_tryDay 15 = .ok (.invokevirtual 142, 3) := by decide +kernel
theorem dX9_tryDay_18 : decode cX9_tryDay 18 = .ok (.ifCond .eq 7, 3) := by decide +kernel
theorem dX9_tryDay_21 : decode cX9_tryDay 21 = .ok (.iconst 1, 1) := by decide +kernel
theorem dX9_tryDay_22 : decode cX9_tryDay 22 = .ok (.goto 4, 3) := by decide +kernel
theorem dX9_tryDay_25 : decode cX9_tryDay 25 = .ok (.iconst 0, 1) := by decide +kernel
theorem dX9_tryDay_26 : decode cX9_tryDay 26 = .ok (.iadd, 1) := by decide +kernel
theorem dX9_tryDay_27 : decode cX9_tryDay 27 = .ok (.istore_n 1, 1) := by decide +kernel
theorem dX9_tryDay_28 : decode cX9_tryDay 28 = .ok (.iinc 2 1, 3) := by decide +kernel
theorem dX9_tryDay_31 : decode cX9_tryDay 31 = .ok (.goto (-27), 3) := by decide +kernel
theorem dX9_tryDay_34 : decode cX9_tryDay 34 = .ok (.iload_n 1, 1) := by decide +kernel
theorem dX9_tryDay_35 : decode cX9_tryDay 35 = .ok (.ireturn, 1) := by decide +kernel
set_option maxRecDepth 20000 in
theorem ggX9_day_X9_takeTried : GoodIn wsX9_day wsX9_takeTried := goodIn_r _ [8, 2, 1, 30, 31, 32, 33, 34, 35, 36, 37, 38, 39, 40, 41, 42, 43, 44, 45, 46, 47, 48, 49, 50, 51, 52, 53, 54, 55, 56, 57, 58, 59, 60, 61, 62] (by decide +kernel) (by decide +kernel)
set_option maxRecDepth 20000 in
theorem gX9_day_X9_takeTried : GoodIn wsX9_day (wsV RX9 145 RX9 yX9_takeTried wsX9_takeTried) := goodIn_app (goodIn_of _ (by decide +kernel)) ggX9_day_X9_takeTried
set_option maxRecDepth 20000 in
theorem ggX9_day_X9_tryDay : GoodIn wsX9_day wsX9_tryDay := goodIn_r _ [12, 13, 14, 15, 16, 7, 17, 18, 2, 19, 20, 21, 22, 23, 24, 25, 26, 27, 28, 29, 30, 31, 32, 33, 34, 35, 36, 37, 38, 39, 40, 41, 42, 43, 44, 45, 46, 47, 48, 49, 50, 51, 52, 53, 54, 55, 56, 57, 58, 59, 60, 61, 62] (by decide +kernel) (by decide +kernel)
set_option maxRecDepth 20000 in
theorem gX9_day_X9_tryDay : GoodIn wsX9_day (wsV RX9 148 RX9 yX9_tryDay wsX9_tryDay) := goodIn_app (goodIn_of _ (by decide +kernel)) ggX9_day_X9_tryDay
theorem dX9_day_0 : decode cX9_day 0 = .ok (.aload_n 0, 1) := by decide +kernel
theorem dX9_day_1 : decode cX9_day 1 = .ok (.invokevirtual 145, 3) := by decide +kernel
theorem dX9_day_4 : decode cX9_day 4 = .ok (.aload_n 0, 1) := by decide +kernel
theorem dX9_day_5 : decode cX9_day 5 = .ok (.invokevirtual 148, 3) := by decide +kernel
theorem dX9_day_8 : decode cX9_day 8 = .ok (.istore_n 1, 1) := by decide +kernel
theorem dX9_day_9 : decode cX9_day 9 = .ok (.iconst 0, 1) := by decide +kernel
theorem dX9_day_10 : decode cX9_day 10 = .ok (.istore_n 2, 1) := by decide +kernel
theorem dX9_day_11 : decode cX9_day 11 = .ok (.iload_n 2, 1) := by decide +kernel
theorem dX9_day_12 : decode cX9_day 12 = .ok (.bipush 8, 2) := by decide +kernel
theorem dX9_day_14 : decode cX9_day 14 = .ok (.if_icmp .ge 21, 3) := by decide +kernel
theorem dX9_day_17 : decode cX9_day 17 = .ok (.aload_n 0, 1) := by decide +kernel
theorem dX9_day_18 : decode cX9_day 18 = .ok (.getfield 16, 3) := by decide +kernel
theorem dX9_day_21 : decode cX9_day 21 = .ok (.iload_n 2, 1) := by decide +kernel
theorem dX9_day_22 : decode cX9_day 22 = .ok (.aload_n 0, 1) := by decide +kernel
theorem dX9_day_23 : decode cX9_day 23 = .ok (.getfield 28, 3) := by decide +kernel
theorem dX9_day_26 : decode cX9_day 26 = .ok (.iload_n 2, 1) := by decide +kernel
theorem dX9_day_27 : decode cX9_day 27 = .ok (.iaload, 1) := by decide +kernel
theorem dX9_day_28 : decode cX9_day 28 = .ok (.iastore, 1) := by decide +kernel
theorem dX9_day_29 : decode cX9_day 29 = .ok (.iinc 2 1, 3) := by decide +kernel
theorem dX9_day_32 : decode cX9_day 32 = .ok (.goto (-21), 3) := by decide +kernel
theorem dX9_day_35 : decode cX9_day 35 = .ok (.aload_n 0, 1) := by decide +kernel
theorem dX9_day_36 : decode cX9_day 36 = .ok (.iconst 0, 1) := by decide +kernel
theorem dX9_day_37 : decode cX9_day 37 = .ok (.putfield 109, 3) := by decide +kernel
theorem dX9_day_40 : decode cX9_day 40 = .ok (.iload_n 1, 1) := by decide +kernel
theorem dX9_day_41 : decode cX9_day 41 = .ok (.ireturn, 1) := by decide +kernel
set_option maxRecDepth 20000 in
theorem ggX9_goOn_X9_meetTwo : GoodIn wsX9_goOn wsX9_meetTwo := goodIn_r _ [10, 4, 5, 11, 12, 13, 14, 9, 15, 16, 17, 18, 19, 20, 21, 22, 23, 24, 25, 26, 27, 28, 29, 30, 31, 32, 33, 34, 35, 36, 37, 38, 39, 40, 41, 42, 43, 44, 45, 46, 47, 48] (by decide +kernel) (by decide +kernel)
set_option maxRecDepth 20000 in
theorem gX9_goOn_X9_meetTwo : GoodIn wsX9_goOn (wsV RX9 137 RX9 yX9_meetTwo wsX9_meetTwo) := goodIn_app (goodIn_of _ (by decide +kernel)) ggX9_goOn_X9_meetTwo
theorem dX9_goOn_0 : decode cX9_goOn 0 = .ok (.aload_n 0, 1) := by decide +kernel
theorem dX9_goOn_1 : decode cX9_goOn 1 = .ok (.getfield 16, 3) := by decide +kernel
theorem dX9_goOn_4 : decode cX9_goOn 4 = .ok (.iload_n 1, 1) := by decide +kernel
theorem dX9_goOn_5 : decode cX9_goOn 5 = .ok (.iaload, 1) := by decide +kernel
theorem dX9_goOn_6 : decode cX9_goOn 6 = .ok (.istore 4, 2) := by decide +kernel
theorem dX9_goOn_8 : decode cX9_goOn 8 = .ok (.aload_n 0, 1) := by decide +kernel
theorem dX9_goOn_9 : decode cX9_goOn 9 = .ok (.getfield 16, 3) := by decide +kernel
theorem dX9_goOn_12 : decode cX9_goOn 12 = .ok (.iload_n 2, 1) := by decide +kernel
theorem dX9_goOn_13 : decode cX9_goOn 13 = .ok (.iaload, 1) := by decide +kernel
theorem dX9_goOn_14 : decode cX9_goOn 14 = .ok (.istore 5, 2) := by decide +kernel
theorem dX9_goOn_16 : decode cX9_goOn 16 = .ok (.aload_n 0, 1) := by decide +kernel
theorem dX9_goOn_17 : decode cX9_goOn 17 = .ok (.iconst 0, 1) := by decide +kernel
theorem dX9_goOn_18 : decode cX9_goOn 18 = .ok (.putfield 151, 3) := by decide +kernel
theorem dX9_goOn_21 : decode cX9_goOn 21 = .ok (.aload_n 0, 1) := by decide +kernel
theorem dX9_goOn_22 : decode cX9_goOn 22 = .ok (.iconst 0, 1) := by decide +kernel
theorem dX9_goOn_23 : decode cX9_goOn 23 = .ok (.putfield 154, 3) := by decide +kernel
theorem dX9_goOn_26 : decode cX9_goOn 26 = .ok (.aload_n 0, 1) := by decide +kernel
theorem dX9_goOn_27 : decode cX9_goOn 27 = .ok (.getfield 154, 3) := by decide +kernel
theorem dX9_goOn_30 : decode cX9_goOn 30 = .ok (.ifCond .ne 129, 3) := by decide +kernel
theorem dX9_goOn_33 : decode cX9_goOn 33 = .ok (.aload_n 0, 1) := by decide +kernel
theorem dX9_goOn_34 : decode cX9_goOn 34 = .ok (.iload 4, 2) := by decide +kernel
theorem dX9_goOn_36 : decode cX9_goOn 36 = .ok (.iload 5, 2) := by decide +kernel
theorem dX9_goOn_38 : decode cX9_goOn 38 = .ok (.invokevirtual 137, 3) := by decide +kernel
theorem dX9_goOn_41 : decode cX9_goOn 41 = .ok (.aload_n 0, 1) := by decide +kernel
theorem dX9_goOn_42 : decode cX9_goOn 42 = .ok (.getfield 123, 3) := by decide +kernel
theorem dX9_goOn_45 : decode cX9_goOn 45 = .ok (.istore 6, 2) := by decide +kernel
theorem dX9_goOn_47 : decode cX9_goOn 47 = .ok (.aload_n 0, 1) := by decide +kernel
theorem dX9_goOn_48 : decode cX9_goOn 48 = .ok (.getfield 126, 3) := by decide +kernel
theorem dX9_goOn_51 : decode cX9_goOn 51 = .ok (.istore 7, 2) := by decide +kernel
theorem dX9_goOn_53 : decode cX9_goOn 53 = .ok (.aload_n 0, 1) := by decide +kernel
theorem dX9_goOn_54 : decode cX9_goOn 54 = .ok (.iload 6, 2) := by decide +kernel
theorem dX9_goOn_56 : decode cX9_goOn 56 = .ok (.iload 7, 2) := by decide +kernel
theorem dX9_goOn_58 : decode cX9_goOn 58 = .ok (.invokevirtual 137, 3) := by decide +kernel
theorem dX9_goOn_61 : decode cX9_goOn 61 = .ok (.aload_n 0, 1) := by decide +kernel
theorem dX9_goOn_62 : decode cX9_goOn 62 = .ok (.iload 6, 2) := by decide +kernel
theorem dX9_goOn_64 : decode cX9_goOn 64 = .ok (.iload 4, 2) := by decide +kernel
theorem dX9_goOn_66 : decode cX9_goOn 66 = .ok (.if_icmp .ne 14, 3) := by decide +kernel
theorem dX9_goOn_69 : decode cX9_goOn 69 = .ok (.iload 7, 2) := by decide +kernel
theorem dX9_goOn_71 : decode cX9_goOn 71 = .ok (.iload 5, 2) := by decide +kernel
theorem dX9_goOn_73 : decode cX9_goOn 73 = .ok (.if_icmp .ne 7, 3) := by decide +kernel
theorem dX9_goOn_76 : decode cX9_goOn 76 = .ok (.iconst 1, 1) := by decide +kernel
theorem dX9_goOn_77 : decode cX9_goOn 77 = .ok (.goto 26, 3) := by decide +kernel
theorem dX9_goOn_80 : decode cX9_goOn 80 = .ok (.aload_n 0, 1) := by decide +kernel
theorem dX9_goOn_81 : decode cX9_goOn 81 = .ok (.getfield 123, 3) := by decide +kernel
theorem dX9_goOn_84 : decode cX9_goOn 84 = .ok (.iload 4, 2) := by decide +kernel
theorem dX9_goOn_86 : decode cX9_goOn 86 = .ok (.if_icmp .ne 16, 3) := by decide +kernel
theorem dX9_goOn_89 : decode cX9_goOn 89 = .ok (.aload_n 0, 1) := by decide +kernel
theorem dX9_goOn_90 : decode cX9_goOn 90 = .ok (.getfield 126, 3) := by decide +kernel
theorem dX9_goOn_93 : decode cX9_goOn 93 = .ok (.iload 5, 2) := by decide +kernel
theorem dX9_goOn_95 : decode cX9_goOn 95 = .ok (.if_icmp .ne 7, 3) := by decide +kernel
theorem dX9_goOn_98 : decode cX9_goOn 98 = .ok (.iconst 2, 1) := by decide +kernel
theorem dX9_goOn_99 : decode cX9_goOn 99 = .ok (.goto 4, 3) := by decide +kernel
theorem dX9_goOn_102 : decode cX9_goOn 102 = .ok (.iconst 0, 1) := by decide +kernel
theorem dX9_goOn_103 : decode cX9_goOn 103 = .ok (.putfield 154, 3) := by decide +kernel
theorem dX9_goOn_106 : decode cX9_goOn 106 = .ok (.aload_n 0, 1) := by decide +kernel
theorem dX9_goOn_107 : decode cX9_goOn 107 = .ok (.getfield 151, 3) := by decide +kernel
theorem dX9_goOn_110 : decode cX9_goOn 110 = .ok (.iload_n 3, 1) := by decide +kernel
theorem dX9_goOn_111 : decode cX9_goOn 111 = .ok (.if_icmp .eq 10, 3) := by decide +kernel
theorem dX9_goOn_114 : decode cX9_goOn 114 = .ok (.aload_n 0, 1) := by decide +kernel
theorem dX9_goOn_115 : decode cX9_goOn 115 = .ok (.getfield 154, 3) := by decide +kernel
theorem dX9_goOn_118 : decode cX9_goOn 118 = .ok (.ifCond .le 20, 3) := by decide +kernel
theorem dX9_goOn_121 : decode cX9_goOn 121 = .ok (.aload_n 0, 1) := by decide +kernel
theorem dX9_goOn_122 : decode cX9_goOn 122 = .ok (.iload 4, 2) := by decide +kernel
theorem dX9_goOn_124 : decode cX9_goOn 124 = .ok (.putfield 123, 3) := by decide +kernel
theorem dX9_goOn_127 : decode cX9_goOn 127 = .ok (.aload_n 0, 1) := by decide +kernel
theorem dX9_goOn_128 : decode cX9_goOn 128 = .ok (.iload 5, 2) := by decide +kernel
theorem dX9_goOn_130 : decode cX9_goOn 130 = .ok (.putfield 126, 3) := by decide +kernel
theorem dX9_goOn_133 : decode cX9_goOn 133 = .ok (.aload_n 0, 1) := by decide +kernel
theorem dX9_goOn_134 : decode cX9_goOn 134 = .ok (.getfield 151, 3) := by decide +kernel
theorem dX9_goOn_137 : decode cX9_goOn 137 = .ok (.ireturn, 1) := by decide +kernel
theorem dX9_goOn_138 : decode cX9_goOn 138 = .ok (.iload 6, 2) := by decide +kernel
theorem dX9_goOn_140 : decode cX9_goOn 140 = .ok (.istore 4, 2) := by decide +kernel
theorem dX9_goOn_142 : decode cX9_goOn 142 = .ok (.iload 7, 2) := by decide +kernel
theorem dX9_goOn_144 : decode cX9_goOn 144 = .ok (.istore 5, 2) := by decide +kernel
theorem dX9_goOn_146 : decode cX9_goOn 146 = .ok (.aload_n 0, 1) := by decide +kernel
theorem dX9_goOn_147 : decode cX9_goOn 147 = .ok (.dup, 1) := by decide +kernel
theorem dX9_goOn_148 : decode cX9_goOn 148 = .ok (.getfield 151, 3) := by decide +kernel
theorem dX9_goOn_151 : decode cX9_goOn 151 = .ok (.iconst 1, 1) := by decide +kernel
theorem dX9_goOn_152 : decode cX9_goOn 152 = .ok (.iadd, 1) := by decide +kernel
theorem dX9_goOn_153 : decode cX9_goOn 153 = .ok (.putfield 151, 3) := by decide +kernel
theorem dX9_goOn_156 : decode cX9_goOn 156 = .ok (.goto (-130), 3) := by decide +kernel
theorem dX9_goOn_159 : decode cX9_goOn 159 = .ok (.aload_n 0, 1) := by decide +kernel
theorem dX9_goOn_160 : decode cX9_goOn 160 = .ok (.getfield 151, 3) := by decide +kernel
theorem dX9_goOn_163 : decode cX9_goOn 163 = .ok (.ireturn, 1) := by decide +kernel
set_option maxRecDepth 20000 in
theorem ggX9_after_X9_areTwo : GoodIn wsX9_after wsX9_areTwo := goodIn_r _ [9, 10, 11, 12, 8, 13, 14, 15, 16, 17, 33, 34, 35, 36, 37, 38, 39, 40, 41, 42, 43, 44, 45, 46, 47, 48, 49, 50, 51, 52, 53, 54, 55, 56, 57, 58, 59, 60, 61, 62, 63, 64, 65] (by decide +kernel) (by decide +kernel)
set_option maxRecDepth 20000 in
theorem gX9_after_X9_areTwo : GoodIn wsX9_after (wsV RX9 133 RX9 yX9_areTwo wsX9_areTwo) := goodIn_app (goodIn_of _ (by decide +kernel)) ggX9_after_X9_areTwo
set_option maxRecDepth 20000 in
theorem ggX9_after_X9_in : GoodIn wsX9_after wsX9_in := goodIn_r _ [17] (by decide +kernel) (by decide +kernel)
set_option maxRecDepth 20000 in
theorem gX9_after_X9_in : GoodIn wsX9_after (va_wsS RX9 71 yX9_in wsX9_in) := goodIn_app (goodIn_of _ (by decide +kernel)) ggX9_after_X9_in
set_option maxRecDepth 20000 in
theorem ggX9_after_X9_goOn : GoodIn wsX9_after wsX9_goOn := goodIn_r _ [21, 22, 23, 2, 3, 4, 24, 25, 26, 8, 27, 28, 29, 30, 31, 32, 33, 34, 35, 36, 37, 38, 39, 40, 41, 42, 43, 44, 45, 46, 47, 48, 49, 50, 51, 52, 53, 54, 55, 56, 57, 58, 59, 60, 61, 62, 63, 64, 65] (by decide +kernel) (by decide +kernel)
set_option maxRecDepth 20000 in
theorem gX9_after_X9_goOn : GoodIn wsX9_after (wsV RX9 159 RX9 yX9_goOn wsX9_goOn) := goodIn_app (goodIn_of _ (by decide +kernel)) ggX9_after_X9_goOn
set_option maxRecDepth 20000 in
theorem ggX9_after_X9_meetTwo : GoodIn wsX9_after wsX9_meetTwo := goodIn_r _ [27, 3, 4, 28, 29, 30, 31, 8, 32, 33, 34, 35, 36, 37, 38, 39, 40, 41, 42, 43, 44, 45, 46, 47, 48, 49, 50, 51, 52, 53, 54, 55, 56, 57, 58, 59, 60, 61, 62, 63, 64, 65] (by decide +kernel) (by decide +kernel)
set_option maxRecDepth 20000 in
theorem gX9_after_X9_meetTwo : GoodIn wsX9_after (wsV RX9 137 RX9 yX9_meetTwo wsX9_meetTwo) := goodIn_app (goodIn_of _ (by decide +kernel)) ggX9_after_X9_meetTwo
theorem dX9_after_0 : decode cX9_after 0 = .ok (.aload_n 0, 1) := by decide +kernel
theorem dX9_after_1 : decode cX9_after 1 = .ok (.iload_n 1, 1) := by decide +kernel
theorem dX9_after_2 : decode cX9_after 2 = .ok (.iload_n 2, 1) := by decide +kernel
theorem dX9_after_3 : decode cX9_after 3 = .ok (.invokevirtual 133, 3) := by decide +kernel
theorem dX9_after_6 : decode cX9_after 6 = .ok (.ifCond .ne 5, 3) := by decide +kernel
theorem dX9_after_9 : decode cX9_after 9 = .ok (.iconst (-1), 1) := by decide +kernel
theorem dX9_after_10 : decode cX9_after 10 = .ok (.ireturn, 1) := by decide +kernel
theorem dX9_after_11 : decode cX9_after 11 = .ok (.iload_n 3, 1) := by decide +kernel
theorem dX9_after_12 : decode cX9_after 12 = .ok (.i2l, 1) := by decide +kernel
theorem dX9_after_13 : decode cX9_after 13 = .ok (.lconst 0, 1) := by decide +kernel
theorem dX9_after_14 : decode cX9_after 14 = .ok (.ldc2_w 157, 3) := by decide +kernel
theorem dX9_after_17 : decode cX9_after 17 = .ok (.invokestatic 71, 3) := by decide +kernel
theorem dX9_after_20 : decode cX9_after 20 = .ok (.ifCond .ne 6, 3) := by decide +kernel
theorem dX9_after_23 : decode cX9_after 23 = .ok (.bipush (-2), 2) := by decide +kernel
theorem dX9_after_25 : decode cX9_after 25 = .ok (.ireturn, 1) := by decide +kernel
theorem dX9_after_26 : decode cX9_after 26 = .ok (.iload_n 1, 1) := by decide +kernel
theorem dX9_after_27 : decode cX9_after 27 = .ok (.iload_n 2, 1) := by decide +kernel
theorem dX9_after_28 : decode cX9_after 28 = .ok (.if_icmp .ne 6, 3) := by decide +kernel
theorem dX9_after_31 : decode cX9_after 31 = .ok (.bipush (-3), 2) := by decide +kernel
theorem dX9_after_33 : decode cX9_after 33 = .ok (.ireturn, 1) := by decide +kernel
theorem dX9_after_34 : decode cX9_after 34 = .ok (.aload_n 0, 1) := by decide +kernel
theorem dX9_after_35 : decode cX9_after 35 = .ok (.iload_n 1, 1) := by decide +kernel
theorem dX9_after_36 : decode cX9_after 36 = .ok (.iload_n 2, 1) := by decide +kernel
theorem dX9_after_37 : decode cX9_after 37 = .ok (.iload_n 3, 1) := by decide +kernel
theorem dX9_after_38 : decode cX9_after 38 = .ok (.invokevirtual 159, 3) := by decide +kernel
theorem dX9_after_41 : decode cX9_after 41 = .ok (.istore 4, 2) := by decide +kernel
theorem dX9_after_43 : decode cX9_after 43 = .ok (.aload_n 0, 1) := by decide +kernel
theorem dX9_after_44 : decode cX9_after 44 = .ok (.getfield 154, 3) := by decide +kernel
theorem dX9_after_47 : decode cX9_after 47 = .ok (.iconst 2, 1) := by decide +kernel
theorem dX9_after_48 : decode cX9_after 48 = .ok (.if_icmp .ne 25, 3) := by decide +kernel
theorem dX9_after_51 : decode cX9_after 51 = .ok (.iload_n 3, 1) := by decide +kernel
theorem dX9_after_52 : decode cX9_after 52 = .ok (.iload 4, 2) := by decide +kernel
theorem dX9_after_54 : decode cX9_after 54 = .ok (.isub, 1) := by decide +kernel
theorem dX9_after_55 : decode cX9_after 55 = .ok (.iconst 2, 1) := by decide +kernel
theorem dX9_after_56 : decode cX9_after 56 = .ok (.irem, 1) := by decide +kernel
theorem dX9_after_57 : decode cX9_after 57 = .ok (.iconst 1, 1) := by decide +kernel
theorem dX9_after_58 : decode cX9_after 58 = .ok (.if_icmp .ne 15, 3) := by decide +kernel
theorem dX9_after_61 : decode cX9_after 61 = .ok (.aload_n 0, 1) := by decide +kernel
theorem dX9_after_62 : decode cX9_after 62 = .ok (.aload_n 0, 1) := by decide +kernel
theorem dX9_after_63 : decode cX9_after 63 = .ok (.getfield 123, 3) := by decide +kernel
theorem dX9_after_66 : decode cX9_after 66 = .ok (.aload_n 0, 1) := by decide +kernel
theorem dX9_after_67 : decode cX9_after 67 = .ok (.getfield 126, 3) := by decide +kernel
theorem dX9_after_70 : decode cX9_after 70 = .ok (.invokevirtual 137, 3) := by decide +kernel
theorem dX9_after_73 : decode cX9_after 73 = .ok (.aload_n 0, 1) := by decide +kernel
theorem dX9_after_74 : decode cX9_after 74 = .ok (.getfield 123, 3) := by decide +kernel
theorem dX9_after_77 : decode cX9_after 77 = .ok (.ireturn, 1) := by decide +kernel
set_option maxRecDepth 20000 in
theorem ggX9_ring_X9_areTwo : GoodIn wsX9_ring wsX9_areTwo := goodIn_r _ [7, 8, 9, 10, 6, 11, 12, 13, 14, 15, 33, 34, 35, 36, 37, 38, 39, 40, 41, 42, 43, 44, 45, 46, 47, 48, 49, 50, 51, 52, 53, 54, 55, 56, 57, 58, 59, 60, 61, 62, 63, 64, 65] (by decide +kernel) (by decide +kernel)
set_option maxRecDepth 20000 in
theorem gX9_ring_X9_areTwo : GoodIn wsX9_ring (wsV RX9 133 RX9 yX9_areTwo wsX9_areTwo) := goodIn_app (goodIn_of _ (by decide +kernel)) ggX9_ring_X9_areTwo
set_option maxRecDepth 20000 in
theorem ggX9_ring_X9_goOn : GoodIn wsX9_ring wsX9_goOn := goodIn_r _ [19, 20, 21, 2, 22, 23, 24, 25, 26, 6, 27, 28, 29, 30, 31, 32, 33, 34, 35, 36, 37, 38, 39, 40, 41, 42, 43, 44, 45, 46, 47, 48, 49, 50, 51, 52, 53, 54, 55, 56, 57, 58, 59, 60, 61, 62, 63, 64, 65] (by decide +kernel) (by decide +kernel)
set_option maxRecDepth 20000 in
theorem gX9_ring_X9_goOn : GoodIn wsX9_ring (wsV RX9 159 RX9 yX9_goOn wsX9_goOn) := goodIn_app (goodIn_of _ (by decide +kernel)) ggX9_ring_X9_goOn
theorem dX9_ring_0 : decode cX9_ring 0 = .ok (.aload_n 0, 1) := by decide +kernel
theorem dX9_ring_1 : decode cX9_ring 1 = .ok (.iload_n 1, 1) := by decide +kernel
theorem dX9_ring_2 : decode cX9_ring 2 = .ok (.iload_n 2, 1) := by decide +kernel
theorem dX9_ring_3 : decode cX9_ring 3 = .ok (.invokevirtual 133, 3) := by decide +kernel
theorem dX9_ring_6 : decode cX9_ring 6 = .ok (.ifCond .ne 5, 3) := by decide +kernel
theorem dX9_ring_9 : decode cX9_ring 9 = .ok (.iconst (-1), 1) := by decide +kernel
theorem dX9_ring_10 : decode cX9_ring 10 = .ok (.ireturn, 1) := by decide +kernel
theorem dX9_ring_11 : decode cX9_ring 11 = .ok (.iload_n 1, 1) := by decide +kernel
theorem dX9_ring_12 : decode cX9_ring 12 = .ok (.iload_n 2, 1) := by decide +kernel
theorem dX9_ring_13 : decode cX9_ring 13 = .ok (.if_icmp .ne 6, 3) := by decide +kernel
theorem dX9_ring_16 : decode cX9_ring 16 = .ok (.bipush (-3), 2) := by decide +kernel
theorem dX9_ring_18 : decode cX9_ring 18 = .ok (.ireturn, 1) := by decide +kernel
theorem dX9_ring_19 : decode cX9_ring 19 = .ok (.aload_n 0, 1) := by decide +kernel
theorem dX9_ring_20 : decode cX9_ring 20 = .ok (.iload_n 1, 1) := by decide +kernel
theorem dX9_ring_21 : decode cX9_ring 21 = .ok (.iload_n 2, 1) := by decide +kernel
theorem dX9_ring_22 : decode cX9_ring 22 = .ok (.ldc 163, 2) := by decide +kernel
theorem dX9_ring_24 : decode cX9_ring 24 = .ok (.invokevirtual 159, 3) := by decide +kernel
theorem dX9_ring_27 : decode cX9_ring 27 = .ok (.pop, 1) := by decide +kernel
theorem dX9_ring_28 : decode cX9_ring 28 = .ok (.aload_n 0, 1) := by decide +kernel
theorem dX9_ring_29 : decode cX9_ring 29 = .ok (.getfield 154, 3) := by decide +kernel
theorem dX9_ring_32 : decode cX9_ring 32 = .ok (.ireturn, 1) := by decide +kernel
set_option maxRecDepth 20000 in
theorem ggX9_lead_X9_areTwo : GoodIn wsX9_lead wsX9_areTwo := goodIn_r _ [6, 7, 8, 9, 5, 10, 11, 12, 13, 14, 33, 34, 35, 36, 37, 38, 39, 40, 41, 42, 43, 44, 45, 46, 47, 48, 49, 50, 51, 52, 53, 54, 55, 56, 57, 58, 59, 60, 61, 62, 63, 64, 65] (by decide +kernel) (by decide +kernel)
set_option maxRecDepth 20000 in
theorem gX9_lead_X9_areTwo : GoodIn wsX9_lead (wsV RX9 133 RX9 yX9_areTwo wsX9_areTwo) := goodIn_app (goodIn_of _ (by decide +kernel)) ggX9_lead_X9_areTwo
set_option maxRecDepth 20000 in
theorem ggX9_lead_X9_goOn : GoodIn wsX9_lead wsX9_goOn := goodIn_r _ [18, 19, 20, 21, 22, 23, 24, 25, 26, 5, 27, 28, 29, 30, 31, 32, 33, 34, 35, 36, 37, 38, 39, 40, 41, 42, 43, 44, 45, 46, 47, 48, 49, 50, 51, 52, 53, 54, 55, 56, 57, 58, 59, 60, 61, 62, 63, 64, 65] (by decide +kernel) (by decide +kernel)
set_option maxRecDepth 20000 in
theorem gX9_lead_X9_goOn : GoodIn wsX9_lead (wsV RX9 159 RX9 yX9_goOn wsX9_goOn) := goodIn_app (goodIn_of _ (by decide +kernel)) ggX9_lead_X9_goOn
theorem dX9_lead_0 : decode cX9_lead 0 = .ok (.aload_n 0, 1) := by decide +kernel
theorem dX9_lead_1 : decode cX9_lead 1 = .ok (.iload_n 1, 1) := by decide +kernel
theorem dX9_lead_2 : decode cX9_lead 2 = .ok (.iload_n 2, 1) := by decide +kernel
theorem dX9_lead_3 : decode cX9_lead 3 = .ok (.invokevirtual 133, 3) := by decide +kernel
theorem dX9_lead_6 : decode cX9_lead 6 = .ok (.ifCond .ne 5, 3) := by decide +kernel
theorem dX9_lead_9 : decode cX9_lead 9 = .ok (.iconst (-1), 1) := by decide +kernel
theorem dX9_lead_10 : decode cX9_lead 10 = .ok (.ireturn, 1) := by decide +kernel
theorem dX9_lead_11 : decode cX9_lead 11 = .ok (.iload_n 1, 1) := by decide +kernel
theorem dX9_lead_12 : decode cX9_lead 12 = .ok (.iload_n 2, 1) := by decide +kernel
theorem dX9_lead_13 : decode cX9_lead 13 = .ok (.if_icmp .ne 8, 3) := by decide +kernel
theorem dX9_lead_16 : decode cX9_lead 16 = .ok (.bipush (-3), 2) := by decide +kernel
theorem dX9_lead_18 : decode cX9_lead 18 = .ok (.goto 11, 3) := by decide +kernel
theorem dX9_lead_21 : decode cX9_lead 21 = .ok (.aload_n 0, 1) := by decide +kernel
theorem dX9_lead_22 : decode cX9_lead 22 = .ok (.iload_n 1, 1) := by decide +kernel
theorem dX9_lead_23 : decode cX9_lead 23 = .ok (.iload_n 2, 1) := by decide +kernel
theorem dX9_lead_24 : decode cX9_lead 24 = .ok (.ldc 163, 2) := by decide +kernel
theorem dX9_lead_26 : decode cX9_lead 26 = .ok (.invokevirtual 159, 3) := by decide +kernel
theorem dX9_lead_29 : decode cX9_lead 29 = .ok (.ireturn, 1) := by decide +kernel
set_option maxRecDepth 20000 in
theorem ggX9_later_X9_isPerson : GoodIn wsX9_later wsX9_isPerson := goodIn_r _ [7, 8, 9, 10, 6, 11, 38, 39, 40, 41, 42, 43, 44, 45, 46, 47, 48, 49, 50, 51, 52, 53, 54, 55, 56, 57, 58, 59, 60, 61, 62, 63, 64, 65, 66, 67, 68, 69, 70] (by decide +kernel) (by decide +kernel)
set_option maxRecDepth 20000 in
theorem gX9_later_X9_isPerson : GoodIn wsX9_later (wsV RX9 115 RX9 yX9_isPerson wsX9_isPerson) := goodIn_app (goodIn_of _ (by decide +kernel)) ggX9_later_X9_isPerson
set_option maxRecDepth 20000 in
theorem ggX9_later_X9_in : GoodIn wsX9_later wsX9_in := goodIn_r _ [11] (by decide +kernel) (by decide +kernel)
set_option maxRecDepth 20000 in
theorem gX9_later_X9_in : GoodIn wsX9_later (va_wsS RX9 71 yX9_in wsX9_in) := goodIn_app (goodIn_of _ (by decide +kernel)) ggX9_later_X9_in
set_option maxRecDepth 20000 in
theorem ggX9_later_X9_takeTried : GoodIn wsX9_later wsX9_takeTried := goodIn_r _ [15, 2, 16, 38, 39, 40, 41, 42, 43, 44, 45, 46, 47, 48, 49, 50, 51, 52, 53, 54, 55, 56, 57, 58, 59, 60, 61, 62, 63, 64, 65, 66, 67, 68, 69, 70] (by decide +kernel) (by decide +kernel)
set_option maxRecDepth 20000 in
theorem gX9_later_X9_takeTried : GoodIn wsX9_later (wsV RX9 145 RX9 yX9_takeTried wsX9_takeTried) := goodIn_app (goodIn_of _ (by decide +kernel)) ggX9_later_X9_takeTried
set_option maxRecDepth 20000 in
theorem ggX9_later_X9_tryDay : GoodIn wsX9_later wsX9_tryDay := goodIn_r _ [20, 21, 22, 23, 24, 6, 25, 26, 2, 27, 28, 29, 30, 31, 32, 33, 34, 35, 36, 37, 38, 39, 40, 41, 42, 43, 44, 45, 46, 47, 48, 49, 50, 51, 52, 53, 54, 55, 56, 57, 58, 59, 60, 61, 62, 63, 64, 65, 66, 67, 68, 69, 70] (by decide +kernel) (by decide +kernel)
set_option maxRecDepth 20000 in
theorem gX9_later_X9_tryDay : GoodIn wsX9_later (wsV RX9 148 RX9 yX9_tryDay wsX9_tryDay) := goodIn_app (goodIn_of _ (by decide +kernel)) ggX9_later_X9_tryDay
theorem dX9_later_0 : decode cX9_later 0 = .ok (.aload_n 0, 1) := by decide +kernel
theorem dX9_later_1 : decode cX9_later 1 = .ok (.iload_n 1, 1) := by decide +kernel
theorem dX9_later_2 : decode cX9_later 2 = .ok (.invokevirtual 115, 3) := by decide +kernel
theorem dX9_later_5 : decode cX9_later 5 = .ok (.ifCond .ne 5, 3) := by decide +kernel
theorem dX9_later_8 : decode cX9_later 8 = .ok (.iconst (-1), 1) := by decide +kernel
theorem dX9_later_9 : decode cX9_later 9 = .ok (.ireturn, 1) := by decide +kernel
theorem dX9_later_10 : decode cX9_later 10 = .ok (.iload_n 2, 1) := by decide +kernel
theorem dX9_later_11 : decode cX9_later 11 = .ok (.i2l, 1) := by decide +kernel
theorem dX9_later_12 : decode cX9_later 12 = .ok (.lconst 0, 1) := by decide +kernel
theorem dX9_later_13 : decode cX9_later 13 = .ok (.ldc2_w 164, 3) := by decide +kernel
theorem dX9_later_16 : decode cX9_later 16 = .ok (.invokestatic 71, 3) := by decide +kernel
theorem dX9_later_19 : decode cX9_later 19 = .ok (.ifCond .ne 6, 3) := by decide +kernel
theorem dX9_later_22 : decode cX9_later 22 = .ok (.bipush (-2), 2) := by decide +kernel
theorem dX9_later_24 : decode cX9_later 24 = .ok (.ireturn, 1) := by decide +kernel
theorem dX9_later_25 : decode cX9_later 25 = .ok (.aload_n 0, 1) := by decide +kernel
theorem dX9_later_26 : decode cX9_later 26 = .ok (.invokevirtual 145, 3) := by decide +kernel
theorem dX9_later_29 : decode cX9_later 29 = .ok (.iconst 0, 1) := by decide +kernel
theorem dX9_later_30 : decode cX9_later 30 = .ok (.istore_n 3, 1) := by decide +kernel
theorem dX9_later_31 : decode cX9_later 31 = .ok (.iload_n 3, 1) := by decide +kernel
theorem dX9_later_32 : decode cX9_later 32 = .ok (.iload_n 2, 1) := by decide +kernel
theorem dX9_later_33 : decode cX9_later 33 = .ok (.if_icmp .ge 14, 3) := by decide +kernel
theorem dX9_later_36 : decode cX9_later 36 = .ok (.aload_n 0, 1) := by decide +kernel
theorem dX9_later_37 : decode cX9_later 37 = .ok (.invokevirtual 148, 3) := by decide +kernel
theorem dX9_later_40 : decode cX9_later 40 = .ok (.pop, 1) := by decide +kernel
theorem dX9_later_41 : decode cX9_later 41 = .ok (.iinc 3 1, 3) := by decide +kernel
theorem dX9_later_44 : decode cX9_later 44 = .ok (.goto (-13), 3) := by decide +kernel
theorem dX9_later_47 : decode cX9_later 47 = .ok (.aload_n 0, 1) := by decide +kernel
theorem dX9_later_48 : decode cX9_later 48 = .ok (.getfield 28, 3) := by decide +kernel
theorem dX9_later_51 : decode cX9_later 51 = .ok (.iload_n 1, 1) := by decide +kernel
theorem dX9_later_52 : decode cX9_later 52 = .ok (.iaload, 1) := by decide +kernel
theorem dX9_later_53 : decode cX9_later 53 = .ok (.ireturn, 1) := by decide +kernel
theorem dX9_isLike_0 : decode cX9_isLike 0 = .ok (.iconst 1, 1) := by decide +kernel
theorem dX9_isLike_1 : decode cX9_isLike 1 = .ok (.istore_n 3, 1) := by decide +kernel
theorem dX9_isLike_2 : decode cX9_isLike 2 = .ok (.iconst 0, 1) := by decide +kernel
theorem dX9_isLike_3 : decode cX9_isLike 3 = .ok (.istore 4, 2) := by decide +kernel
theorem dX9_isLike_5 : decode cX9_isLike 5 = .ok (.iload 4, 2) := by decide +kernel
theorem dX9_isLike_7 : decode cX9_isLike 7 = .ok (.bipush 8, 2) := by decide +kernel
theorem dX9_isLike_9 : decode cX9_isLike 9 = .ok (.if_icmp .ge 46, 3) := by decide +kernel
theorem dX9_isLike_12 : decode cX9_isLike 12 = .ok (.iload_n 3, 1) := by decide +kernel
theorem dX9_isLike_13 : decode cX9_isLike 13 = .ok (.ifCond .eq 42, 3) := by decide +kernel
theorem dX9_isLike_16 : decode cX9_isLike 16 = .ok (.aload_n 0, 1) := by decide +kernel
theorem dX9_isLike_17 : decode cX9_isLike 17 = .ok (.getfield 31, 3) := by decide +kernel
theorem dX9_isLike_20 : decode cX9_isLike 20 = .ok (.bipush 8, 2) := by decide +kernel
theorem dX9_isLike_22 : decode cX9_isLike 22 = .ok (.iload_n 1, 1) := by decide +kernel
theorem dX9_isLike_23 : decode cX9_isLike 23 = .ok (.imul, 1) := by decide +kernel
theorem dX9_isLike_24 : decode cX9_isLike 24 = .ok (.iload 4, 2) := by decide +kernel
theorem dX9_isLike_26 : decode cX9_isLike 26 = .ok (.iadd, 1) := by decide +kernel
theorem dX9_isLike_27 : decode cX9_isLike 27 = .ok (.iaload, 1) := by decide +kernel
theorem dX9_isLike_28 : decode cX9_isLike 28 = .ok (.aload_n 0, 1) := by decide +kernel
theorem dX9_isLike_29 : decode cX9_isLike 29 = .ok (.getfield 31, 3) := by decide +kernel
theorem dX9_isLike_32 : decode cX9_isLike 32 = .ok (.bipush 8, 2) := by decide +kernel
theorem dX9_isLike_34 : decode cX9_isLike 34 = .ok (.iload_n 2, 1) := by decide +kernel
theorem dX9_isLike_35 : decode cX9_isLike 35 = .ok (.imul, 1) := by decide +kernel
theorem dX9_isLike_36 : decode cX9_isLike 36 = .ok (.iload 4, 2) := by decide +kernel
theorem dX9_isLike_38 : decode cX9_isLike 38 = .ok (.iadd, 1) := by decide +kernel
theorem dX9_isLike_39 : decode cX9_isLike 39 = .ok (.iaload, 1) := by decide +kernel
theorem dX9_isLike_40 : decode cX9_isLike 40 = .ok (.if_icmp .ne 7, 3) := by decide +kernel
theorem dX9_isLike_43 : decode cX9_isLike 43 = .ok (.iconst 1, 1) := by decide +kernel
theorem dX9_isLike_44 : decode cX9_isLike 44 = .ok (.goto 4, 3) := by decide +kernel
theorem dX9_isLike_47 : decode cX9_isLike 47 = .ok (.iconst 0, 1) := by decide +kernel
theorem dX9_isLike_48 : decode cX9_isLike 48 = .ok (.istore_n 3, 1) := by decide +kernel
theorem dX9_isLike_49 : decode cX9_isLike 49 = .ok (.iinc 4 1, 3) := by decide +kernel
theorem dX9_isLike_52 : decode cX9_isLike 52 = .ok (.goto (-47), 3) := by decide +kernel
theorem dX9_isLike_55 : decode cX9_isLike 55 = .ok (.iload_n 3, 1) := by decide +kernel
theorem dX9_isLike_56 : decode cX9_isLike 56 = .ok (.ireturn, 1) := by decide +kernel
set_option maxRecDepth 20000 in
theorem ggX9_dayRing_X9_takeTried : GoodIn wsX9_dayRing wsX9_takeTried := goodIn_r _ [7, 2, 8, 34, 35, 36, 37, 38, 39, 40, 41, 42, 43, 44, 45, 46, 47, 48, 49, 50, 51, 52, 53, 54, 55, 56, 57, 58, 59, 60, 61, 62, 63, 64, 65, 66] (by decide +kernel) (by decide +kernel)
set_option maxRecDepth 20000 in
theorem gX9_dayRing_X9_takeTried : GoodIn wsX9_dayRing (wsV RX9 145 RX9 yX9_takeTried wsX9_takeTried) := goodIn_app (goodIn_of _ (by decide +kernel)) ggX9_dayRing_X9_takeTried
set_option maxRecDepth 20000 in
theorem ggX9_dayRing_X9_isLike : GoodIn wsX9_dayRing wsX9_isLike := goodIn_r _ [12, 1, 34, 35, 36, 37, 38, 39, 40, 41, 42, 43, 44, 45, 46, 47, 48, 49, 50, 51, 52, 53, 54, 55, 56, 57, 58, 59, 60, 61, 62, 63, 64, 65, 66] (by decide +kernel) (by decide +kernel)
set_option maxRecDepth 20000 in
theorem gX9_dayRing_X9_isLike : GoodIn wsX9_dayRing (wsV RX9 166 RX9 yX9_isLike wsX9_isLike) := goodIn_app (goodIn_of _ (by decide +kernel)) ggX9_dayRing_X9_isLike
set_option maxRecDepth 20000 in
theorem ggX9_dayRing_X9_tryDay : GoodIn wsX9_dayRing wsX9_tryDay := goodIn_r _ [16, 17, 18, 19, 20, 6, 21, 22, 2, 23, 24, 25, 26, 27, 28, 29, 30, 31, 32, 33, 34, 35, 36, 37, 38, 39, 40, 41, 42, 43, 44, 45, 46, 47, 48, 49, 50, 51, 52, 53, 54, 55, 56, 57, 58, 59, 60, 61, 62, 63, 64, 65, 66] (by decide +kernel) (by decide +kernel)
set_option maxRecDepth 20000 in
theorem gX9_dayRing_X9_tryDay : GoodIn wsX9_dayRing (wsV RX9 148 RX9 yX9_tryDay wsX9_tryDay) := goodIn_app (goodIn_of _ (by decide +kernel)) ggX9_dayRing_X9_tryDay
theorem dX9_dayRing_0 : decode cX9_dayRing 0 = .ok (.aload_n 0, 1) := by decide +kernel
theorem dX9_dayRing_1 : decode cX9_dayRing 1 = .ok (.invokevirtual 145, 3) := by decide +kernel
theorem dX9_dayRing_4 : decode cX9_dayRing 4 = .ok (.iconst 0, 1) := by decide +kernel
theorem dX9_dayRing_5 : decode cX9_dayRing 5 = .ok (.istore_n 2, 1) := by decide +kernel
theorem dX9_dayRing_6 : decode cX9_dayRing 6 = .ok (.iload_n 2, 1) := by decide +kernel
theorem dX9_dayRing_7 : decode cX9_dayRing 7 = .ok (.sipush 301, 3) := by decide +kernel
theorem dX9_dayRing_10 : decode cX9_dayRing 10 = .ok (.if_icmp .ge 79, 3) := by decide +kernel
theorem dX9_dayRing_13 : decode cX9_dayRing 13 = .ok (.iconst 0, 1) := by decide +kernel
theorem dX9_dayRing_14 : decode cX9_dayRing 14 = .ok (.istore_n 3, 1) := by decide +kernel
theorem dX9_dayRing_15 : decode cX9_dayRing 15 = .ok (.iload_n 3, 1) := by decide +kernel
theorem dX9_dayRing_16 : decode cX9_dayRing 16 = .ok (.bipush 8, 2) := by decide +kernel
theorem dX9_dayRing_18 : decode cX9_dayRing 18 = .ok (.if_icmp .ge 26, 3) := by decide +kernel
theorem dX9_dayRing_21 : decode cX9_dayRing 21 = .ok (.aload_n 0, 1) := by decide +kernel
theorem dX9_dayRing_22 : decode cX9_dayRing 22 = .ok (.getfield 31, 3) := by decide +kernel
theorem dX9_dayRing_25 : decode cX9_dayRing 25 = .ok (.bipush 8, 2) := by decide +kernel
theorem dX9_dayRing_27 : decode cX9_dayRing 27 = .ok (.iload_n 2, 1) := by decide +kernel
theorem dX9_dayRing_28 : decode cX9_dayRing 28 = .ok (.imul, 1) := by decide +kernel
theorem dX9_dayRing_29 : decode cX9_dayRing 29 = .ok (.iload_n 3, 1) := by decide +kernel
theorem dX9_dayRing_30 : decode cX9_dayRing 30 = .ok (.iadd, 1) := by decide +kernel
theorem dX9_dayRing_31 : decode cX9_dayRing 31 = .ok (.aload_n 0, 1) := by decide +kernel
theorem dX9_dayRing_32 : decode cX9_dayRing 32 = .ok (.getfield 28, 3) := by decide +kernel
theorem dX9_dayRing_35 : decode cX9_dayRing 35 = .ok (.iload_n 3, 1) := by decide +kernel
theorem dX9_dayRing_36 : decode cX9_dayRing 36 = .ok (.iaload, 1) := by decide +kernel
theorem dX9_dayRing_37 : decode cX9_dayRing 37 = .ok (.iastore, 1) := by decide +kernel
theorem dX9_dayRing_38 : decode cX9_dayRing 38 = .ok (.iinc 3 1, 3) := by decide +kernel
theorem dX9_dayRing_41 : decode cX9_dayRing 41 = .ok (.goto (-26), 3) := by decide +kernel
theorem dX9_dayRing_44 : decode cX9_dayRing 44 = .ok (.iconst 0, 1) := by decide +kernel
theorem dX9_dayRing_45 : decode cX9_dayRing 45 = .ok (.istore_n 3, 1) := by decide +kernel
theorem dX9_dayRing_46 : decode cX9_dayRing 46 = .ok (.iload_n 3, 1) := by decide +kernel
theorem dX9_dayRing_47 : decode cX9_dayRing 47 = .ok (.iload_n 2, 1) := by decide +kernel
theorem dX9_dayRing_48 : decode cX9_dayRing 48 = .ok (.if_icmp .ge 30, 3) := by decide +kernel
theorem dX9_dayRing_51 : decode cX9_dayRing 51 = .ok (.aload_n 0, 1) := by decide +kernel
theorem dX9_dayRing_52 : decode cX9_dayRing 52 = .ok (.iload_n 2, 1) := by decide +kernel
theorem dX9_dayRing_53 : decode cX9_dayRing 53 = .ok (.iload_n 3, 1) := by decide +kernel
theorem dX9_dayRing_54 : decode cX9_dayRing 54 = .ok (.invokevirtual 166, 3) := by decide +kernel
theorem dX9_dayRing_57 : decode cX9_dayRing 57 = .ok (.ifCond .eq 15, 3) := by decide +kernel
theorem dX9_dayRing_60 : decode cX9_dayRing 60 = .ok (.iload_n 1, 1) := by decide +kernel
theorem dX9_dayRing_61 : decode cX9_dayRing 61 = .ok (.ifCond .eq 7, 3) := by decide +kernel
theorem dX9_dayRing_64 : decode cX9_dayRing 64 = .ok (.iload_n 3, 1) := by decide +kernel
theorem dX9_dayRing_65 : decode cX9_dayRing 65 = .ok (.goto 6, 3) := by decide +kernel
theorem dX9_dayRing_68 : decode cX9_dayRing 68 = .ok (.iload_n 2, 1) := by decide +kernel
theorem dX9_dayRing_69 : decode cX9_dayRing 69 = .ok (.iload_n 3, 1) := by decide +kernel
theorem dX9_dayRing_70 : decode cX9_dayRing 70 = .ok (.isub, 1) := by decide +kernel
theorem dX9_dayRing_71 : decode cX9_dayRing 71 = .ok (.ireturn, 1) := by decide +kernel
theorem dX9_dayRing_72 : decode cX9_dayRing 72 = .ok (.iinc 3 1, 3) := by decide +kernel
theorem dX9_dayRing_75 : decode cX9_dayRing 75 = .ok (.goto (-29), 3) := by decide +kernel
theorem dX9_dayRing_78 : decode cX9_dayRing 78 = .ok (.aload_n 0, 1) := by decide +kernel
theorem dX9_dayRing_79 : decode cX9_dayRing 79 = .ok (.invokevirtual 148, 3) := by decide +kernel
theorem dX9_dayRing_82 : decode cX9_dayRing 82 = .ok (.pop, 1) := by decide +kernel
theorem dX9_dayRing_83 : decode cX9_dayRing 83 = .ok (.iinc 2 1, 3) := by decide +kernel
theorem dX9_dayRing_86 : decode cX9_dayRing 86 = .ok (.goto (-80), 3) := by decide +kernel
theorem dX9_dayRing_89 : decode cX9_dayRing 89 = .ok (.bipush (-9), 2) := by decide +kernel
theorem dX9_dayRing_91 : decode cX9_dayRing 91 = .ok (.ireturn, 1) := by decide +kernel
theorem dX9_layOrder_0 : decode cX9_layOrder 0 = .ok (.iconst 1, 1) := by decide +kernel
theorem dX9_layOrder_1 : decode cX9_layOrder 1 = .ok (.istore 4, 2) := by decide +kernel
theorem dX9_layOrder_3 : decode cX9_layOrder 3 = .ok (.iconst 0, 1) := by decide +kernel
theorem dX9_layOrder_4 : decode cX9_layOrder 4 = .ok (.istore 5, 2) := by decide +kernel
theorem dX9_layOrder_6 : decode cX9_layOrder 6 = .ok (.iload 5, 2) := by decide +kernel
theorem dX9_layOrder_8 : decode cX9_layOrder 8 = .ok (.iload_n 3, 1) := by decide +kernel
theorem dX9_layOrder_9 : decode cX9_layOrder 9 = .ok (.if_icmp .ge 18, 3) := by decide +kernel
theorem dX9_layOrder_12 : decode cX9_layOrder 12 = .ok (.iload 4, 2) := by decide +kernel
theorem dX9_layOrder_14 : decode cX9_layOrder 14 = .ok (.iload_n 2, 1) := by decide +kernel
theorem dX9_layOrder_15 : decode cX9_layOrder 15 = .ok (.iload 5, 2) := by decide +kernel
theorem dX9_layOrder_17 : decode cX9_layOrder 17 = .ok (.isub, 1) := by decide +kernel
theorem dX9_layOrder_18 : decode cX9_layOrder 18 = .ok (.imul, 1) := by decide +kernel
theorem dX9_layOrder_19 : decode cX9_layOrder 19 = .ok (.istore 4, 2) := by decide +kernel
theorem dX9_layOrder_21 : decode cX9_layOrder 21 = .ok (.iinc 5 1, 3) := by decide +kernel
theorem dX9_layOrder_24 : decode cX9_layOrder 24 = .ok (.goto (-18), 3) := by decide +kernel
theorem dX9_layOrder_27 : decode cX9_layOrder 27 = .ok (.iload_n 1, 1) := by decide +kernel
theorem dX9_layOrder_28 : decode cX9_layOrder 28 = .ok (.istore 5, 2) := by decide +kernel
theorem dX9_layOrder_30 : decode cX9_layOrder 30 = .ok (.iconst 0, 1) := by decide +kernel
theorem dX9_layOrder_31 : decode cX9_layOrder 31 = .ok (.istore 6, 2) := by decide +kernel
theorem dX9_layOrder_33 : decode cX9_layOrder 33 = .ok (.iconst 0, 1) := by decide +kernel
theorem dX9_layOrder_34 : decode cX9_layOrder 34 = .ok (.istore 7, 2) := by decide +kernel
theorem dX9_layOrder_36 : decode cX9_layOrder 36 = .ok (.iload 7, 2) := by decide +kernel
theorem dX9_layOrder_38 : decode cX9_layOrder 38 = .ok (.iload_n 3, 1) := by decide +kernel
theorem dX9_layOrder_39 : decode cX9_layOrder 39 = .ok (.if_icmp .ge 96, 3) := by decide +kernel
theorem dX9_layOrder_42 : decode cX9_layOrder 42 = .ok (.iload 4, 2) := by decide +kernel
theorem dX9_layOrder_44 : decode cX9_layOrder 44 = .ok (.iload_n 2, 1) := by decide +kernel
theorem dX9_layOrder_45 : decode cX9_layOrder 45 = .ok (.iload 7, 2) := by decide +kernel
theorem dX9_layOrder_47 : decode cX9_layOrder 47 = .ok (.isub, 1) := by decide +kernel
theorem dX9_layOrder_48 : decode cX9_layOrder 48 = .ok (.idiv, 1) := by decide +kernel
theorem dX9_layOrder_49 : decode cX9_layOrder 49 = .ok (.istore 4, 2) := by decide +kernel
theorem dX9_layOrder_51 : decode cX9_layOrder 51 = .ok (.iload 5, 2) := by decide +kernel
theorem dX9_layOrder_53 : decode cX9_layOrder 53 = .ok (.iload 4, 2) := by decide +kernel
theorem dX9_layOrder_55 : decode cX9_layOrder 55 = .ok (.idiv, 1) := by decide +kernel
theorem dX9_layOrder_56 : decode cX9_layOrder 56 = .ok (.istore 8, 2) := by decide +kernel
theorem dX9_layOrder_58 : decode cX9_layOrder 58 = .ok (.iload 5, 2) := by decide +kernel
theorem dX9_layOrder_60 : decode cX9_layOrder 60 = .ok (.iload 4, 2) := by decide +kernel
theorem dX9_layOrder_62 : decode cX9_layOrder 62 = .ok (.irem, 1) := by decide +kernel
theorem dX9_layOrder_63 : decode cX9_layOrder 63 = .ok (.istore 5, 2) := by decide +kernel
theorem dX9_layOrder_65 : decode cX9_layOrder 65 = .ok (.iconst 0, 1) := by decide +kernel
theorem dX9_layOrder_66 : decode cX9_layOrder 66 = .ok (.istore 9, 2) := by decide +kernel
theorem dX9_layOrder_68 : decode cX9_layOrder 68 = .ok (.iload 6, 2) := by decide +kernel
theorem dX9_layOrder_70 : decode cX9_layOrder 70 = .ok (.iload 9, 2) := by decide +kernel
theorem dX9_layOrder_72 : decode cX9_layOrder 72 = .ok (.ishr, 1) := by decide +kernel
theorem dX9_layOrder_73 : decode cX9_layOrder 73 = .ok (.iconst 1, 1) := by decide +kernel
theorem dX9_layOrder_74 : decode cX9_layOrder 74 = .ok (.iand, 1) := by decide +kernel
theorem dX9_layOrder_75 : decode cX9_layOrder 75 = .ok (.iconst 1, 1) := by decide +kernel
theorem dX9_layOrder_76 : decode cX9_layOrder 76 = .ok (.if_icmp .eq 8, 3) := by decide +kernel
theorem dX9_layOrder_79 : decode cX9_layOrder 79 = .ok (.iload 8, 2) := by decide +kernel
theorem dX9_layOrder_81 : decode cX9_layOrder 81 = .ok (.ifCond .le 30, 3) := by decide +kernel
theorem dX9_layOrder_84 : decode cX9_layOrder 84 = .ok (.iload 8, 2) := by decide +kernel
theorem dX9_layOrder_86 : decode cX9_layOrder 86 = .ok (.iload 6, 2) := by decide +kernel
theorem dX9_layOrder_88 : decode cX9_layOrder 88 = .ok (.iload 9, 2) := by decide +kernel
theorem dX9_layOrder_90 : decode cX9_layOrder 90 = .ok (.ishr, 1) := by decide +kernel
theorem dX9_layOrder_91 : decode cX9_layOrder 91 = .ok (.iconst 1, 1) := by decide +kernel
theorem dX9_layOrder_92 : decode cX9_layOrder 92 = .ok (.iand, 1) := by decide +kernel
theorem dX9_layOrder_93 : decode cX9_layOrder 93 = .ok (.iconst 1, 1) := by decide +kernel
theorem dX9_layOrder_94 : decode cX9_layOrder 94 = .ok (.if_icmp .ne 7, 3) := by decide +kernel
theorem dX9_layOrder_97 : decode cX9_layOrder 97 = .ok (.iconst 0, 1) := by decide +kernel
theorem dX9_layOrder_98 : decode cX9_layOrder 98 = .ok (.goto 4, 3) := by decide +kernel
theorem dX9_layOrder_101 : decode cX9_layOrder 101 = .ok (.iconst 1, 1) := by decide +kernel
theorem dX9_layOrder_102 : decode cX9_layOrder 102 = .ok (.isub, 1) := by decide +kernel
theorem dX9_layOrder_103 : decode cX9_layOrder 103 = .ok (.istore 8, 2) := by decide +kernel
theorem dX9_layOrder_105 : decode cX9_layOrder 105 = .ok (.iinc 9 1, 3) := by decide +kernel
theorem dX9_layOrder_108 : decode cX9_layOrder 108 = .ok (.goto (-40), 3) := by decide +kernel
theorem dX9_layOrder_111 : decode cX9_layOrder 111 = .ok (.aload_n 0, 1) := by decide +kernel
theorem dX9_layOrder_112 : decode cX9_layOrder 112 = .ok (.getfield 34, 3) := by decide +kernel
theorem dX9_layOrder_115 : decode cX9_layOrder 115 = .ok (.iload 7, 2) := by decide +kernel
theorem dX9_layOrder_117 : decode cX9_layOrder 117 = .ok (.iload 9, 2) := by decide +kernel
theorem dX9_layOrder_119 : decode cX9_layOrder 119 = .ok (.iastore, 1) := by decide +kernel
theorem dX9_layOrder_120 : decode cX9_layOrder 120 = .ok (.iload 6, 2) := by decide +kernel
theorem dX9_layOrder_122 : decode cX9_layOrder 122 = .ok (.iconst 1, 1) := by decide +kernel
theorem dX9_layOrder_123 : decode cX9_layOrder 123 = .ok (.iload 9, 2) := by decide +kernel
theorem dX9_layOrder_125 : decode cX9_layOrder 125 = .ok (.ishl, 1) := by decide +kernel
theorem dX9_layOrder_126 : decode cX9_layOrder 126 = .ok (.ior, 1) := by decide +kernel
theorem dX9_layOrder_127 : decode cX9_layOrder 127 = .ok (.istore 6, 2) := by decide +kernel
theorem dX9_layOrder_129 : decode cX9_layOrder 129 = .ok (.iinc 7 1, 3) := by decide +kernel
theorem dX9_layOrder_132 : decode cX9_layOrder 132 = .ok (.goto (-96), 3) := by decide +kernel
theorem dX9_layOrder_135 : decode cX9_layOrder 135 = .ok (.return_, 1) := by decide +kernel
theorem dX9_rows_0 : decode cX9_rows 0 = .ok (.iconst 1, 1) := by decide +kernel
theorem dX9_rows_1 : decode cX9_rows 1 = .ok (.istore_n 2, 1) := by decide +kernel
theorem dX9_rows_2 : decode cX9_rows 2 = .ok (.iconst 0, 1) := by decide +kernel
theorem dX9_rows_3 : decode cX9_rows 3 = .ok (.istore_n 3, 1) := by decide +kernel
theorem dX9_rows_4 : decode cX9_rows 4 = .ok (.iload_n 3, 1) := by decide +kernel
theorem dX9_rows_5 : decode cX9_rows 5 = .ok (.iload_n 1, 1) := by decide +kernel
theorem dX9_rows_6 : decode cX9_rows 6 = .ok (.if_icmp .ge 15, 3) := by decide +kernel
theorem dX9_rows_9 : decode cX9_rows 9 = .ok (.iload_n 2, 1) := by decide +kernel
theorem dX9_rows_10 : decode cX9_rows 10 = .ok (.iload_n 0, 1) := by decide +kernel
theorem dX9_rows_11 : decode cX9_rows 11 = .ok (.iload_n 3, 1) := by decide +kernel
theorem dX9_rows_12 : decode cX9_rows 12 = .ok (.isub, 1) := by decide +kernel
theorem dX9_rows_13 : decode cX9_rows 13 = .ok (.imul, 1) := by decide +kernel
theorem dX9_rows_14 : decode cX9_rows 14 = .ok (.istore_n 2, 1) := by decide +kernel
theorem dX9_rows_15 : decode cX9_rows 15 = .ok (.iinc 3 1, 3) := by decide +kernel
theorem dX9_rows_18 : decode cX9_rows 18 = .ok (.goto (-14), 3) := by decide +kernel
theorem dX9_rows_21 : decode cX9_rows 21 = .ok (.iload_n 2, 1) := by decide +kernel
theorem dX9_rows_22 : decode cX9_rows 22 = .ok (.ireturn, 1) := by decide +kernel
set_option maxRecDepth 20000 in
theorem ggX9_layBest_X9_rows : GoodIn wsX9_layBest wsX9_rows := goodIn_r _ [8] (by decide +kernel) (by decide +kernel)
set_option maxRecDepth 20000 in
theorem gX9_layBest_X9_rows : GoodIn wsX9_layBest (va_wsS RX9 169 yX9_rows wsX9_rows) := goodIn_app (goodIn_of _ (by decide +kernel)) ggX9_layBest_X9_rows
set_option maxRecDepth 20000 in
theorem ggX9_layBest_X9_layOrder : GoodIn wsX9_layBest wsX9_layOrder := goodIn_r _ [12, 2, 34, 35, 36, 37, 38, 39, 40, 41, 42, 43, 44, 45, 46, 47, 48, 49, 50, 51, 52, 53, 54, 55, 56, 57, 58, 59, 60, 61, 62, 63, 64, 65, 66] (by decide +kernel) (by decide +kernel)
set_option maxRecDepth 20000 in
theorem gX9_layBest_X9_layOrder : GoodIn wsX9_layBest (wsV RX9 172 RX9 yX9_layOrder wsX9_layOrder) := goodIn_app (goodIn_of _ (by decide +kernel)) ggX9_layBest_X9_layOrder
set_option maxRecDepth 20000 in
theorem ggX9_layBest_X9_takeTried : GoodIn wsX9_layBest wsX9_takeTried := goodIn_r _ [16, 3, 17, 34, 35, 36, 37, 38, 39, 40, 41, 42, 43, 44, 45, 46, 47, 48, 49, 50, 51, 52, 53, 54, 55, 56, 57, 58, 59, 60, 61, 62, 63, 64, 65, 66] (by decide +kernel) (by decide +kernel)
set_option maxRecDepth 20000 in
theorem gX9_layBest_X9_takeTried : GoodIn wsX9_layBest (wsV RX9 145 RX9 yX9_takeTried wsX9_takeTried) := goodIn_app (goodIn_of _ (by decide +kernel)) ggX9_layBest_X9_takeTried
set_option maxRecDepth 20000 in
theorem ggX9_layBest_X9_tryDaily : GoodIn wsX9_layBest wsX9_tryDaily := goodIn_r _ [21, 22, 3, 23, 24, 25, 26, 27, 7, 28, 29, 30, 31, 32, 33, 34, 35, 36, 37, 38, 39, 40, 41, 42, 43, 44, 45, 46, 47, 48, 49, 50, 51, 52, 53, 54, 55, 56, 57, 58, 59, 60, 61, 62, 63, 64, 65, 66] (by decide +kernel) (by decide +kernel)
set_option maxRecDepth 20000 in
theorem gX9_layBest_X9_tryDaily : GoodIn wsX9_layBest (wsV RX9 142 RX9 yX9_tryDaily wsX9_tryDaily) := goodIn_app (goodIn_of _ (by decide +kernel)) ggX9_layBest_X9_tryDaily
theorem dX9_layBest_0 : decode cX9_layBest 0 = .ok (.iconst (-1), 1) := by decide +kernel
theorem dX9_layBest_1 : decode cX9_layBest 1 = .ok (.istore_n 2, 1) := by decide +kernel
theorem dX9_layBest_2 : decode cX9_layBest 2 = .ok (.iconst 0, 1) := by decide +kernel
theorem dX9_layBest_3 : decode cX9_layBest 3 = .ok (.istore_n 3, 1) := by decide +kernel
theorem dX9_layBest_4 : decode cX9_layBest 4 = .ok (.iload_n 3, 1) := by decide +kernel
theorem dX9_layBest_5 : decode cX9_layBest 5 = .ok (.aload_n 0, 1) := by decide +kernel
theorem dX9_layBest_6 : decode cX9_layBest 6 = .ok (.getfield 106, 3) := by decide +kernel
theorem dX9_layBest_9 : decode cX9_layBest 9 = .ok (.aload_n 0, 1) := by decide +kernel
theorem dX9_layBest_10 : decode cX9_layBest 10 = .ok (.getfield 106, 3) := by decide +kernel
theorem dX9_layBest_13 : decode cX9_layBest 13 = .ok (.invokestatic 169, 3) := by decide +kernel
theorem dX9_layBest_16 : decode cX9_layBest 16 = .ok (.if_icmp .ge 105, 3) := by decide +kernel
theorem dX9_layBest_19 : decode cX9_layBest 19 = .ok (.aload_n 0, 1) := by decide +kernel
theorem dX9_layBest_20 : decode cX9_layBest 20 = .ok (.iload_n 3, 1) := by decide +kernel
theorem dX9_layBest_21 : decode cX9_layBest 21 = .ok (.aload_n 0, 1) := by decide +kernel
theorem dX9_layBest_22 : decode cX9_layBest 22 = .ok (.getfield 106, 3) := by decide +kernel
theorem dX9_layBest_25 : decode cX9_layBest 25 = .ok (.aload_n 0, 1) := by decide +kernel
theorem dX9_layBest_26 : decode cX9_layBest 26 = .ok (.getfield 106, 3) := by decide +kernel
theorem dX9_layBest_29 : decode cX9_layBest 29 = .ok (.invokevirtual 172, 3) := by decide +kernel
theorem dX9_layBest_32 : decode cX9_layBest 32 = .ok (.aload_n 0, 1) := by decide +kernel
theorem dX9_layBest_33 : decode cX9_layBest 33 = .ok (.invokevirtual 145, 3) := by decide +kernel
theorem dX9_layBest_36 : decode cX9_layBest 36 = .ok (.iconst 0, 1) := by decide +kernel
theorem dX9_layBest_37 : decode cX9_layBest 37 = .ok (.istore 4, 2) := by decide +kernel
theorem dX9_layBest_39 : decode cX9_layBest 39 = .ok (.iload 4, 2) := by decide +kernel
theorem dX9_layBest_41 : decode cX9_layBest 41 = .ok (.aload_n 0, 1) := by decide +kernel
theorem dX9_layBest_42 : decode cX9_layBest 42 = .ok (.getfield 106, 3) := by decide +kernel
theorem dX9_layBest_45 : decode cX9_layBest 45 = .ok (.if_icmp .ge 21, 3) := by decide +kernel
theorem dX9_layBest_48 : decode cX9_layBest 48 = .ok (.aload_n 0, 1) := by decide +kernel
theorem dX9_layBest_49 : decode cX9_layBest 49 = .ok (.aload_n 0, 1) := by decide +kernel
theorem dX9_layBest_50 : decode cX9_layBest 50 = .ok (.getfield 34, 3) := by decide +kernel
theorem dX9_layBest_53 : decode cX9_layBest 53 = .ok (.iload 4, 2) := by decide +kernel
theorem dX9_layBest_55 : decode cX9_layBest 55 = .ok (.iaload, 1) := by decide +kernel
theorem dX9_layBest_56 : decode cX9_layBest 56 = .ok (.invokevirtual 142, 3) := by decide +kernel
theorem dX9_layBest_59 : decode cX9_layBest 59 = .ok (.pop, 1) := by decide +kernel
theorem dX9_layBest_60 : decode cX9_layBest 60 = .ok (.iinc 4 1, 3) := by decide +kernel
theorem dX9_layBest_63 : decode cX9_layBest 63 = .ok (.goto (-24), 3) := by decide +kernel
theorem dX9_layBest_66 : decode cX9_layBest 66 = .ok (.aload_n 0, 1) := by decide +kernel
theorem dX9_layBest_67 : decode cX9_layBest 67 = .ok (.getfield 28, 3) := by decide +kernel
theorem dX9_layBest_70 : decode cX9_layBest 70 = .ok (.iload_n 1, 1) := by decide +kernel
theorem dX9_layBest_71 : decode cX9_layBest 71 = .ok (.iaload, 1) := by decide +kernel
theorem dX9_layBest_72 : decode cX9_layBest 72 = .ok (.iload_n 2, 1) := by decide +kernel
theorem dX9_layBest_73 : decode cX9_layBest 73 = .ok (.if_icmp .le 42, 3) := by decide +kernel
theorem dX9_layBest_76 : decode cX9_layBest 76 = .ok (.aload_n 0, 1) := by decide +kernel
theorem dX9_layBest_77 : decode cX9_layBest 77 = .ok (.getfield 28, 3) := by decide +kernel
theorem dX9_layBest_80 : decode cX9_layBest 80 = .ok (.iload_n 1, 1) := by decide +kernel
theorem dX9_layBest_81 : decode cX9_layBest 81 = .ok (.iaload, 1) := by decide +kernel
theorem dX9_layBest_82 : decode cX9_layBest 82 = .ok (.istore_n 2, 1) := by decide +kernel
theorem dX9_layBest_83 : decode cX9_layBest 83 = .ok (.iconst 0, 1) := by decide +kernel
theorem dX9_layBest_84 : decode cX9_layBest 84 = .ok (.istore 4, 2) := by decide +kernel
theorem dX9_layBest_86 : decode cX9_layBest 86 = .ok (.iload 4, 2) := by decide +kernel
theorem dX9_layBest_88 : decode cX9_layBest 88 = .ok (.aload_n 0, 1) := by decide +kernel
theorem dX9_layBest_89 : decode cX9_layBest 89 = .ok (.getfield 106, 3) := by decide +kernel
theorem dX9_layBest_92 : decode cX9_layBest 92 = .ok (.if_icmp .ge 23, 3) := by decide +kernel
theorem dX9_layBest_95 : decode cX9_layBest 95 = .ok (.aload_n 0, 1) := by decide +kernel
theorem dX9_layBest_96 : decode cX9_layBest 96 = .ok (.getfield 37, 3) := by decide +kernel
theorem dX9_layBest_99 : decode cX9_layBest 99 = .ok (.iload 4, 2) := by decide +kernel
theorem dX9_layBest_101 : decode cX9_layBest 101 = .ok (.aload_n 0, 1) := by decide +kernel
theorem dX9_layBest_102 : decode cX9_layBest 102 = .ok (.getfield 34, 3) := by decide +kernel
theorem dX9_layBest_105 : decode cX9_layBest 105 = .ok (.iload 4, 2) := by decide +kernel
theorem dX9_layBest_107 : decode cX9_layBest 107 = .ok (.iaload, 1) := by decide +kernel
theorem dX9_layBest_108 : decode cX9_layBest 108 = .ok (.iastore, 1) := by decide +kernel
theorem dX9_layBest_109 : decode cX9_layBest 109 = .ok (.iinc 4 1, 3) := by decide +kernel
theorem dX9_layBest_112 : decode cX9_layBest 112 = .ok (.goto (-26), 3) := by decide +kernel
theorem dX9_layBest_115 : decode cX9_layBest 115 = .ok (.iinc 3 1, 3) := by decide +kernel
theorem dX9_layBest_118 : decode cX9_layBest 118 = .ok (.goto (-114), 3) := by decide +kernel
theorem dX9_layBest_121 : decode cX9_layBest 121 = .ok (.iload_n 2, 1) := by decide +kernel
theorem dX9_layBest_122 : decode cX9_layBest 122 = .ok (.ireturn, 1) := by decide +kernel
set_option maxRecDepth 20000 in
theorem ggX9_most_X9_isPerson : GoodIn wsX9_most wsX9_isPerson := goodIn_r _ [6, 7, 8, 9, 5, 10, 46, 47, 48, 49, 50, 51, 52, 53, 54, 55, 56, 57, 58, 59, 60, 61, 62, 63, 64, 65, 66, 67, 68, 69, 70, 71, 72, 73, 74, 75, 76, 77, 78] (by decide +kernel) (by decide +kernel)
set_option maxRecDepth 20000 in
theorem gX9_most_X9_isPerson : GoodIn wsX9_most (wsV RX9 115 RX9 yX9_isPerson wsX9_isPerson) := goodIn_app (goodIn_of _ (by decide +kernel)) ggX9_most_X9_isPerson
set_option maxRecDepth 20000 in
theorem ggX9_most_X9_layBest : GoodIn wsX9_most wsX9_layBest := goodIn_r _ [14, 1, 15, 16, 17, 18, 19, 5, 20, 21, 22, 23, 24, 25, 26, 27, 28, 29, 30, 31, 32, 33, 34, 35, 36, 37, 38, 39, 40, 41, 42, 43, 44, 45, 46, 47, 48, 49, 50, 51, 52, 53, 54, 55, 56, 57, 58, 59, 60, 61, 62, 63, 64, 65, 66, 67, 68, 69, 70, 71, 72, 73, 74, 75, 76, 77, 78] (by decide +kernel) (by decide +kernel)
set_option maxRecDepth 20000 in
theorem gX9_most_X9_layBest : GoodIn wsX9_most (wsV RX9 176 RX9 yX9_layBest wsX9_layBest) := goodIn_app (goodIn_of _ (by decide +kernel)) ggX9_most_X9_layBest
theorem dX9_most_0 : decode cX9_most 0 = .ok (.aload_n 0, 1) := by decide +kernel
theorem dX9_most_1 : decode cX9_most 1 = .ok (.iload_n 1, 1) := by decide +kernel
theorem dX9_most_2 : decode cX9_most 2 = .ok (.invokevirtual 115, 3) := by decide +kernel
theorem dX9_most_5 : decode cX9_most 5 = .ok (.ifCond .ne 5, 3) := by decide +kernel
theorem dX9_most_8 : decode cX9_most 8 = .ok (.iconst (-1), 1) := by decide +kernel
theorem dX9_most_9 : decode cX9_most 9 = .ok (.ireturn, 1) := by decide +kernel
theorem dX9_most_10 : decode cX9_most 10 = .ok (.aload_n 0, 1) := by decide +kernel
theorem dX9_most_11 : decode cX9_most 11 = .ok (.getfield 106, 3) := by decide +kernel
theorem dX9_most_14 : decode cX9_most 14 = .ok (.bipush 6, 2) := by decide +kernel
theorem dX9_most_16 : decode cX9_most 16 = .ok (.if_icmp .le 8, 3) := by decide +kernel
theorem dX9_most_19 : decode cX9_most 19 = .ok (.bipush (-3), 2) := by decide +kernel
theorem dX9_most_21 : decode cX9_most 21 = .ok (.goto 8, 3) := by decide +kernel
theorem dX9_most_24 : decode cX9_most 24 = .ok (.aload_n 0, 1) := by decide +kernel
theorem dX9_most_25 : decode cX9_most 25 = .ok (.iload_n 1, 1) := by decide +kernel
theorem dX9_most_26 : decode cX9_most 26 = .ok (.invokevirtual 176, 3) := by decide +kernel
theorem dX9_most_29 : decode cX9_most 29 = .ok (.ireturn, 1) := by decide +kernel
set_option maxRecDepth 20000 in
theorem ggX9_mostAt_X9_isPerson : GoodIn wsX9_mostAt wsX9_isPerson := goodIn_r _ [7, 8, 9, 10, 6, 11, 46, 47, 48, 49, 50, 51, 52, 53, 54, 55, 56, 57, 58, 59, 60, 61, 62, 63, 64, 65, 66, 67, 68, 69, 70, 71, 72, 73, 74, 75, 76, 77, 78] (by decide +kernel) (by decide +kernel)
set_option maxRecDepth 20000 in
theorem gX9_mostAt_X9_isPerson : GoodIn wsX9_mostAt (wsV RX9 115 RX9 yX9_isPerson wsX9_isPerson) := goodIn_app (goodIn_of _ (by decide +kernel)) ggX9_mostAt_X9_isPerson
set_option maxRecDepth 20000 in
theorem ggX9_mostAt_X9_layBest : GoodIn wsX9_mostAt wsX9_layBest := goodIn_r _ [15, 1, 16, 17, 2, 18, 19, 6, 20, 21, 22, 23, 24, 25, 26, 27, 28, 29, 30, 31, 32, 33, 34, 35, 36, 37, 38, 39, 40, 41, 42, 43, 44, 45, 46, 47, 48, 49, 50, 51, 52, 53, 54, 55, 56, 57, 58, 59, 60, 61, 62, 63, 64, 65, 66, 67, 68, 69, 70, 71, 72, 73, 74, 75, 76, 77, 78] (by decide +kernel) (by decide +kernel)
set_option maxRecDepth 20000 in
theorem gX9_mostAt_X9_layBest : GoodIn wsX9_mostAt (wsV RX9 176 RX9 yX9_layBest wsX9_layBest) := goodIn_app (goodIn_of _ (by decide +kernel)) ggX9_mostAt_X9_layBest
set_option maxRecDepth 20000 in
theorem ggX9_mostAt_X9_in : GoodIn wsX9_mostAt wsX9_in := goodIn_r _ [11] (by decide +kernel) (by decide +kernel)
set_option maxRecDepth 20000 in
theorem gX9_mostAt_X9_in : GoodIn wsX9_mostAt (va_wsS RX9 71 yX9_in wsX9_in) := goodIn_app (goodIn_of _ (by decide +kernel)) ggX9_mostAt_X9_in
theorem dX9_mostAt_0 : decode cX9_mostAt 0 = .ok (.aload_n 0, 1) := by decide +kernel
theorem dX9_mostAt_1 : decode cX9_mostAt 1 = .ok (.iload_n 1, 1) := by decide +kernel
theorem dX9_mostAt_2 : decode cX9_mostAt 2 = .ok (.invokevirtual 115, 3) := by decide +kernel
theorem dX9_mostAt_5 : decode cX9_mostAt 5 = .ok (.ifCond .ne 5, 3) := by decide +kernel
theorem dX9_mostAt_8 : decode cX9_mostAt 8 = .ok (.iconst (-1), 1) := by decide +kernel
theorem dX9_mostAt_9 : decode cX9_mostAt 9 = .ok (.ireturn, 1) := by decide +kernel
theorem dX9_mostAt_10 : decode cX9_mostAt 10 = .ok (.aload_n 0, 1) := by decide +kernel
theorem dX9_mostAt_11 : decode cX9_mostAt 11 = .ok (.getfield 106, 3) := by decide +kernel
theorem dX9_mostAt_14 : decode cX9_mostAt 14 = .ok (.bipush 6, 2) := by decide +kernel
theorem dX9_mostAt_16 : decode cX9_mostAt 16 = .ok (.if_icmp .le 6, 3) := by decide +kernel
theorem dX9_mostAt_19 : decode cX9_mostAt 19 = .ok (.bipush (-3), 2) := by decide +kernel
theorem dX9_mostAt_21 : decode cX9_mostAt 21 = .ok (.ireturn, 1) := by decide +kernel
theorem dX9_mostAt_22 : decode cX9_mostAt 22 = .ok (.aload_n 0, 1) := by decide +kernel
theorem dX9_mostAt_23 : decode cX9_mostAt 23 = .ok (.iload_n 1, 1) := by decide +kernel
theorem dX9_mostAt_24 : decode cX9_mostAt 24 = .ok (.invokevirtual 176, 3) := by decide +kernel
theorem dX9_mostAt_27 : decode cX9_mostAt 27 = .ok (.pop, 1) := by decide +kernel
theorem dX9_mostAt_28 : decode cX9_mostAt 28 = .ok (.iload_n 2, 1) := by decide +kernel
theorem dX9_mostAt_29 : decode cX9_mostAt 29 = .ok (.i2l, 1) := by decide +kernel
theorem dX9_mostAt_30 : decode cX9_mostAt 30 = .ok (.lconst 0, 1) := by decide +kernel
theorem dX9_mostAt_31 : decode cX9_mostAt 31 = .ok (.aload_n 0, 1) := by decide +kernel
theorem dX9_mostAt_32 : decode cX9_mostAt 32 = .ok (.getfield 106, 3) := by decide +kernel
theorem dX9_mostAt_35 : decode cX9_mostAt 35 = .ok (.iconst 1, 1) := by decide +kernel
theorem dX9_mostAt_36 : decode cX9_mostAt 36 = .ok (.isub, 1) := by decide +kernel
theorem dX9_mostAt_37 : decode cX9_mostAt 37 = .ok (.i2l, 1) := by decide +kernel
theorem dX9_mostAt_38 : decode cX9_mostAt 38 = .ok (.invokestatic 71, 3) := by decide +kernel
theorem dX9_mostAt_41 : decode cX9_mostAt 41 = .ok (.ifCond .eq 12, 3) := by decide +kernel
theorem dX9_mostAt_44 : decode cX9_mostAt 44 = .ok (.aload_n 0, 1) := by decide +kernel
theorem dX9_mostAt_45 : decode cX9_mostAt 45 = .ok (.getfield 37, 3) := by decide +kernel
theorem dX9_mostAt_48 : decode cX9_mostAt 48 = .ok (.iload_n 2, 1) := by decide +kernel
theorem dX9_mostAt_49 : decode cX9_mostAt 49 = .ok (.iaload, 1) := by decide +kernel
theorem dX9_mostAt_50 : decode cX9_mostAt 50 = .ok (.goto 5, 3) := by decide +kernel
theorem dX9_mostAt_53 : decode cX9_mostAt 53 = .ok (.bipush (-9), 2) := by decide +kernel
theorem dX9_mostAt_55 : decode cX9_mostAt 55 = .ok (.ireturn, 1) := by decide +kernel
set_option maxRecDepth 20000 in
theorem ggX9_pennies_X9_areTwo : GoodIn wsX9_pennies wsX9_areTwo := goodIn_r _ [7, 8, 9, 10, 6, 11, 12, 13, 14, 15, 26, 27, 28, 29, 30, 31, 32, 33, 34, 35, 36, 37, 38, 39, 40, 41, 42, 43, 44, 45, 46, 47, 48, 49, 50, 51, 52, 53, 54, 55, 56, 57, 58] (by decide +kernel) (by decide +kernel)
set_option maxRecDepth 20000 in
theorem gX9_pennies_X9_areTwo : GoodIn wsX9_pennies (wsV RX9 133 RX9 yX9_areTwo wsX9_areTwo) := goodIn_app (goodIn_of _ (by decide +kernel)) ggX9_pennies_X9_areTwo
set_option maxRecDepth 20000 in
theorem ggX9_pennies_X9_meetTwo : GoodIn wsX9_pennies wsX9_meetTwo := goodIn_r _ [19, 2, 20, 21, 22, 23, 24, 6, 25, 26, 27, 28, 29, 30, 31, 32, 33, 34, 35, 36, 37, 38, 39, 40, 41, 42, 43, 44, 45, 46, 47, 48, 49, 50, 51, 52, 53, 54, 55, 56, 57, 58] (by decide +kernel) (by decide +kernel)
set_option maxRecDepth 20000 in
theorem gX9_pennies_X9_meetTwo : GoodIn wsX9_pennies (wsV RX9 137 RX9 yX9_meetTwo wsX9_meetTwo) := goodIn_app (goodIn_of _ (by decide +kernel)) ggX9_pennies_X9_meetTwo
theorem dX9_pennies_0 : decode cX9_pennies 0 = .ok (.aload_n 0, 1) := by decide +kernel
theorem dX9_pennies_1 : decode cX9_pennies 1 = .ok (.iload_n 1, 1) := by decide +kernel
theorem dX9_pennies_2 : decode cX9_pennies 2 = .ok (.iload_n 2, 1) := by decide +kernel
theorem dX9_pennies_3 : decode cX9_pennies 3 = .ok (.invokevirtual 133, 3) := by decide +kernel
theorem dX9_pennies_6 : decode cX9_pennies 6 = .ok (.ifCond .ne 5, 3) := by decide +kernel
theorem dX9_pennies_9 : decode cX9_pennies 9 = .ok (.iconst (-1), 1) := by decide +kernel
theorem dX9_pennies_10 : decode cX9_pennies 10 = .ok (.ireturn, 1) := by decide +kernel
theorem dX9_pennies_11 : decode cX9_pennies 11 = .ok (.iload_n 1, 1) := by decide +kernel
theorem dX9_pennies_12 : decode cX9_pennies 12 = .ok (.iload_n 2, 1) := by decide +kernel
theorem dX9_pennies_13 : decode cX9_pennies 13 = .ok (.if_icmp .ne 6, 3) := by decide +kernel
theorem dX9_pennies_16 : decode cX9_pennies 16 = .ok (.bipush (-3), 2) := by decide +kernel
theorem dX9_pennies_18 : decode cX9_pennies 18 = .ok (.ireturn, 1) := by decide +kernel
theorem dX9_pennies_19 : decode cX9_pennies 19 = .ok (.iconst 0, 1) := by decide +kernel
theorem dX9_pennies_20 : decode cX9_pennies 20 = .ok (.istore_n 3, 1) := by decide +kernel
theorem dX9_pennies_21 : decode cX9_pennies 21 = .ok (.aload_n 0, 1) := by decide +kernel
theorem dX9_pennies_22 : decode cX9_pennies 22 = .ok (.aload_n 0, 1) := by decide +kernel
theorem dX9_pennies_23 : decode cX9_pennies 23 = .ok (.getfield 16, 3) := by decide +kernel
theorem dX9_pennies_26 : decode cX9_pennies 26 = .ok (.iload_n 1, 1) := by decide +kernel
theorem dX9_pennies_27 : decode cX9_pennies 27 = .ok (.iaload, 1) := by decide +kernel
theorem dX9_pennies_28 : decode cX9_pennies 28 = .ok (.aload_n 0, 1) := by decide +kernel
theorem dX9_pennies_29 : decode cX9_pennies 29 = .ok (.getfield 16, 3) := by decide +kernel
theorem dX9_pennies_32 : decode cX9_pennies 32 = .ok (.iload_n 2, 1) := by decide +kernel
theorem dX9_pennies_33 : decode cX9_pennies 33 = .ok (.iaload, 1) := by decide +kernel
theorem dX9_pennies_34 : decode cX9_pennies 34 = .ok (.invokevirtual 137, 3) := by decide +kernel
theorem dX9_pennies_37 : decode cX9_pennies 37 = .ok (.aload_n 0, 1) := by decide +kernel
theorem dX9_pennies_38 : decode cX9_pennies 38 = .ok (.getfield 123, 3) := by decide +kernel
theorem dX9_pennies_41 : decode cX9_pennies 41 = .ok (.iload_n 3, 1) := by decide +kernel
theorem dX9_pennies_42 : decode cX9_pennies 42 = .ok (.iadd, 1) := by decide +kernel
theorem dX9_pennies_43 : decode cX9_pennies 43 = .ok (.aload_n 0, 1) := by decide +kernel
theorem dX9_pennies_44 : decode cX9_pennies 44 = .ok (.getfield 16, 3) := by decide +kernel
theorem dX9_pennies_47 : decode cX9_pennies 47 = .ok (.iload_n 1, 1) := by decide +kernel
theorem dX9_pennies_48 : decode cX9_pennies 48 = .ok (.iaload, 1) := by decide +kernel
theorem dX9_pennies_49 : decode cX9_pennies 49 = .ok (.if_icmp .ge 27, 3) := by decide +kernel
theorem dX9_pennies_52 : decode cX9_pennies 52 = .ok (.iinc 3 1, 3) := by decide +kernel
theorem dX9_pennies_55 : decode cX9_pennies 55 = .ok (.aload_n 0, 1) := by decide +kernel
theorem dX9_pennies_56 : decode cX9_pennies 56 = .ok (.aload_n 0, 1) := by decide +kernel
theorem dX9_pennies_57 : decode cX9_pennies 57 = .ok (.getfield 16, 3) := by decide +kernel
theorem dX9_pennies_60 : decode cX9_pennies 60 = .ok (.iload_n 1, 1) := by decide +kernel
theorem dX9_pennies_61 : decode cX9_pennies 61 = .ok (.iaload, 1) := by decide +kernel
theorem dX9_pennies_62 : decode cX9_pennies 62 = .ok (.iload_n 3, 1) := by decide +kernel
theorem dX9_pennies_63 : decode cX9_pennies 63 = .ok (.isub, 1) := by decide +kernel
theorem dX9_pennies_64 : decode cX9_pennies 64 = .ok (.aload_n 0, 1) := by decide +kernel
theorem dX9_pennies_65 : decode cX9_pennies 65 = .ok (.getfield 16, 3) := by decide +kernel
theorem dX9_pennies_68 : decode cX9_pennies 68 = .ok (.iload_n 2, 1) := by decide +kernel
theorem dX9_pennies_69 : decode cX9_pennies 69 = .ok (.iaload, 1) := by decide +kernel
theorem dX9_pennies_70 : decode cX9_pennies 70 = .ok (.invokevirtual 137, 3) := by decide +kernel
theorem dX9_pennies_73 : decode cX9_pennies 73 = .ok (.goto (-36), 3) := by decide +kernel
theorem dX9_pennies_76 : decode cX9_pennies 76 = .ok (.iload_n 3, 1) := by decide +kernel
theorem dX9_pennies_77 : decode cX9_pennies 77 = .ok (.ireturn, 1) := by decide +kernel
set_option maxRecDepth 20000 in
theorem ggX9_see_X9_in : GoodIn wsX9_see wsX9_in := goodIn_r _ [8] (by decide +kernel) (by decide +kernel)
set_option maxRecDepth 20000 in
theorem gX9_see_X9_in : GoodIn wsX9_see (va_wsS RX9 71 yX9_in wsX9_in) := goodIn_app (goodIn_of _ (by decide +kernel)) ggX9_see_X9_in
theorem dX9_see_0 : decode cX9_see 0 = .ok (.iload_n 1, 1) := by decide +kernel
theorem dX9_see_1 : decode cX9_see 1 = .ok (.i2l, 1) := by decide +kernel
theorem dX9_see_2 : decode cX9_see 2 = .ok (.lconst 1, 1) := by decide +kernel
theorem dX9_see_3 : decode cX9_see 3 = .ok (.ldc2_w 119, 3) := by decide +kernel
theorem dX9_see_6 : decode cX9_see 6 = .ok (.invokestatic 71, 3) := by decide +kernel
theorem dX9_see_9 : decode cX9_see 9 = .ok (.ifCond .eq 15, 3) := by decide +kernel
theorem dX9_see_12 : decode cX9_see 12 = .ok (.iload_n 2, 1) := by decide +kernel
theorem dX9_see_13 : decode cX9_see 13 = .ok (.i2l, 1) := by decide +kernel
theorem dX9_see_14 : decode cX9_see 14 = .ok (.lconst 0, 1) := by decide +kernel
theorem dX9_see_15 : decode cX9_see 15 = .ok (.ldc2_w 119, 3) := by decide +kernel
theorem dX9_see_18 : decode cX9_see 18 = .ok (.invokestatic 71, 3) := by decide +kernel
theorem dX9_see_21 : decode cX9_see 21 = .ok (.ifCond .ne 6, 3) := by decide +kernel
theorem dX9_see_24 : decode cX9_see 24 = .ok (.bipush (-2), 2) := by decide +kernel
theorem dX9_see_26 : decode cX9_see 26 = .ok (.ireturn, 1) := by decide +kernel
theorem dX9_see_27 : decode cX9_see 27 = .ok (.aload_n 0, 1) := by decide +kernel
theorem dX9_see_28 : decode cX9_see 28 = .ok (.getfield 112, 3) := by decide +kernel
theorem dX9_see_31 : decode cX9_see 31 = .ok (.bipush 8, 2) := by decide +kernel
theorem dX9_see_33 : decode cX9_see 33 = .ok (.if_icmp .ne 6, 3) := by decide +kernel
theorem dX9_see_36 : decode cX9_see 36 = .ok (.bipush (-4), 2) := by decide +kernel
theorem dX9_see_38 : decode cX9_see 38 = .ok (.ireturn, 1) := by decide +kernel
theorem dX9_see_39 : decode cX9_see 39 = .ok (.aload_n 0, 1) := by decide +kernel
theorem dX9_see_40 : decode cX9_see 40 = .ok (.getfield 40, 3) := by decide +kernel
theorem dX9_see_43 : decode cX9_see 43 = .ok (.aload_n 0, 1) := by decide +kernel
theorem dX9_see_44 : decode cX9_see 44 = .ok (.getfield 112, 3) := by decide +kernel
theorem dX9_see_47 : decode cX9_see 47 = .ok (.iload_n 1, 1) := by decide +kernel
theorem dX9_see_48 : decode cX9_see 48 = .ok (.iastore, 1) := by decide +kernel
theorem dX9_see_49 : decode cX9_see 49 = .ok (.aload_n 0, 1) := by decide +kernel
theorem dX9_see_50 : decode cX9_see 50 = .ok (.getfield 43, 3) := by decide +kernel
theorem dX9_see_53 : decode cX9_see 53 = .ok (.aload_n 0, 1) := by decide +kernel
theorem dX9_see_54 : decode cX9_see 54 = .ok (.getfield 112, 3) := by decide +kernel
theorem dX9_see_57 : decode cX9_see 57 = .ok (.iload_n 2, 1) := by decide +kernel
theorem dX9_see_58 : decode cX9_see 58 = .ok (.iastore, 1) := by decide +kernel
theorem dX9_see_59 : decode cX9_see 59 = .ok (.aload_n 0, 1) := by decide +kernel
theorem dX9_see_60 : decode cX9_see 60 = .ok (.dup, 1) := by decide +kernel
theorem dX9_see_61 : decode cX9_see 61 = .ok (.getfield 112, 3) := by decide +kernel
theorem dX9_see_64 : decode cX9_see 64 = .ok (.iconst 1, 1) := by decide +kernel
theorem dX9_see_65 : decode cX9_see 65 = .ok (.iadd, 1) := by decide +kernel
theorem dX9_see_66 : decode cX9_see 66 = .ok (.putfield 112, 3) := by decide +kernel
theorem dX9_see_69 : decode cX9_see 69 = .ok (.aload_n 0, 1) := by decide +kernel
theorem dX9_see_70 : decode cX9_see 70 = .ok (.getfield 112, 3) := by decide +kernel
theorem dX9_see_73 : decode cX9_see 73 = .ok (.ireturn, 1) := by decide +kernel
theorem dX9_unsee_0 : decode cX9_unsee 0 = .ok (.aload_n 0, 1) := by decide +kernel
theorem dX9_unsee_1 : decode cX9_unsee 1 = .ok (.getfield 112, 3) := by decide +kernel
theorem dX9_unsee_4 : decode cX9_unsee 4 = .ok (.istore_n 1, 1) := by decide +kernel
theorem dX9_unsee_5 : decode cX9_unsee 5 = .ok (.aload_n 0, 1) := by decide +kernel
theorem dX9_unsee_6 : decode cX9_unsee 6 = .ok (.iconst 0, 1) := by decide +kernel
theorem dX9_unsee_7 : decode cX9_unsee 7 = .ok (.putfield 112, 3) := by decide +kernel
theorem dX9_unsee_10 : decode cX9_unsee 10 = .ok (.iload_n 1, 1) := by decide +kernel
theorem dX9_unsee_11 : decode cX9_unsee 11 = .ok (.ireturn, 1) := by decide +kernel
set_option maxRecDepth 20000 in
theorem ggX9_mayBe_X9_sharedBy : GoodIn wsX9_mayBe wsX9_sharedBy := goodIn_r _ [7] (by decide +kernel) (by decide +kernel)
set_option maxRecDepth 20000 in
theorem gX9_mayBe_X9_sharedBy : GoodIn wsX9_mayBe (va_wsS RX9 129 yX9_sharedBy wsX9_sharedBy) := goodIn_app (goodIn_of _ (by decide +kernel)) ggX9_mayBe_X9_sharedBy
theorem dX9_mayBe_0 : decode cX9_mayBe 0 = .ok (.iconst 1, 1) := by decide +kernel
theorem dX9_mayBe_1 : decode cX9_mayBe 1 = .ok (.istore_n 2, 1) := by decide +kernel
theorem dX9_mayBe_2 : decode cX9_mayBe 2 = .ok (.iconst 0, 1) := by decide +kernel
theorem dX9_mayBe_3 : decode cX9_mayBe 3 = .ok (.istore_n 3, 1) := by decide +kernel
theorem dX9_mayBe_4 : decode cX9_mayBe 4 = .ok (.iload_n 3, 1) := by decide +kernel
theorem dX9_mayBe_5 : decode cX9_mayBe 5 = .ok (.aload_n 0, 1) := by decide +kernel
theorem dX9_mayBe_6 : decode cX9_mayBe 6 = .ok (.getfield 112, 3) := by decide +kernel
theorem dX9_mayBe_9 : decode cX9_mayBe 9 = .ok (.if_icmp .ge 54, 3) := by decide +kernel
theorem dX9_mayBe_12 : decode cX9_mayBe 12 = .ok (.iload_n 2, 1) := by decide +kernel
theorem dX9_mayBe_13 : decode cX9_mayBe 13 = .ok (.ifCond .eq 50, 3) := by decide +kernel
theorem dX9_mayBe_16 : decode cX9_mayBe 16 = .ok (.aload_n 0, 1) := by decide +kernel
theorem dX9_mayBe_17 : decode cX9_mayBe 17 = .ok (.getfield 43, 3) := by decide +kernel
theorem dX9_mayBe_20 : decode cX9_mayBe 20 = .ok (.iload_n 3, 1) := by decide +kernel
theorem dX9_mayBe_21 : decode cX9_mayBe 21 = .ok (.iaload, 1) := by decide +kernel
theorem dX9_mayBe_22 : decode cX9_mayBe 22 = .ok (.istore 4, 2) := by decide +kernel
theorem dX9_mayBe_24 : decode cX9_mayBe 24 = .ok (.iload 4, 2) := by decide +kernel
theorem dX9_mayBe_26 : decode cX9_mayBe 26 = .ok (.ifCond .eq 10, 3) := by decide +kernel
theorem dX9_mayBe_29 : decode cX9_mayBe 29 = .ok (.iload_n 1, 1) := by decide +kernel
theorem dX9_mayBe_30 : decode cX9_mayBe 30 = .ok (.iload 4, 2) := by decide +kernel
theorem dX9_mayBe_32 : decode cX9_mayBe 32 = .ok (.irem, 1) := by decide +kernel
theorem dX9_mayBe_33 : decode cX9_mayBe 33 = .ok (.ifCond .ne 22, 3) := by decide +kernel
theorem dX9_mayBe_36 : decode cX9_mayBe 36 = .ok (.iload_n 1, 1) := by decide +kernel
theorem dX9_mayBe_37 : decode cX9_mayBe 37 = .ok (.aload_n 0, 1) := by decide +kernel
theorem dX9_mayBe_38 : decode cX9_mayBe 38 = .ok (.getfield 40, 3) := by decide +kernel
theorem dX9_mayBe_41 : decode cX9_mayBe 41 = .ok (.iload_n 3, 1) := by decide +kernel
theorem dX9_mayBe_42 : decode cX9_mayBe 42 = .ok (.iaload, 1) := by decide +kernel
theorem dX9_mayBe_43 : decode cX9_mayBe 43 = .ok (.invokestatic 129, 3) := by decide +kernel
theorem dX9_mayBe_46 : decode cX9_mayBe 46 = .ok (.iload 4, 2) := by decide +kernel
theorem dX9_mayBe_48 : decode cX9_mayBe 48 = .ok (.if_icmp .ne 7, 3) := by decide +kernel
theorem dX9_mayBe_51 : decode cX9_mayBe 51 = .ok (.iconst 1, 1) := by decide +kernel
theorem dX9_mayBe_52 : decode cX9_mayBe 52 = .ok (.goto 4, 3) := by decide +kernel
theorem dX9_mayBe_55 : decode cX9_mayBe 55 = .ok (.iconst 0, 1) := by decide +kernel
theorem dX9_mayBe_56 : decode cX9_mayBe 56 = .ok (.istore_n 2, 1) := by decide +kernel
theorem dX9_mayBe_57 : decode cX9_mayBe 57 = .ok (.iinc 3 1, 3) := by decide +kernel
theorem dX9_mayBe_60 : decode cX9_mayBe 60 = .ok (.goto (-56), 3) := by decide +kernel
theorem dX9_mayBe_63 : decode cX9_mayBe 63 = .ok (.iload_n 2, 1) := by decide +kernel
theorem dX9_mayBe_64 : decode cX9_mayBe 64 = .ok (.ireturn, 1) := by decide +kernel
set_option maxRecDepth 20000 in
theorem ggX9_mayHold_X9_in : GoodIn wsX9_mayHold wsX9_in := goodIn_r _ [6] (by decide +kernel) (by decide +kernel)
set_option maxRecDepth 20000 in
theorem gX9_mayHold_X9_in : GoodIn wsX9_mayHold (va_wsS RX9 71 yX9_in wsX9_in) := goodIn_app (goodIn_of _ (by decide +kernel)) ggX9_mayHold_X9_in
set_option maxRecDepth 20000 in
theorem ggX9_mayHold_X9_mayBe : GoodIn wsX9_mayHold wsX9_mayBe := goodIn_r _ [10, 11, 12, 13, 14, 15, 5, 16, 17, 18, 19, 20, 21, 22, 23, 24, 25, 26, 27, 28, 29, 30, 31, 32, 33, 34, 35, 36, 37, 38, 39, 40, 41, 42, 43, 44, 45, 46, 47, 48, 49] (by decide +kernel) (by decide +kernel)
set_option maxRecDepth 20000 in
theorem gX9_mayHold_X9_mayBe : GoodIn wsX9_mayHold (wsV RX9 182 RX9 yX9_mayBe wsX9_mayBe) := goodIn_app (goodIn_of _ (by decide +kernel)) ggX9_mayHold_X9_mayBe
theorem dX9_mayHold_0 : decode cX9_mayHold 0 = .ok (.iload_n 1, 1) := by decide +kernel
theorem dX9_mayHold_1 : decode cX9_mayHold 1 = .ok (.i2l, 1) := by decide +kernel
theorem dX9_mayHold_2 : decode cX9_mayHold 2 = .ok (.lconst 0, 1) := by decide +kernel
theorem dX9_mayHold_3 : decode cX9_mayHold 3 = .ok (.ldc2_w 119, 3) := by decide +kernel
theorem dX9_mayHold_6 : decode cX9_mayHold 6 = .ok (.invokestatic 71, 3) := by decide +kernel
theorem dX9_mayHold_9 : decode cX9_mayHold 9 = .ok (.ifCond .eq 15, 3) := by decide +kernel
theorem dX9_mayHold_12 : decode cX9_mayHold 12 = .ok (.iload_n 2, 1) := by decide +kernel
theorem dX9_mayHold_13 : decode cX9_mayHold 13 = .ok (.i2l, 1) := by decide +kernel
theorem dX9_mayHold_14 : decode cX9_mayHold 14 = .ok (.lconst 0, 1) := by decide +kernel
theorem dX9_mayHold_15 : decode cX9_mayHold 15 = .ok (.ldc2_w 180, 3) := by decide +kernel
theorem dX9_mayHold_18 : decode cX9_mayHold 18 = .ok (.invokestatic 71, 3) := by decide +kernel
theorem dX9_mayHold_21 : decode cX9_mayHold 21 = .ok (.ifCond .ne 6, 3) := by decide +kernel
theorem dX9_mayHold_24 : decode cX9_mayHold 24 = .ok (.bipush (-2), 2) := by decide +kernel
theorem dX9_mayHold_26 : decode cX9_mayHold 26 = .ok (.ireturn, 1) := by decide +kernel
theorem dX9_mayHold_27 : decode cX9_mayHold 27 = .ok (.iconst 0, 1) := by decide +kernel
theorem dX9_mayHold_28 : decode cX9_mayHold 28 = .ok (.istore_n 3, 1) := by decide +kernel
theorem dX9_mayHold_29 : decode cX9_mayHold 29 = .ok (.bipush (-9), 2) := by decide +kernel
theorem dX9_mayHold_31 : decode cX9_mayHold 31 = .ok (.istore 4, 2) := by decide +kernel
theorem dX9_mayHold_33 : decode cX9_mayHold 33 = .ok (.bipush (-9), 2) := by decide +kernel
theorem dX9_mayHold_35 : decode cX9_mayHold 35 = .ok (.istore 5, 2) := by decide +kernel
theorem dX9_mayHold_37 : decode cX9_mayHold 37 = .ok (.iconst 0, 1) := by decide +kernel
theorem dX9_mayHold_38 : decode cX9_mayHold 38 = .ok (.istore 6, 2) := by decide +kernel
theorem dX9_mayHold_40 : decode cX9_mayHold 40 = .ok (.iload 6, 2) := by decide +kernel
theorem dX9_mayHold_42 : decode cX9_mayHold 42 = .ok (.iload_n 1, 1) := by decide +kernel
theorem dX9_mayHold_43 : decode cX9_mayHold 43 = .ok (.if_icmp .gt 65, 3) := by decide +kernel
theorem dX9_mayHold_46 : decode cX9_mayHold 46 = .ok (.aload_n 0, 1) := by decide +kernel
theorem dX9_mayHold_47 : decode cX9_mayHold 47 = .ok (.iload 6, 2) := by decide +kernel
theorem dX9_mayHold_49 : decode cX9_mayHold 49 = .ok (.invokevirtual 182, 3) := by decide +kernel
theorem dX9_mayHold_52 : decode cX9_mayHold 52 = .ok (.istore 7, 2) := by decide +kernel
theorem dX9_mayHold_54 : decode cX9_mayHold 54 = .ok (.iload_n 3, 1) := by decide +kernel
theorem dX9_mayHold_55 : decode cX9_mayHold 55 = .ok (.iload 7, 2) := by decide +kernel
theorem dX9_mayHold_57 : decode cX9_mayHold 57 = .ok (.ifCond .eq 7, 3) := by decide +kernel
theorem dX9_mayHold_60 : decode cX9_mayHold 60 = .ok (.iconst 1, 1) := by decide +kernel
theorem dX9_mayHold_61 : decode cX9_mayHold 61 = .ok (.goto 4, 3) := by decide +kernel
theorem dX9_mayHold_64 : decode cX9_mayHold 64 = .ok (.iconst 0, 1) := by decide +kernel
theorem dX9_mayHold_65 : decode cX9_mayHold 65 = .ok (.iadd, 1) := by decide +kernel
theorem dX9_mayHold_66 : decode cX9_mayHold 66 = .ok (.istore_n 3, 1) := by decide +kernel
theorem dX9_mayHold_67 : decode cX9_mayHold 67 = .ok (.iload 7, 2) := by decide +kernel
theorem dX9_mayHold_69 : decode cX9_mayHold 69 = .ok (.ifCond .eq 15, 3) := by decide +kernel
theorem dX9_mayHold_72 : decode cX9_mayHold 72 = .ok (.iload 4, 2) := by decide +kernel
theorem dX9_mayHold_74 : decode cX9_mayHold 74 = .ok (.bipush (-9), 2) := by decide +kernel
theorem dX9_mayHold_76 : decode cX9_mayHold 76 = .ok (.if_icmp .ne 8, 3) := by decide +kernel
theorem dX9_mayHold_79 : decode cX9_mayHold 79 = .ok (.iload 6, 2) := by decide +kernel
theorem dX9_mayHold_81 : decode cX9_mayHold 81 = .ok (.goto 5, 3) := by decide +kernel
theorem dX9_mayHold_84 : decode cX9_mayHold 84 = .ok (.iload 4, 2) := by decide +kernel
theorem dX9_mayHold_86 : decode cX9_mayHold 86 = .ok (.istore 4, 2) := by decide +kernel
theorem dX9_mayHold_88 : decode cX9_mayHold 88 = .ok (.iload 7, 2) := by decide +kernel
theorem dX9_mayHold_90 : decode cX9_mayHold 90 = .ok (.ifCond .eq 8, 3) := by decide +kernel
theorem dX9_mayHold_93 : decode cX9_mayHold 93 = .ok (.iload 6, 2) := by decide +kernel
theorem dX9_mayHold_95 : decode cX9_mayHold 95 = .ok (.goto 5, 3) := by decide +kernel
theorem dX9_mayHold_98 : decode cX9_mayHold 98 = .ok (.iload 5, 2) := by decide +kernel
theorem dX9_mayHold_100 : decode cX9_mayHold 100 = .ok (.istore 5, 2) := by decide +kernel
theorem dX9_mayHold_102 : decode cX9_mayHold 102 = .ok (.iinc 6 1, 3) := by decide +kernel
theorem dX9_mayHold_105 : decode cX9_mayHold 105 = .ok (.goto (-65), 3) := by decide +kernel
theorem dX9_mayHold_108 : decode cX9_mayHold 108 = .ok (.iload_n 2, 1) := by decide +kernel
theorem dX9_mayHold_109 : decode cX9_mayHold 109 = .ok (.ifCond .ne 7, 3) := by decide +kernel
theorem dX9_mayHold_112 : decode cX9_mayHold 112 = .ok (.iload_n 3, 1) := by decide +kernel
theorem dX9_mayHold_113 : decode cX9_mayHold 113 = .ok (.goto 15, 3) := by decide +kernel
theorem dX9_mayHold_116 : decode cX9_mayHold 116 = .ok (.iload_n 2, 1) := by decide +kernel
theorem dX9_mayHold_117 : decode cX9_mayHold 117 = .ok (.iconst 1, 1) := by decide +kernel
theorem dX9_mayHold_118 : decode cX9_mayHold 118 = .ok (.if_icmp .ne 8, 3) := by decide +kernel
theorem dX9_mayHold_121 : decode cX9_mayHold 121 = .ok (.iload 4, 2) := by decide +kernel
theorem dX9_mayHold_123 : decode cX9_mayHold 123 = .ok (.goto 5, 3) := by decide +kernel
theorem dX9_mayHold_126 : decode cX9_mayHold 126 = .ok (.iload 5, 2) := by decide +kernel
theorem dX9_mayHold_128 : decode cX9_mayHold 128 = .ok (.ireturn, 1) := by decide +kernel
set_option maxRecDepth 20000 in
theorem ggX9_layRuin_X9_rows : GoodIn wsX9_layRuin wsX9_rows := goodIn_r _ [8] (by decide +kernel) (by decide +kernel)
set_option maxRecDepth 20000 in
theorem gX9_layRuin_X9_rows : GoodIn wsX9_layRuin (va_wsS RX9 169 yX9_rows wsX9_rows) := goodIn_app (goodIn_of _ (by decide +kernel)) ggX9_layRuin_X9_rows
set_option maxRecDepth 20000 in
theorem ggX9_layRuin_X9_layOrder : GoodIn wsX9_layRuin wsX9_layOrder := goodIn_r _ [12, 3, 23, 24, 25, 26, 27, 28, 29, 30, 31, 32, 33, 34, 35, 36, 37, 38, 39, 40, 41, 42, 43, 44, 45, 46, 47, 48, 49, 50, 51, 52, 53, 54, 55] (by decide +kernel) (by decide +kernel)
set_option maxRecDepth 20000 in
theorem gX9_layRuin_X9_layOrder : GoodIn wsX9_layRuin (wsV RX9 172 RX9 yX9_layOrder wsX9_layOrder) := goodIn_app (goodIn_of _ (by decide +kernel)) ggX9_layRuin_X9_layOrder
set_option maxRecDepth 20000 in
theorem ggX9_layRuin_X9_meetTwo : GoodIn wsX9_layRuin wsX9_meetTwo := goodIn_r _ [16, 4, 17, 18, 19, 20, 21, 7, 22, 23, 24, 25, 26, 27, 28, 29, 30, 31, 32, 33, 34, 35, 36, 37, 38, 39, 40, 41, 42, 43, 44, 45, 46, 47, 48, 49, 50, 51, 52, 53, 54, 55] (by decide +kernel) (by decide +kernel)
set_option maxRecDepth 20000 in
theorem gX9_layRuin_X9_meetTwo : GoodIn wsX9_layRuin (wsV RX9 137 RX9 yX9_meetTwo wsX9_meetTwo) := goodIn_app (goodIn_of _ (by decide +kernel)) ggX9_layRuin_X9_meetTwo
theorem dX9_layRuin_0 : decode cX9_layRuin 0 = .ok (.iconst 0, 1) := by decide +kernel
theorem dX9_layRuin_1 : decode cX9_layRuin 1 = .ok (.istore_n 3, 1) := by decide +kernel
theorem dX9_layRuin_2 : decode cX9_layRuin 2 = .ok (.iload_n 3, 1) := by decide +kernel
theorem dX9_layRuin_3 : decode cX9_layRuin 3 = .ok (.aload_n 0, 1) := by decide +kernel
theorem dX9_layRuin_4 : decode cX9_layRuin 4 = .ok (.getfield 65, 3) := by decide +kernel
theorem dX9_layRuin_7 : decode cX9_layRuin 7 = .ok (.if_icmp .ge 127, 3) := by decide +kernel
theorem dX9_layRuin_10 : decode cX9_layRuin 10 = .ok (.iconst 0, 1) := by decide +kernel
theorem dX9_layRuin_11 : decode cX9_layRuin 11 = .ok (.istore 4, 2) := by decide +kernel
theorem dX9_layRuin_13 : decode cX9_layRuin 13 = .ok (.iload 4, 2) := by decide +kernel
theorem dX9_layRuin_15 : decode cX9_layRuin 15 = .ok (.aload_n 0, 1) := by decide +kernel
theorem dX9_layRuin_16 : decode cX9_layRuin 16 = .ok (.getfield 65, 3) := by decide +kernel
theorem dX9_layRuin_19 : decode cX9_layRuin 19 = .ok (.iconst 1, 1) := by decide +kernel
theorem dX9_layRuin_20 : decode cX9_layRuin 20 = .ok (.isub, 1) := by decide +kernel
theorem dX9_layRuin_21 : decode cX9_layRuin 21 = .ok (.iload_n 3, 1) := by decide +kernel
theorem dX9_layRuin_22 : decode cX9_layRuin 22 = .ok (.invokestatic 169, 3) := by decide +kernel
theorem dX9_layRuin_25 : decode cX9_layRuin 25 = .ok (.if_icmp .ge 103, 3) := by decide +kernel
theorem dX9_layRuin_28 : decode cX9_layRuin 28 = .ok (.aload_n 0, 1) := by decide +kernel
theorem dX9_layRuin_29 : decode cX9_layRuin 29 = .ok (.iload 4, 2) := by decide +kernel
theorem dX9_layRuin_31 : decode cX9_layRuin 31 = .ok (.aload_n 0, 1) := by decide +kernel
theorem dX9_layRuin_32 : decode cX9_layRuin 32 = .ok (.getfield 65, 3) := by decide +kernel
theorem dX9_layRuin_35 : decode cX9_layRuin 35 = .ok (.iconst 1, 1) := by decide +kernel
theorem dX9_layRuin_36 : decode cX9_layRuin 36 = .ok (.isub, 1) := by decide +kernel
theorem dX9_layRuin_37 : decode cX9_layRuin 37 = .ok (.iload_n 3, 1) := by decide +kernel
theorem dX9_layRuin_38 : decode cX9_layRuin 38 = .ok (.invokevirtual 172, 3) := by decide +kernel
theorem dX9_layRuin_41 : decode cX9_layRuin 41 = .ok (.aload_n 0, 1) := by decide +kernel
theorem dX9_layRuin_42 : decode cX9_layRuin 42 = .ok (.getfield 16, 3) := by decide +kernel
theorem dX9_layRuin_45 : decode cX9_layRuin 45 = .ok (.iload_n 1, 1) := by decide +kernel
theorem dX9_layRuin_46 : decode cX9_layRuin 46 = .ok (.iaload, 1) := by decide +kernel
theorem dX9_layRuin_47 : decode cX9_layRuin 47 = .ok (.istore 5, 2) := by decide +kernel
theorem dX9_layRuin_49 : decode cX9_layRuin 49 = .ok (.iconst 0, 1) := by decide +kernel
theorem dX9_layRuin_50 : decode cX9_layRuin 50 = .ok (.istore 6, 2) := by decide +kernel
theorem dX9_layRuin_52 : decode cX9_layRuin 52 = .ok (.iload 6, 2) := by decide +kernel
theorem dX9_layRuin_54 : decode cX9_layRuin 54 = .ok (.iload_n 3, 1) := by decide +kernel
theorem dX9_layRuin_55 : decode cX9_layRuin 55 = .ok (.if_icmp .ge 59, 3) := by decide +kernel
theorem dX9_layRuin_58 : decode cX9_layRuin 58 = .ok (.aload_n 0, 1) := by decide +kernel
theorem dX9_layRuin_59 : decode cX9_layRuin 59 = .ok (.getfield 34, 3) := by decide +kernel
theorem dX9_layRuin_62 : decode cX9_layRuin 62 = .ok (.iload 6, 2) := by decide +kernel
theorem dX9_layRuin_64 : decode cX9_layRuin 64 = .ok (.dup2, 1) := by decide +kernel
theorem dX9_layRuin_65 : decode cX9_layRuin 65 = .ok (.iaload, 1) := by decide +kernel
theorem dX9_layRuin_66 : decode cX9_layRuin 66 = .ok (.aload_n 0, 1) := by decide +kernel
theorem dX9_layRuin_67 : decode cX9_layRuin 67 = .ok (.getfield 34, 3) := by decide +kernel
theorem dX9_layRuin_70 : decode cX9_layRuin 70 = .ok (.iload 6, 2) := by decide +kernel
theorem dX9_layRuin_72 : decode cX9_layRuin 72 = .ok (.iaload, 1) := by decide +kernel
theorem dX9_layRuin_73 : decode cX9_layRuin 73 = .ok (.iload_n 1, 1) := by decide +kernel
theorem dX9_layRuin_74 : decode cX9_layRuin 74 = .ok (.if_icmp .lt 7, 3) := by decide +kernel
theorem dX9_layRuin_77 : decode cX9_layRuin 77 = .ok (.iconst 1, 1) := by decide +kernel
theorem dX9_layRuin_78 : decode cX9_layRuin 78 = .ok (.goto 4, 3) := by decide +kernel
theorem dX9_layRuin_81 : decode cX9_layRuin 81 = .ok (.iconst 0, 1) := by decide +kernel
theorem dX9_layRuin_82 : decode cX9_layRuin 82 = .ok (.iadd, 1) := by decide +kernel
theorem dX9_layRuin_83 : decode cX9_layRuin 83 = .ok (.iastore, 1) := by decide +kernel
theorem dX9_layRuin_84 : decode cX9_layRuin 84 = .ok (.aload_n 0, 1) := by decide +kernel
theorem dX9_layRuin_85 : decode cX9_layRuin 85 = .ok (.iload 5, 2) := by decide +kernel
theorem dX9_layRuin_87 : decode cX9_layRuin 87 = .ok (.aload_n 0, 1) := by decide +kernel
theorem dX9_layRuin_88 : decode cX9_layRuin 88 = .ok (.getfield 16, 3) := by decide +kernel
theorem dX9_layRuin_91 : decode cX9_layRuin 91 = .ok (.aload_n 0, 1) := by decide +kernel
theorem dX9_layRuin_92 : decode cX9_layRuin 92 = .ok (.getfield 34, 3) := by decide +kernel
theorem dX9_layRuin_95 : decode cX9_layRuin 95 = .ok (.iload 6, 2) := by decide +kernel
theorem dX9_layRuin_97 : decode cX9_layRuin 97 = .ok (.iaload, 1) := by decide +kernel
theorem dX9_layRuin_98 : decode cX9_layRuin 98 = .ok (.iaload, 1) := by decide +kernel
theorem dX9_layRuin_99 : decode cX9_layRuin 99 = .ok (.invokevirtual 137, 3) := by decide +kernel
theorem dX9_layRuin_102 : decode cX9_layRuin 102 = .ok (.aload_n 0, 1) := by decide +kernel
theorem dX9_layRuin_103 : decode cX9_layRuin 103 = .ok (.getfield 123, 3) := by decide +kernel
theorem dX9_layRuin_106 : decode cX9_layRuin 106 = .ok (.istore 5, 2) := by decide +kernel
theorem dX9_layRuin_108 : decode cX9_layRuin 108 = .ok (.iinc 6 1, 3) := by decide +kernel
theorem dX9_layRuin_111 : decode cX9_layRuin 111 = .ok (.goto (-59), 3) := by decide +kernel
theorem dX9_layRuin_114 : decode cX9_layRuin 114 = .ok (.iload 5, 2) := by decide +kernel
theorem dX9_layRuin_116 : decode cX9_layRuin 116 = .ok (.iload_n 2, 1) := by decide +kernel
theorem dX9_layRuin_117 : decode cX9_layRuin 117 = .ok (.if_icmp .gt 5, 3) := by decide +kernel
theorem dX9_layRuin_120 : decode cX9_layRuin 120 = .ok (.iload_n 3, 1) := by decide +kernel
theorem dX9_layRuin_121 : decode cX9_layRuin 121 = .ok (.ireturn, 1) := by decide +kernel
theorem dX9_layRuin_122 : decode cX9_layRuin 122 = .ok (.iinc 4 1, 3) := by decide +kernel
theorem dX9_layRuin_125 : decode cX9_layRuin 125 = .ok (.goto (-112), 3) := by decide +kernel
theorem dX9_layRuin_128 : decode cX9_layRuin 128 = .ok (.iinc 3 1, 3) := by decide +kernel
theorem dX9_layRuin_131 : decode cX9_layRuin 131 = .ok (.goto (-129), 3) := by decide +kernel
theorem dX9_layRuin_134 : decode cX9_layRuin 134 = .ok (.bipush (-9), 2) := by decide +kernel
theorem dX9_layRuin_136 : decode cX9_layRuin 136 = .ok (.ireturn, 1) := by decide +kernel
set_option maxRecDepth 20000 in
theorem ggX9_ruin_X9_isPerson : GoodIn wsX9_ruin wsX9_isPerson := goodIn_r _ [6, 7, 8, 9, 5, 10, 35, 36, 37, 38, 39, 40, 41, 42, 43, 44, 45, 46, 47, 48, 49, 50, 51, 52, 53, 54, 55, 56, 57, 58, 59, 60, 61, 62, 63, 64, 65, 66, 67] (by decide +kernel) (by decide +kernel)
set_option maxRecDepth 20000 in
theorem gX9_ruin_X9_isPerson : GoodIn wsX9_ruin (wsV RX9 115 RX9 yX9_isPerson wsX9_isPerson) := goodIn_app (goodIn_of _ (by decide +kernel)) ggX9_ruin_X9_isPerson
set_option maxRecDepth 20000 in
theorem ggX9_ruin_X9_in : GoodIn wsX9_ruin wsX9_in := goodIn_r _ [10] (by decide +kernel) (by decide +kernel)
set_option maxRecDepth 20000 in
theorem gX9_ruin_X9_in : GoodIn wsX9_ruin (va_wsS RX9 71 yX9_in wsX9_in) := goodIn_app (goodIn_of _ (by decide +kernel)) ggX9_ruin_X9_in
set_option maxRecDepth 20000 in
theorem ggX9_ruin_X9_layRuin : GoodIn wsX9_ruin wsX9_layRuin := goodIn_r _ [14, 7, 15, 16, 17, 18, 19, 5, 20, 21, 22, 23, 24, 25, 26, 27, 28, 29, 30, 31, 32, 33, 34, 35, 36, 37, 38, 39, 40, 41, 42, 43, 44, 45, 46, 47, 48, 49, 50, 51, 52, 53, 54, 55, 56, 57, 58, 59, 60, 61, 62, 63, 64, 65, 66, 67] (by decide +kernel) (by decide +kernel)
set_option maxRecDepth 20000 in
theorem gX9_ruin_X9_layRuin : GoodIn wsX9_ruin (wsV RX9 185 RX9 yX9_layRuin wsX9_layRuin) := goodIn_app (goodIn_of _ (by decide +kernel)) ggX9_ruin_X9_layRuin
theorem dX9_ruin_0 : decode cX9_ruin 0 = .ok (.aload_n 0, 1) := by decide +kernel
theorem dX9_ruin_1 : decode cX9_ruin 1 = .ok (.iload_n 1, 1) := by decide +kernel
theorem dX9_ruin_2 : decode cX9_ruin 2 = .ok (.invokevirtual 115, 3) := by decide +kernel
theorem dX9_ruin_5 : decode cX9_ruin 5 = .ok (.ifCond .ne 5, 3) := by decide +kernel
theorem dX9_ruin_8 : decode cX9_ruin 8 = .ok (.iconst (-1), 1) := by decide +kernel
theorem dX9_ruin_9 : decode cX9_ruin 9 = .ok (.ireturn, 1) := by decide +kernel
theorem dX9_ruin_10 : decode cX9_ruin 10 = .ok (.iload_n 2, 1) := by decide +kernel
theorem dX9_ruin_11 : decode cX9_ruin 11 = .ok (.i2l, 1) := by decide +kernel
theorem dX9_ruin_12 : decode cX9_ruin 12 = .ok (.lconst 0, 1) := by decide +kernel
theorem dX9_ruin_13 : decode cX9_ruin 13 = .ok (.ldc2_w 119, 3) := by decide +kernel
theorem dX9_ruin_16 : decode cX9_ruin 16 = .ok (.invokestatic 71, 3) := by decide +kernel
theorem dX9_ruin_19 : decode cX9_ruin 19 = .ok (.ifCond .eq 12, 3) := by decide +kernel
theorem dX9_ruin_22 : decode cX9_ruin 22 = .ok (.aload_n 0, 1) := by decide +kernel
theorem dX9_ruin_23 : decode cX9_ruin 23 = .ok (.iload_n 1, 1) := by decide +kernel
theorem dX9_ruin_24 : decode cX9_ruin 24 = .ok (.iload_n 2, 1) := by decide +kernel
theorem dX9_ruin_25 : decode cX9_ruin 25 = .ok (.invokevirtual 185, 3) := by decide +kernel
theorem dX9_ruin_28 : decode cX9_ruin 28 = .ok (.goto 5, 3) := by decide +kernel
theorem dX9_ruin_31 : decode cX9_ruin 31 = .ok (.bipush (-2), 2) := by decide +kernel
theorem dX9_ruin_33 : decode cX9_ruin 33 = .ok (.ireturn, 1) := by decide +kernel
set_option maxRecDepth 20000 in
theorem ggX9_ruinAt_X9_isPerson : GoodIn wsX9_ruinAt wsX9_isPerson := goodIn_r _ [7, 8, 9, 10, 6, 11, 35, 36, 37, 38, 39, 40, 41, 42, 43, 44, 45, 46, 47, 48, 49, 50, 51, 52, 53, 54, 55, 56, 57, 58, 59, 60, 61, 62, 63, 64, 65, 66, 67] (by decide +kernel) (by decide +kernel)
set_option maxRecDepth 20000 in
theorem gX9_ruinAt_X9_isPerson : GoodIn wsX9_ruinAt (wsV RX9 115 RX9 yX9_isPerson wsX9_isPerson) := goodIn_app (goodIn_of _ (by decide +kernel)) ggX9_ruinAt_X9_isPerson
set_option maxRecDepth 20000 in
theorem ggX9_ruinAt_X9_in : GoodIn wsX9_ruinAt wsX9_in := goodIn_r _ [11] (by decide +kernel) (by decide +kernel)
set_option maxRecDepth 20000 in
theorem gX9_ruinAt_X9_in : GoodIn wsX9_ruinAt (va_wsS RX9 71 yX9_in wsX9_in) := goodIn_app (goodIn_of _ (by decide +kernel)) ggX9_ruinAt_X9_in
set_option maxRecDepth 20000 in
theorem ggX9_ruinAt_X9_layRuin : GoodIn wsX9_ruinAt wsX9_layRuin := goodIn_r _ [15, 8, 16, 2, 17, 18, 19, 6, 20, 21, 22, 23, 24, 25, 26, 27, 28, 29, 30, 31, 32, 33, 34, 35, 36, 37, 38, 39, 40, 41, 42, 43, 44, 45, 46, 47, 48, 49, 50, 51, 52, 53, 54, 55, 56, 57, 58, 59, 60, 61, 62, 63, 64, 65, 66, 67] (by decide +kernel) (by decide +kernel)
set_option maxRecDepth 20000 in
theorem gX9_ruinAt_X9_layRuin : GoodIn wsX9_ruinAt (wsV RX9 185 RX9 yX9_layRuin wsX9_layRuin) := goodIn_app (goodIn_of _ (by decide +kernel)) ggX9_ruinAt_X9_layRuin
theorem dX9_ruinAt_0 : decode cX9_ruinAt 0 = .ok (.aload_n 0, 1) := by decide +kernel
theorem dX9_ruinAt_1 : decode cX9_ruinAt 1 = .ok (.iload_n 1, 1) := by decide +kernel
theorem dX9_ruinAt_2 : decode cX9_ruinAt 2 = .ok (.invokevirtual 115, 3) := by decide +kernel
theorem dX9_ruinAt_5 : decode cX9_ruinAt 5 = .ok (.ifCond .ne 5, 3) := by decide +kernel
theorem dX9_ruinAt_8 : decode cX9_ruinAt 8 = .ok (.iconst (-1), 1) := by decide +kernel
theorem dX9_ruinAt_9 : decode cX9_ruinAt 9 = .ok (.ireturn, 1) := by decide +kernel
theorem dX9_ruinAt_10 : decode cX9_ruinAt 10 = .ok (.iload_n 2, 1) := by decide +kernel
theorem dX9_ruinAt_11 : decode cX9_ruinAt 11 = .ok (.i2l, 1) := by decide +kernel
theorem dX9_ruinAt_12 : decode cX9_ruinAt 12 = .ok (.lconst 0, 1) := by decide +kernel
theorem dX9_ruinAt_13 : decode cX9_ruinAt 13 = .ok (.ldc2_w 119, 3) := by decide +kernel
theorem dX9_ruinAt_16 : decode cX9_ruinAt 16 = .ok (.invokestatic 71, 3) := by decide +kernel
theorem dX9_ruinAt_19 : decode cX9_ruinAt 19 = .ok (.ifCond .ne 6, 3) := by decide +kernel
theorem dX9_ruinAt_22 : decode cX9_ruinAt 22 = .ok (.bipush (-2), 2) := by decide +kernel
theorem dX9_ruinAt_24 : decode cX9_ruinAt 24 = .ok (.ireturn, 1) := by decide +kernel
theorem dX9_ruinAt_25 : decode cX9_ruinAt 25 = .ok (.iload_n 3, 1) := by decide +kernel
theorem dX9_ruinAt_26 : decode cX9_ruinAt 26 = .ok (.i2l, 1) := by decide +kernel
theorem dX9_ruinAt_27 : decode cX9_ruinAt 27 = .ok (.lconst 0, 1) := by decide +kernel
theorem dX9_ruinAt_28 : decode cX9_ruinAt 28 = .ok (.aload_n 0, 1) := by decide +kernel
theorem dX9_ruinAt_29 : decode cX9_ruinAt 29 = .ok (.iload_n 1, 1) := by decide +kernel
theorem dX9_ruinAt_30 : decode cX9_ruinAt 30 = .ok (.iload_n 2, 1) := by decide +kernel
theorem dX9_ruinAt_31 : decode cX9_ruinAt 31 = .ok (.invokevirtual 185, 3) := by decide +kernel
theorem dX9_ruinAt_34 : decode cX9_ruinAt 34 = .ok (.iconst 1, 1) := by decide +kernel
theorem dX9_ruinAt_35 : decode cX9_ruinAt 35 = .ok (.isub, 1) := by decide +kernel
theorem dX9_ruinAt_36 : decode cX9_ruinAt 36 = .ok (.i2l, 1) := by decide +kernel
theorem dX9_ruinAt_37 : decode cX9_ruinAt 37 = .ok (.invokestatic 71, 3) := by decide +kernel
theorem dX9_ruinAt_40 : decode cX9_ruinAt 40 = .ok (.ifCond .eq 12, 3) := by decide +kernel
theorem dX9_ruinAt_43 : decode cX9_ruinAt 43 = .ok (.aload_n 0, 1) := by decide +kernel
theorem dX9_ruinAt_44 : decode cX9_ruinAt 44 = .ok (.getfield 34, 3) := by decide +kernel
theorem dX9_ruinAt_47 : decode cX9_ruinAt 47 = .ok (.iload_n 3, 1) := by decide +kernel
theorem dX9_ruinAt_48 : decode cX9_ruinAt 48 = .ok (.iaload, 1) := by decide +kernel
theorem dX9_ruinAt_49 : decode cX9_ruinAt 49 = .ok (.goto 5, 3) := by decide +kernel
theorem dX9_ruinAt_52 : decode cX9_ruinAt 52 = .ok (.bipush (-9), 2) := by decide +kernel
theorem dX9_ruinAt_54 : decode cX9_ruinAt 54 = .ok (.ireturn, 1) := by decide +kernel
set_option maxRecDepth 20000 in
theorem ggX9_coin_X9_sharedBy : GoodIn wsX9_coin wsX9_sharedBy := goodIn_r _ [6] (by decide +kernel) (by decide +kernel)
set_option maxRecDepth 20000 in
theorem gX9_coin_X9_sharedBy : GoodIn wsX9_coin (va_wsS RX9 129 yX9_sharedBy wsX9_sharedBy) := goodIn_app (goodIn_of _ (by decide +kernel)) ggX9_coin_X9_sharedBy
theorem dX9_coin_0 : decode cX9_coin 0 = .ok (.iconst 0, 1) := by decide +kernel
theorem dX9_coin_1 : decode cX9_coin 1 = .ok (.istore_n 1, 1) := by decide +kernel
theorem dX9_coin_2 : decode cX9_coin 2 = .ok (.iconst 0, 1) := by decide +kernel
theorem dX9_coin_3 : decode cX9_coin 3 = .ok (.istore_n 2, 1) := by decide +kernel
theorem dX9_coin_4 : decode cX9_coin 4 = .ok (.iload_n 2, 1) := by decide +kernel
theorem dX9_coin_5 : decode cX9_coin 5 = .ok (.aload_n 0, 1) := by decide +kernel
theorem dX9_coin_6 : decode cX9_coin 6 = .ok (.getfield 65, 3) := by decide +kernel
theorem dX9_coin_9 : decode cX9_coin 9 = .ok (.if_icmp .ge 46, 3) := by decide +kernel
theorem dX9_coin_12 : decode cX9_coin 12 = .ok (.iload_n 1, 1) := by decide +kernel
theorem dX9_coin_13 : decode cX9_coin 13 = .ok (.ifCond .ne 12, 3) := by decide +kernel
theorem dX9_coin_16 : decode cX9_coin 16 = .ok (.aload_n 0, 1) := by decide +kernel
theorem dX9_coin_17 : decode cX9_coin 17 = .ok (.getfield 16, 3) := by decide +kernel
theorem dX9_coin_20 : decode cX9_coin 20 = .ok (.iload_n 2, 1) := by decide +kernel
theorem dX9_coin_21 : decode cX9_coin 21 = .ok (.iaload, 1) := by decide +kernel
theorem dX9_coin_22 : decode cX9_coin 22 = .ok (.goto 26, 3) := by decide +kernel
theorem dX9_coin_25 : decode cX9_coin 25 = .ok (.aload_n 0, 1) := by decide +kernel
theorem dX9_coin_26 : decode cX9_coin 26 = .ok (.getfield 16, 3) := by decide +kernel
theorem dX9_coin_29 : decode cX9_coin 29 = .ok (.iload_n 2, 1) := by decide +kernel
theorem dX9_coin_30 : decode cX9_coin 30 = .ok (.iaload, 1) := by decide +kernel
theorem dX9_coin_31 : decode cX9_coin 31 = .ok (.ifCond .ne 7, 3) := by decide +kernel
theorem dX9_coin_34 : decode cX9_coin 34 = .ok (.iload_n 1, 1) := by decide +kernel
theorem dX9_coin_35 : decode cX9_coin 35 = .ok (.goto 13, 3) := by decide +kernel
theorem dX9_coin_38 : decode cX9_coin 38 = .ok (.iload_n 1, 1) := by decide +kernel
theorem dX9_coin_39 : decode cX9_coin 39 = .ok (.aload_n 0, 1) := by decide +kernel
theorem dX9_coin_40 : decode cX9_coin 40 = .ok (.getfield 16, 3) := by decide +kernel
theorem dX9_coin_43 : decode cX9_coin 43 = .ok (.iload_n 2, 1) := by decide +kernel
theorem dX9_coin_44 : decode cX9_coin 44 = .ok (.iaload, 1) := by decide +kernel
theorem dX9_coin_45 : decode cX9_coin 45 = .ok (.invokestatic 129, 3) := by decide +kernel
theorem dX9_coin_48 : decode cX9_coin 48 = .ok (.istore_n 1, 1) := by decide +kernel
theorem dX9_coin_49 : decode cX9_coin 49 = .ok (.iinc 2 1, 3) := by decide +kernel
theorem dX9_coin_52 : decode cX9_coin 52 = .ok (.goto (-48), 3) := by decide +kernel
theorem dX9_coin_55 : decode cX9_coin 55 = .ok (.iload_n 1, 1) := by decide +kernel
theorem dX9_coin_56 : decode cX9_coin 56 = .ok (.ireturn, 1) := by decide +kernel
theorem dX9_isPrime_0 : decode cX9_isPrime 0 = .ok (.iload_n 0, 1) := by decide +kernel
theorem dX9_isPrime_1 : decode cX9_isPrime 1 = .ok (.iconst 1, 1) := by decide +kernel
theorem dX9_isPrime_2 : decode cX9_isPrime 2 = .ok (.if_icmp .le 7, 3) := by decide +kernel
theorem dX9_isPrime_5 : decode cX9_isPrime 5 = .ok (.iconst 1, 1) := by decide +kernel
theorem dX9_isPrime_6 : decode cX9_isPrime 6 = .ok (.goto 4, 3) := by decide +kernel
theorem dX9_isPrime_9 : decode cX9_isPrime 9 = .ok (.iconst 0, 1) := by decide +kernel
theorem dX9_isPrime_10 : decode cX9_isPrime 10 = .ok (.istore_n 1, 1) := by decide +kernel
theorem dX9_isPrime_11 : decode cX9_isPrime 11 = .ok (.iconst 2, 1) := by decide +kernel
theorem dX9_isPrime_12 : decode cX9_isPrime 12 = .ok (.istore_n 2, 1) := by decide +kernel
theorem dX9_isPrime_13 : decode cX9_isPrime 13 = .ok (.iload_n 2, 1) := by decide +kernel
theorem dX9_isPrime_14 : decode cX9_isPrime 14 = .ok (.iload_n 2, 1) := by decide +kernel
theorem dX9_isPrime_15 : decode cX9_isPrime 15 = .ok (.imul, 1) := by decide +kernel
theorem dX9_isPrime_16 : decode cX9_isPrime 16 = .ok (.iload_n 0, 1) := by decide +kernel
theorem dX9_isPrime_17 : decode cX9_isPrime 17 = .ok (.if_icmp .gt 25, 3) := by decide +kernel
theorem dX9_isPrime_20 : decode cX9_isPrime 20 = .ok (.iload_n 1, 1) := by decide +kernel
theorem dX9_isPrime_21 : decode cX9_isPrime 21 = .ok (.ifCond .eq 21, 3) := by decide +kernel
theorem dX9_isPrime_24 : decode cX9_isPrime 24 = .ok (.iload_n 0, 1) := by decide +kernel
theorem dX9_isPrime_25 : decode cX9_isPrime 25 = .ok (.iload_n 2, 1) := by decide +kernel
theorem dX9_isPrime_26 : decode cX9_isPrime 26 = .ok (.irem, 1) := by decide +kernel
theorem dX9_isPrime_27 : decode cX9_isPrime 27 = .ok (.ifCond .eq 7, 3) := by decide +kernel
theorem dX9_isPrime_30 : decode cX9_isPrime 30 = .ok (.iconst 1, 1) := by decide +kernel
theorem dX9_isPrime_31 : decode cX9_isPrime 31 = .ok (.goto 4, 3) := by decide +kernel
theorem dX9_isPrime_34 : decode cX9_isPrime 34 = .ok (.iconst 0, 1) := by decide +kernel
theorem dX9_isPrime_35 : decode cX9_isPrime 35 = .ok (.istore_n 1, 1) := by decide +kernel
theorem dX9_isPrime_36 : decode cX9_isPrime 36 = .ok (.iinc 2 1, 3) := by decide +kernel
theorem dX9_isPrime_39 : decode cX9_isPrime 39 = .ok (.goto (-26), 3) := by decide +kernel
theorem dX9_isPrime_42 : decode cX9_isPrime 42 = .ok (.iload_n 1, 1) := by decide +kernel
theorem dX9_isPrime_43 : decode cX9_isPrime 43 = .ok (.ireturn, 1) := by decide +kernel
set_option maxRecDepth 20000 in
theorem ggX9_charm_X9_isPerson : GoodIn wsX9_charm wsX9_isPerson := goodIn_r _ [6, 7, 8, 9, 5, 10, 14, 15, 16, 17, 18, 19, 20, 21, 22, 23, 24, 25, 26, 27, 28, 29, 30, 31, 32, 33, 34, 35, 36, 37, 38, 39, 40, 41, 42, 43, 44, 45, 46] (by decide +kernel) (by decide +kernel)
set_option maxRecDepth 20000 in
theorem gX9_charm_X9_isPerson : GoodIn wsX9_charm (wsV RX9 115 RX9 yX9_isPerson wsX9_isPerson) := goodIn_app (goodIn_of _ (by decide +kernel)) ggX9_charm_X9_isPerson
set_option maxRecDepth 20000 in
theorem ggX9_charm_X9_isPrime : GoodIn wsX9_charm wsX9_isPrime := goodIn_r _ [13] (by decide +kernel) (by decide +kernel)
set_option maxRecDepth 20000 in
theorem gX9_charm_X9_isPrime : GoodIn wsX9_charm (va_wsS RX9 188 yX9_isPrime wsX9_isPrime) := goodIn_app (goodIn_of _ (by decide +kernel)) ggX9_charm_X9_isPrime
theorem dX9_charm_0 : decode cX9_charm 0 = .ok (.aload_n 0, 1) := by decide +kernel
theorem dX9_charm_1 : decode cX9_charm 1 = .ok (.iload_n 1, 1) := by decide +kernel
theorem dX9_charm_2 : decode cX9_charm 2 = .ok (.invokevirtual 115, 3) := by decide +kernel
theorem dX9_charm_5 : decode cX9_charm 5 = .ok (.ifCond .ne 5, 3) := by decide +kernel
theorem dX9_charm_8 : decode cX9_charm 8 = .ok (.iconst (-1), 1) := by decide +kernel
theorem dX9_charm_9 : decode cX9_charm 9 = .ok (.ireturn, 1) := by decide +kernel
theorem dX9_charm_10 : decode cX9_charm 10 = .ok (.iconst 0, 1) := by decide +kernel
theorem dX9_charm_11 : decode cX9_charm 11 = .ok (.istore_n 2, 1) := by decide +kernel
theorem dX9_charm_12 : decode cX9_charm 12 = .ok (.aload_n 0, 1) := by decide +kernel
theorem dX9_charm_13 : decode cX9_charm 13 = .ok (.getfield 16, 3) := by decide +kernel
theorem dX9_charm_16 : decode cX9_charm 16 = .ok (.iload_n 1, 1) := by decide +kernel
theorem dX9_charm_17 : decode cX9_charm 17 = .ok (.iaload, 1) := by decide +kernel
theorem dX9_charm_18 : decode cX9_charm 18 = .ok (.iload_n 2, 1) := by decide +kernel
theorem dX9_charm_19 : decode cX9_charm 19 = .ok (.iadd, 1) := by decide +kernel
theorem dX9_charm_20 : decode cX9_charm 20 = .ok (.invokestatic 188, 3) := by decide +kernel
theorem dX9_charm_23 : decode cX9_charm 23 = .ok (.ifCond .ne 9, 3) := by decide +kernel
theorem dX9_charm_26 : decode cX9_charm 26 = .ok (.iinc 2 1, 3) := by decide +kernel
theorem dX9_charm_29 : decode cX9_charm 29 = .ok (.goto (-17), 3) := by decide +kernel
theorem dX9_charm_32 : decode cX9_charm 32 = .ok (.iload_n 2, 1) := by decide +kernel
theorem dX9_charm_33 : decode cX9_charm 33 = .ok (.ireturn, 1) := by decide +kernel
set_option maxRecDepth 20000 in
theorem ggX9_keep_X9_in : GoodIn wsX9_keep wsX9_in := goodIn_r _ [17] (by decide +kernel) (by decide +kernel)
set_option maxRecDepth 20000 in
theorem gX9_keep_X9_in : GoodIn wsX9_keep (va_wsS RX9 71 yX9_in wsX9_in) := goodIn_app (goodIn_of _ (by decide +kernel)) ggX9_keep_X9_in
theorem dX9_keep_0 : decode cX9_keep 0 = .ok (.iload_n 1, 1) := by decide +kernel
theorem dX9_keep_1 : decode cX9_keep 1 = .ok (.i2l, 1) := by decide +kernel
theorem dX9_keep_2 : decode cX9_keep 2 = .ok (.lconst 0, 1) := by decide +kernel
theorem dX9_keep_3 : decode cX9_keep 3 = .ok (.lconst 1, 1) := by decide +kernel
theorem dX9_keep_4 : decode cX9_keep 4 = .ok (.invokestatic 71, 3) := by decide +kernel
theorem dX9_keep_7 : decode cX9_keep 7 = .ok (.ifCond .ne 5, 3) := by decide +kernel
theorem dX9_keep_10 : decode cX9_keep 10 = .ok (.iconst (-1), 1) := by decide +kernel
theorem dX9_keep_11 : decode cX9_keep 11 = .ok (.ireturn, 1) := by decide +kernel
theorem dX9_keep_12 : decode cX9_keep 12 = .ok (.aload_n 0, 1) := by decide +kernel
theorem dX9_keep_13 : decode cX9_keep 13 = .ok (.getfield 46, 3) := by decide +kernel
theorem dX9_keep_16 : decode cX9_keep 16 = .ok (.iload_n 1, 1) := by decide +kernel
theorem dX9_keep_17 : decode cX9_keep 17 = .ok (.iconst 1, 1) := by decide +kernel
theorem dX9_keep_18 : decode cX9_keep 18 = .ok (.bastore, 1) := by decide +kernel
theorem dX9_keep_19 : decode cX9_keep 19 = .ok (.iconst 0, 1) := by decide +kernel
theorem dX9_keep_20 : decode cX9_keep 20 = .ok (.istore_n 2, 1) := by decide +kernel
theorem dX9_keep_21 : decode cX9_keep 21 = .ok (.iload_n 2, 1) := by decide +kernel
theorem dX9_keep_22 : decode cX9_keep 22 = .ok (.bipush 8, 2) := by decide +kernel
theorem dX9_keep_24 : decode cX9_keep 24 = .ok (.if_icmp .ge 60, 3) := by decide +kernel
theorem dX9_keep_27 : decode cX9_keep 27 = .ok (.aload_n 0, 1) := by decide +kernel
theorem dX9_keep_28 : decode cX9_keep 28 = .ok (.getfield 50, 3) := by decide +kernel
theorem dX9_keep_31 : decode cX9_keep 31 = .ok (.bipush 8, 2) := by decide +kernel
theorem dX9_keep_33 : decode cX9_keep 33 = .ok (.iload_n 1, 1) := by decide +kernel
theorem dX9_keep_34 : decode cX9_keep 34 = .ok (.imul, 1) := by decide +kernel
theorem dX9_keep_35 : decode cX9_keep 35 = .ok (.iload_n 2, 1) := by decide +kernel
theorem dX9_keep_36 : decode cX9_keep 36 = .ok (.iadd, 1) := by decide +kernel
theorem dX9_keep_37 : decode cX9_keep 37 = .ok (.aload_n 0, 1) := by decide +kernel
theorem dX9_keep_38 : decode cX9_keep 38 = .ok (.getfield 16, 3) := by decide +kernel
theorem dX9_keep_41 : decode cX9_keep 41 = .ok (.iload_n 2, 1) := by decide +kernel
theorem dX9_keep_42 : decode cX9_keep 42 = .ok (.iaload, 1) := by decide +kernel
theorem dX9_keep_43 : decode cX9_keep 43 = .ok (.iastore, 1) := by decide +kernel
theorem dX9_keep_44 : decode cX9_keep 44 = .ok (.aload_n 0, 1) := by decide +kernel
theorem dX9_keep_45 : decode cX9_keep 45 = .ok (.getfield 56, 3) := by decide +kernel
theorem dX9_keep_48 : decode cX9_keep 48 = .ok (.bipush 8, 2) := by decide +kernel
theorem dX9_keep_50 : decode cX9_keep 50 = .ok (.iload_n 1, 1) := by decide +kernel
theorem dX9_keep_51 : decode cX9_keep 51 = .ok (.imul, 1) := by decide +kernel
theorem dX9_keep_52 : decode cX9_keep 52 = .ok (.iload_n 2, 1) := by decide +kernel
theorem dX9_keep_53 : decode cX9_keep 53 = .ok (.iadd, 1) := by decide +kernel
theorem dX9_keep_54 : decode cX9_keep 54 = .ok (.aload_n 0, 1) := by decide +kernel
theorem dX9_keep_55 : decode cX9_keep 55 = .ok (.getfield 40, 3) := by decide +kernel
theorem dX9_keep_58 : decode cX9_keep 58 = .ok (.iload_n 2, 1) := by decide +kernel
theorem dX9_keep_59 : decode cX9_keep 59 = .ok (.iaload, 1) := by decide +kernel
theorem dX9_keep_60 : decode cX9_keep 60 = .ok (.iastore, 1) := by decide +kernel
theorem dX9_keep_61 : decode cX9_keep 61 = .ok (.aload_n 0, 1) := by decide +kernel
theorem dX9_keep_62 : decode cX9_keep 62 = .ok (.getfield 59, 3) := by decide +kernel
theorem dX9_keep_65 : decode cX9_keep 65 = .ok (.bipush 8, 2) := by decide +kernel
theorem dX9_keep_67 : decode cX9_keep 67 = .ok (.iload_n 1, 1) := by decide +kernel
theorem dX9_keep_68 : decode cX9_keep 68 = .ok (.imul, 1) := by decide +kernel
theorem dX9_keep_69 : decode cX9_keep 69 = .ok (.iload_n 2, 1) := by decide +kernel
theorem dX9_keep_70 : decode cX9_keep 70 = .ok (.iadd, 1) := by decide +kernel
theorem dX9_keep_71 : decode cX9_keep 71 = .ok (.aload_n 0, 1) := by decide +kernel
theorem dX9_keep_72 : decode cX9_keep 72 = .ok (.getfield 43, 3) := by decide +kernel
theorem dX9_keep_75 : decode cX9_keep 75 = .ok (.iload_n 2, 1) := by decide +kernel
theorem dX9_keep_76 : decode cX9_keep 76 = .ok (.iaload, 1) := by decide +kernel
theorem dX9_keep_77 : decode cX9_keep 77 = .ok (.iastore, 1) := by decide +kernel
theorem dX9_keep_78 : decode cX9_keep 78 = .ok (.iinc 2 1, 3) := by decide +kernel
theorem dX9_keep_81 : decode cX9_keep 81 = .ok (.goto (-60), 3) := by decide +kernel
theorem dX9_keep_84 : decode cX9_keep 84 = .ok (.iconst 0, 1) := by decide +kernel
theorem dX9_keep_85 : decode cX9_keep 85 = .ok (.istore_n 2, 1) := by decide +kernel
theorem dX9_keep_86 : decode cX9_keep 86 = .ok (.iload_n 2, 1) := by decide +kernel
theorem dX9_keep_87 : decode cX9_keep 87 = .ok (.sipush 128, 3) := by decide +kernel
theorem dX9_keep_90 : decode cX9_keep 90 = .ok (.if_icmp .ge 27, 3) := by decide +kernel
theorem dX9_keep_93 : decode cX9_keep 93 = .ok (.aload_n 0, 1) := by decide +kernel
theorem dX9_keep_94 : decode cX9_keep 94 = .ok (.getfield 53, 3) := by decide +kernel
theorem dX9_keep_97 : decode cX9_keep 97 = .ok (.sipush 128, 3) := by decide +kernel
theorem dX9_keep_100 : decode cX9_keep 100 = .ok (.iload_n 1, 1) := by decide +kernel
theorem dX9_keep_101 : decode cX9_keep 101 = .ok (.imul, 1) := by decide +kernel
theorem dX9_keep_102 : decode cX9_keep 102 = .ok (.iload_n 2, 1) := by decide +kernel
theorem dX9_keep_103 : decode cX9_keep 103 = .ok (.iadd, 1) := by decide +kernel
theorem dX9_keep_104 : decode cX9_keep 104 = .ok (.aload_n 0, 1) := by decide +kernel
theorem dX9_keep_105 : decode cX9_keep 105 = .ok (.getfield 25, 3) := by decide +kernel
theorem dX9_keep_108 : decode cX9_keep 108 = .ok (.iload_n 2, 1) := by decide +kernel
theorem dX9_keep_109 : decode cX9_keep 109 = .ok (.iaload, 1) := by decide +kernel
theorem dX9_keep_110 : decode cX9_keep 110 = .ok (.iastore, 1) := by decide +kernel
theorem dX9_keep_111 : decode cX9_keep 111 = .ok (.iinc 2 1, 3) := by decide +kernel
theorem dX9_keep_114 : decode cX9_keep 114 = .ok (.goto (-28), 3) := by decide +kernel
theorem dX9_keep_117 : decode cX9_keep 117 = .ok (.aload_n 0, 1) := by decide +kernel
theorem dX9_keep_118 : decode cX9_keep 118 = .ok (.getfield 62, 3) := by decide +kernel
theorem dX9_keep_121 : decode cX9_keep 121 = .ok (.iconst 3, 1) := by decide +kernel
theorem dX9_keep_122 : decode cX9_keep 122 = .ok (.iload_n 1, 1) := by decide +kernel
theorem dX9_keep_123 : decode cX9_keep 123 = .ok (.imul, 1) := by decide +kernel
theorem dX9_keep_124 : decode cX9_keep 124 = .ok (.aload_n 0, 1) := by decide +kernel
theorem dX9_keep_125 : decode cX9_keep 125 = .ok (.getfield 103, 3) := by decide +kernel
theorem dX9_keep_128 : decode cX9_keep 128 = .ok (.iastore, 1) := by decide +kernel
theorem dX9_keep_129 : decode cX9_keep 129 = .ok (.aload_n 0, 1) := by decide +kernel
theorem dX9_keep_130 : decode cX9_keep 130 = .ok (.getfield 62, 3) := by decide +kernel
theorem dX9_keep_133 : decode cX9_keep 133 = .ok (.iconst 3, 1) := by decide +kernel
theorem dX9_keep_134 : decode cX9_keep 134 = .ok (.iload_n 1, 1) := by decide +kernel
theorem dX9_keep_135 : decode cX9_keep 135 = .ok (.imul, 1) := by decide +kernel
theorem dX9_keep_136 : decode cX9_keep 136 = .ok (.iconst 1, 1) := by decide +kernel
theorem dX9_keep_137 : decode cX9_keep 137 = .ok (.iadd, 1) := by decide +kernel
theorem dX9_keep_138 : decode cX9_keep 138 = .ok (.aload_n 0, 1) := by decide +kernel
theorem dX9_keep_139 : decode cX9_keep 139 = .ok (.getfield 109, 3) := by decide +kernel
theorem dX9_keep_142 : decode cX9_keep 142 = .ok (.iastore, 1) := by decide +kernel
theorem dX9_keep_143 : decode cX9_keep 143 = .ok (.aload_n 0, 1) := by decide +kernel
theorem dX9_keep_144 : decode cX9_keep 144 = .ok (.getfield 62, 3) := by decide +kernel
theorem dX9_keep_147 : decode cX9_keep 147 = .ok (.iconst 3, 1) := by decide +kernel
theorem dX9_keep_148 : decode cX9_keep 148 = .ok (.iload_n 1, 1) := by decide +kernel
theorem dX9_keep_149 : decode cX9_keep 149 = .ok (.imul, 1) := by decide +kernel
theorem dX9_keep_150 : decode cX9_keep 150 = .ok (.iconst 2, 1) := by decide +kernel
theorem dX9_keep_151 : decode cX9_keep 151 = .ok (.iadd, 1) := by decide +kernel
theorem dX9_keep_152 : decode cX9_keep 152 = .ok (.aload_n 0, 1) := by decide +kernel
theorem dX9_keep_153 : decode cX9_keep 153 = .ok (.getfield 112, 3) := by decide +kernel
theorem dX9_keep_156 : decode cX9_keep 156 = .ok (.iastore, 1) := by decide +kernel
theorem dX9_keep_157 : decode cX9_keep 157 = .ok (.aload_n 0, 1) := by decide +kernel
theorem dX9_keep_158 : decode cX9_keep 158 = .ok (.getfield 109, 3) := by decide +kernel
theorem dX9_keep_161 : decode cX9_keep 161 = .ok (.ireturn, 1) := by decide +kernel
set_option maxRecDepth 20000 in
theorem ggX9_again_X9_in : GoodIn wsX9_again wsX9_in := goodIn_r _ [17] (by decide +kernel) (by decide +kernel)
set_option maxRecDepth 20000 in
theorem gX9_again_X9_in : GoodIn wsX9_again (va_wsS RX9 71 yX9_in wsX9_in) := goodIn_app (goodIn_of _ (by decide +kernel)) ggX9_again_X9_in
theorem dX9_again_0 : decode cX9_again 0 = .ok (.iload_n 1, 1) := by decide +kernel
theorem dX9_again_1 : decode cX9_again 1 = .ok (.i2l, 1) := by decide +kernel
theorem dX9_again_2 : decode cX9_again 2 = .ok (.lconst 0, 1) := by decide +kernel
theorem dX9_again_3 : decode cX9_again 3 = .ok (.lconst 1, 1) := by decide +kernel
theorem dX9_again_4 : decode cX9_again 4 = .ok (.invokestatic 71, 3) := by decide +kernel
theorem dX9_again_7 : decode cX9_again 7 = .ok (.ifCond .ne 5, 3) := by decide +kernel
theorem dX9_again_10 : decode cX9_again 10 = .ok (.iconst (-1), 1) := by decide +kernel
theorem dX9_again_11 : decode cX9_again 11 = .ok (.ireturn, 1) := by decide +kernel
theorem dX9_again_12 : decode cX9_again 12 = .ok (.aload_n 0, 1) := by decide +kernel
theorem dX9_again_13 : decode cX9_again 13 = .ok (.getfield 46, 3) := by decide +kernel
theorem dX9_again_16 : decode cX9_again 16 = .ok (.iload_n 1, 1) := by decide +kernel
theorem dX9_again_17 : decode cX9_again 17 = .ok (.baload, 1) := by decide +kernel
theorem dX9_again_18 : decode cX9_again 18 = .ok (.ifCond .ne 6, 3) := by decide +kernel
theorem dX9_again_21 : decode cX9_again 21 = .ok (.bipush (-3), 2) := by decide +kernel
theorem dX9_again_23 : decode cX9_again 23 = .ok (.ireturn, 1) := by decide +kernel
theorem dX9_again_24 : decode cX9_again 24 = .ok (.iconst 0, 1) := by decide +kernel
theorem dX9_again_25 : decode cX9_again 25 = .ok (.istore_n 2, 1) := by decide +kernel
theorem dX9_again_26 : decode cX9_again 26 = .ok (.iload_n 2, 1) := by decide +kernel
theorem dX9_again_27 : decode cX9_again 27 = .ok (.bipush 8, 2) := by decide +kernel
theorem dX9_again_29 : decode cX9_again 29 = .ok (.if_icmp .ge 60, 3) := by decide +kernel
theorem dX9_again_32 : decode cX9_again 32 = .ok (.aload_n 0, 1) := by decide +kernel
theorem dX9_again_33 : decode cX9_again 33 = .ok (.getfield 16, 3) := by decide +kernel
theorem dX9_again_36 : decode cX9_again 36 = .ok (.iload_n 2, 1) := by decide +kernel
theorem dX9_again_37 : decode cX9_again 37 = .ok (.aload_n 0, 1) := by decide +kernel
theorem dX9_again_38 : decode cX9_again 38 = .ok (.getfield 50, 3) := by decide +kernel
theorem dX9_again_41 : decode cX9_again 41 = .ok (.bipush 8, 2) := by decide +kernel
theorem dX9_again_43 : decode cX9_again 43 = .ok (.iload_n 1, 1) := by decide +kernel
theorem dX9_again_44 : decode cX9_again 44 = .ok (.imul, 1) := by decide +kernel
theorem dX9_again_45 : decode cX9_again 45 = .ok (.iload_n 2, 1) := by decide +kernel
theorem dX9_again_46 : decode cX9_again 46 = .ok (.iadd, 1) := by decide +kernel
theorem dX9_again_47 : decode cX9_again 47 = .ok (.iaload, 1) := by decide +kernel
theorem dX9_again_48 : decode cX9_again 48 = .ok (.iastore, 1) := by decide +kernel
theorem dX9_again_49 : decode cX9_again 49 = .ok (.aload_n 0, 1) := by decide +kernel
theorem dX9_again_50 : decode cX9_again 50 = .ok (.getfield 40, 3) := by decide +kernel
theorem dX9_again_53 : decode cX9_again 53 = .ok (.iload_n 2, 1) := by decide +kernel
theorem dX9_again_54 : decode cX9_again 54 = .ok (.aload_n 0, 1) := by decide +kernel
theorem dX9_again_55 : decode cX9_again 55 = .ok (.getfield 56, 3) := by decide +kernel
theorem dX9_again_58 : decode cX9_again 58 = .ok (.bipush 8, 2) := by decide +kernel
theorem dX9_again_60 : decode cX9_again 60 = .ok (.iload_n 1, 1) := by decide +kernel
theorem dX9_again_61 : decode cX9_again 61 = .ok (.imul, 1) := by decide +kernel
theorem dX9_again_62 : decode cX9_again 62 = .ok (.iload_n 2, 1) := by decide +kernel
theorem dX9_again_63 : decode cX9_again 63 = .ok (.iadd, 1) := by decide +kernel
theorem dX9_again_64 : decode cX9_again 64 = .ok (.iaload, 1) := by decide +kernel
theorem dX9_again_65 : decode cX9_again 65 = .ok (.iastore, 1) := by decide +kernel
theorem dX9_again_66 : decode cX9_again 66 = .ok (.aload_n 0, 1) := by decide +kernel
theorem dX9_again_67 : decode cX9_again 67 = .ok (.getfield 43, 3) := by decide +kernel
theorem dX9_again_70 : decode cX9_again 70 = .ok (.iload_n 2, 1) := by decide +kernel
theorem dX9_again_71 : decode cX9_again 71 = .ok (.aload_n 0, 1) := by decide +kernel
theorem dX9_again_72 : decode cX9_again 72 = .ok (.getfield 59, 3) := by decide +kernel
theorem dX9_again_75 : decode cX9_again 75 = .ok (.bipush 8, 2) := by decide +kernel
theorem dX9_again_77 : decode cX9_again 77 = .ok (.iload_n 1, 1) := by decide +kernel
theorem dX9_again_78 : decode cX9_again 78 = .ok (.imul, 1) := by decide +kernel
theorem dX9_again_79 : decode cX9_again 79 = .ok (.iload_n 2, 1) := by decide +kernel
theorem dX9_again_80 : decode cX9_again 80 = .ok (.iadd, 1) := by decide +kernel
theorem dX9_again_81 : decode cX9_again 81 = .ok (.iaload, 1) := by decide +kernel
theorem dX9_again_82 : decode cX9_again 82 = .ok (.iastore, 1) := by decide +kernel
theorem dX9_again_83 : decode cX9_again 83 = .ok (.iinc 2 1, 3) := by decide +kernel
theorem dX9_again_86 : decode cX9_again 86 = .ok (.goto (-60), 3) := by decide +kernel
theorem dX9_again_89 : decode cX9_again 89 = .ok (.iconst 0, 1) := by decide +kernel
theorem dX9_again_90 : decode cX9_again 90 = .ok (.istore_n 2, 1) := by decide +kernel
theorem dX9_again_91 : decode cX9_again 91 = .ok (.iload_n 2, 1) := by decide +kernel
theorem dX9_again_92 : decode cX9_again 92 = .ok (.sipush 128, 3) := by decide +kernel
theorem dX9_again_95 : decode cX9_again 95 = .ok (.if_icmp .ge 27, 3) := by decide +kernel
theorem dX9_again_98 : decode cX9_again 98 = .ok (.aload_n 0, 1) := by decide +kernel
theorem dX9_again_99 : decode cX9_again 99 = .ok (.getfield 25, 3) := by decide +kernel
theorem dX9_again_102 : decode cX9_again 102 = .ok (.iload_n 2, 1) := by decide +kernel
theorem dX9_again_103 : decode cX9_again 103 = .ok (.aload_n 0, 1) := by decide +kernel
theorem dX9_again_104 : decode cX9_again 104 = .ok (.getfield 53, 3) := by decide +kernel
theorem dX9_again_107 : decode cX9_again 107 = .ok (.sipush 128, 3) := by decide +kernel
theorem dX9_again_110 : decode cX9_again 110 = .ok (.iload_n 1, 1) := by decide +kernel
theorem dX9_again_111 : decode cX9_again 111 = .ok (.imul, 1) := by decide +kernel
theorem dX9_again_112 : decode cX9_again 112 = .ok (.iload_n 2, 1) := by decide +kernel
theorem dX9_again_113 : decode cX9_again 113 = .ok (.iadd, 1) := by decide +kernel
theorem dX9_again_114 : decode cX9_again 114 = .ok (.iaload, 1) := by decide +kernel
theorem dX9_again_115 : decode cX9_again 115 = .ok (.iastore, 1) := by decide +kernel
theorem dX9_again_116 : decode cX9_again 116 = .ok (.iinc 2 1, 3) := by decide +kernel
theorem dX9_again_119 : decode cX9_again 119 = .ok (.goto (-28), 3) := by decide +kernel
theorem dX9_again_122 : decode cX9_again 122 = .ok (.aload_n 0, 1) := by decide +kernel
theorem dX9_again_123 : decode cX9_again 123 = .ok (.aload_n 0, 1) := by decide +kernel
theorem dX9_again_124 : decode cX9_again 124 = .ok (.getfield 62, 3) := by decide +kernel
theorem dX9_again_127 : decode cX9_again 127 = .ok (.iconst 3, 1) := by decide +kernel
theorem dX9_again_128 : decode cX9_again 128 = .ok (.iload_n 1, 1) := by decide +kernel
theorem dX9_again_129 : decode cX9_again 129 = .ok (.imul, 1) := by decide +kernel
theorem dX9_again_130 : decode cX9_again 130 = .ok (.iaload, 1) := by decide +kernel
theorem dX9_again_131 : decode cX9_again 131 = .ok (.putfield 103, 3) := by decide +kernel
theorem dX9_again_134 : decode cX9_again 134 = .ok (.aload_n 0, 1) := by decide +kernel
theorem dX9_again_135 : decode cX9_again 135 = .ok (.aload_n 0, 1) := by decide +kernel
theorem dX9_again_136 : decode cX9_again 136 = .ok (.getfield 62, 3) := by decide +kernel
theorem dX9_again_139 : decode cX9_again 139 = .ok (.iconst 3, 1) := by decide +kernel
theorem dX9_again_140 : decode cX9_again 140 = .ok (.iload_n 1, 1) := by decide +kernel
theorem dX9_again_141 : decode cX9_again 141 = .ok (.imul, 1) := by decide +kernel
theorem dX9_again_142 : decode cX9_again 142 = .ok (.iconst 1, 1) := by decide +kernel
theorem dX9_again_143 : decode cX9_again 143 = .ok (.iadd, 1) := by decide +kernel
theorem dX9_again_144 : decode cX9_again 144 = .ok (.iaload, 1) := by decide +kernel
theorem dX9_again_145 : decode cX9_again 145 = .ok (.putfield 109, 3) := by decide +kernel
theorem dX9_again_148 : decode cX9_again 148 = .ok (.aload_n 0, 1) := by decide +kernel
theorem dX9_again_149 : decode cX9_again 149 = .ok (.aload_n 0, 1) := by decide +kernel
theorem dX9_again_150 : decode cX9_again 150 = .ok (.getfield 62, 3) := by decide +kernel
theorem dX9_again_153 : decode cX9_again 153 = .ok (.iconst 3, 1) := by decide +kernel
theorem dX9_again_154 : decode cX9_again 154 = .ok (.iload_n 1, 1) := by decide +kernel
theorem dX9_again_155 : decode cX9_again 155 = .ok (.imul, 1) := by decide +kernel
theorem dX9_again_156 : decode cX9_again 156 = .ok (.iconst 2, 1) := by decide +kernel
theorem dX9_again_157 : decode cX9_again 157 = .ok (.iadd, 1) := by decide +kernel
theorem dX9_again_158 : decode cX9_again 158 = .ok (.iaload, 1) := by decide +kernel
theorem dX9_again_159 : decode cX9_again 159 = .ok (.putfield 112, 3) := by decide +kernel
theorem dX9_again_162 : decode cX9_again 162 = .ok (.aload_n 0, 1) := by decide +kernel
theorem dX9_again_163 : decode cX9_again 163 = .ok (.getfield 109, 3) := by decide +kernel
theorem dX9_again_166 : decode cX9_again 166 = .ok (.ireturn, 1) := by decide +kernel
theorem dX9_count_0 : decode cX9_count 0 = .ok (.iconst 0, 1) := by decide +kernel
theorem dX9_count_1 : decode cX9_count 1 = .ok (.istore_n 2, 1) := by decide +kernel
theorem dX9_count_2 : decode cX9_count 2 = .ok (.iconst 0, 1) := by decide +kernel
theorem dX9_count_3 : decode cX9_count 3 = .ok (.istore_n 3, 1) := by decide +kernel
theorem dX9_count_4 : decode cX9_count 4 = .ok (.iload_n 3, 1) := by decide +kernel
theorem dX9_count_5 : decode cX9_count 5 = .ok (.aload_n 0, 1) := by decide +kernel
theorem dX9_count_6 : decode cX9_count 6 = .ok (.getfield 65, 3) := by decide +kernel
theorem dX9_count_9 : decode cX9_count 9 = .ok (.if_icmp .ge 18, 3) := by decide +kernel
theorem dX9_count_12 : decode cX9_count 12 = .ok (.iload_n 2, 1) := by decide +kernel
theorem dX9_count_13 : decode cX9_count 13 = .ok (.aload_n 0, 1) := by decide +kernel
theorem dX9_count_14 : decode cX9_count 14 = .ok (.getfield 16, 3) := by decide +kernel
theorem dX9_count_17 : decode cX9_count 17 = .ok (.iload_n 3, 1) := by decide +kernel
theorem dX9_count_18 : decode cX9_count 18 = .ok (.iaload, 1) := by decide +kernel
theorem dX9_count_19 : decode cX9_count 19 = .ok (.iadd, 1) := by decide +kernel
theorem dX9_count_20 : decode cX9_count 20 = .ok (.istore_n 2, 1) := by decide +kernel
theorem dX9_count_21 : decode cX9_count 21 = .ok (.iinc 3 1, 3) := by decide +kernel
theorem dX9_count_24 : decode cX9_count 24 = .ok (.goto (-20), 3) := by decide +kernel
theorem dX9_count_27 : decode cX9_count 27 = .ok (.iload_n 1, 1) := by decide +kernel
theorem dX9_count_28 : decode cX9_count 28 = .ok (.tableswitch 76 0 6 #[44, 49, 54, 59, 64, 69, 71], 44) := by decide +kernel
theorem dX9_count_72 : decode cX9_count 72 = .ok (.aload_n 0, 1) := by decide +kernel
theorem dX9_count_73 : decode cX9_count 73 = .ok (.getfield 75, 3) := by decide +kernel
theorem dX9_count_76 : decode cX9_count 76 = .ok (.ireturn, 1) := by decide +kernel
theorem dX9_count_77 : decode cX9_count 77 = .ok (.aload_n 0, 1) := by decide +kernel
theorem dX9_count_78 : decode cX9_count 78 = .ok (.getfield 65, 3) := by decide +kernel
theorem dX9_count_81 : decode cX9_count 81 = .ok (.ireturn, 1) := by decide +kernel
theorem dX9_count_82 : decode cX9_count 82 = .ok (.aload_n 0, 1) := by decide +kernel
theorem dX9_count_83 : decode cX9_count 83 = .ok (.getfield 106, 3) := by decide +kernel
theorem dX9_count_86 : decode cX9_count 86 = .ok (.ireturn, 1) := by decide +kernel
theorem dX9_count_87 : decode cX9_count 87 = .ok (.aload_n 0, 1) := by decide +kernel
theorem dX9_count_88 : decode cX9_count 88 = .ok (.getfield 109, 3) := by decide +kernel
theorem dX9_count_91 : decode cX9_count 91 = .ok (.ireturn, 1) := by decide +kernel
theorem dX9_count_92 : decode cX9_count 92 = .ok (.aload_n 0, 1) := by decide +kernel
theorem dX9_count_93 : decode cX9_count 93 = .ok (.getfield 112, 3) := by decide +kernel
theorem dX9_count_96 : decode cX9_count 96 = .ok (.ireturn, 1) := by decide +kernel
theorem dX9_count_97 : decode cX9_count 97 = .ok (.iload_n 2, 1) := by decide +kernel
theorem dX9_count_98 : decode cX9_count 98 = .ok (.ireturn, 1) := by decide +kernel
theorem dX9_count_99 : decode cX9_count 99 = .ok (.aload_n 0, 1) := by decide +kernel
theorem dX9_count_100 : decode cX9_count 100 = .ok (.getfield 103, 3) := by decide +kernel
theorem dX9_count_103 : decode cX9_count 103 = .ok (.ireturn, 1) := by decide +kernel
theorem dX9_count_104 : decode cX9_count 104 = .ok (.bipush (-2), 2) := by decide +kernel
theorem dX9_count_106 : decode cX9_count 106 = .ok (.ireturn, 1) := by decide +kernel
theorem dJ9_abs_0f7a4_0 : decode cJ9_abs_0f7a4 0 = .ok (.iload_n 0, 1) := by decide +kernel
theorem dJ9_abs_0f7a4_1 : decode cJ9_abs_0f7a4 1 = .ok (.ifCond .ge 8, 3) := by decide +kernel
theorem dJ9_abs_0f7a4_4 : decode cJ9_abs_0f7a4 4 = .ok (.iload_n 0, 1) := by decide +kernel
theorem dJ9_abs_0f7a4_5 : decode cJ9_abs_0f7a4 5 = .ok (.ineg, 1) := by decide +kernel
theorem dJ9_abs_0f7a4_6 : decode cJ9_abs_0f7a4 6 = .ok (.goto 4, 3) := by decide +kernel
theorem dJ9_abs_0f7a4_9 : decode cJ9_abs_0f7a4 9 = .ok (.iload_n 0, 1) := by decide +kernel
theorem dJ9_abs_0f7a4_10 : decode cJ9_abs_0f7a4 10 = .ok (.ireturn, 1) := by decide +kernel
theorem dJ9_max_7cf53_0 : decode cJ9_max_7cf53 0 = .ok (.iload_n 0, 1) := by decide +kernel
theorem dJ9_max_7cf53_1 : decode cJ9_max_7cf53 1 = .ok (.iload_n 1, 1) := by decide +kernel
theorem dJ9_max_7cf53_2 : decode cJ9_max_7cf53 2 = .ok (.if_icmp .lt 7, 3) := by decide +kernel
theorem dJ9_max_7cf53_5 : decode cJ9_max_7cf53 5 = .ok (.iload_n 0, 1) := by decide +kernel
theorem dJ9_max_7cf53_6 : decode cJ9_max_7cf53 6 = .ok (.goto 4, 3) := by decide +kernel
theorem dJ9_max_7cf53_9 : decode cJ9_max_7cf53 9 = .ok (.iload_n 1, 1) := by decide +kernel
theorem dJ9_max_7cf53_10 : decode cJ9_max_7cf53 10 = .ok (.ireturn, 1) := by decide +kernel
theorem dJ9_min_7cf53_0 : decode cJ9_min_7cf53 0 = .ok (.iload_n 0, 1) := by decide +kernel
theorem dJ9_min_7cf53_1 : decode cJ9_min_7cf53 1 = .ok (.iload_n 1, 1) := by decide +kernel
theorem dJ9_min_7cf53_2 : decode cJ9_min_7cf53 2 = .ok (.if_icmp .gt 7, 3) := by decide +kernel
theorem dJ9_min_7cf53_5 : decode cJ9_min_7cf53 5 = .ok (.iload_n 0, 1) := by decide +kernel
theorem dJ9_min_7cf53_6 : decode cJ9_min_7cf53 6 = .ok (.goto 4, 3) := by decide +kernel
theorem dJ9_min_7cf53_9 : decode cJ9_min_7cf53 9 = .ok (.iload_n 1, 1) := by decide +kernel
theorem dJ9_min_7cf53_10 : decode cJ9_min_7cf53 10 = .ok (.ireturn, 1) := by decide +kernel
theorem dJ7_fill_53178_0 : decode cJ7_fill_53178 0 = .ok (.iconst 0, 1) := by decide +kernel
theorem dJ7_fill_53178_1 : decode cJ7_fill_53178 1 = .ok (.istore_n 2, 1) := by decide +kernel
theorem dJ7_fill_53178_2 : decode cJ7_fill_53178 2 = .ok (.aload_n 0, 1) := by decide +kernel
theorem dJ7_fill_53178_3 : decode cJ7_fill_53178 3 = .ok (.arraylength, 1) := by decide +kernel
theorem dJ7_fill_53178_4 : decode cJ7_fill_53178 4 = .ok (.istore_n 3, 1) := by decide +kernel
theorem dJ7_fill_53178_5 : decode cJ7_fill_53178 5 = .ok (.iload_n 2, 1) := by decide +kernel
theorem dJ7_fill_53178_6 : decode cJ7_fill_53178 6 = .ok (.iload_n 3, 1) := by decide +kernel
theorem dJ7_fill_53178_7 : decode cJ7_fill_53178 7 = .ok (.if_icmp .ge 13, 3) := by decide +kernel
theorem dJ7_fill_53178_10 : decode cJ7_fill_53178 10 = .ok (.aload_n 0, 1) := by decide +kernel
theorem dJ7_fill_53178_11 : decode cJ7_fill_53178 11 = .ok (.iload_n 2, 1) := by decide +kernel
theorem dJ7_fill_53178_12 : decode cJ7_fill_53178 12 = .ok (.iload_n 1, 1) := by decide +kernel
theorem dJ7_fill_53178_13 : decode cJ7_fill_53178 13 = .ok (.iastore, 1) := by decide +kernel
theorem dJ7_fill_53178_14 : decode cJ7_fill_53178 14 = .ok (.iinc 2 1, 3) := by decide +kernel
theorem dJ7_fill_53178_17 : decode cJ7_fill_53178 17 = .ok (.goto (-12), 3) := by decide +kernel
theorem dJ7_fill_53178_20 : decode cJ7_fill_53178 20 = .ok (.return_, 1) := by decide +kernel
