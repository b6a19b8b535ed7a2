theorem dX8_charm_4 : decode cX8_charm 4 = .ok (.iload_n 1, 1) := by decide +kernel
theorem dX8_charm_5 : decode cX8_charm 5 = .ok (.invokevirtual 105, 3) := by decide +kernel
theorem dX8_charm_8 : decode cX8_charm 8 = .ok (.ifCond .ne 5, 3) := by decide +kernel
theorem dX8_charm_11 : decode cX8_charm 11 = .ok (.iconst (-1), 1) := by decide +kernel
theorem dX8_charm_12 : decode cX8_charm 12 = .ok (.ireturn, 1) := by decide +kernel
theorem dX8_charm_13 : decode cX8_charm 13 = .ok (.iconst 0, 1) := by decide +kernel
theorem dX8_charm_14 : decode cX8_charm 14 = .ok (.istore_n 2, 1) := by decide +kernel
theorem dX8_charm_15 : decode cX8_charm 15 = .ok (.iload_n 2, 1) := by decide +kernel
theorem dX8_charm_16 : decode cX8_charm 16 = .ok (.ldc 231, 2) := by decide +kernel
theorem dX8_charm_18 : decode cX8_charm 18 = .ok (.if_icmp .ge 26, 3) := by decide +kernel
theorem dX8_charm_21 : decode cX8_charm 21 = .ok (.aload_n 0, 1) := by decide +kernel
theorem dX8_charm_22 : decode cX8_charm 22 = .ok (.getfield 26, 3) := by decide +kernel
theorem dX8_charm_25 : decode cX8_charm 25 = .ok (.getfield 109, 3) := by decide +kernel
theorem dX8_charm_28 : decode cX8_charm 28 = .ok (.iload_n 1, 1) := by decide +kernel
theorem dX8_charm_29 : decode cX8_charm 29 = .ok (.iaload, 1) := by decide +kernel
theorem dX8_charm_30 : decode cX8_charm 30 = .ok (.iload_n 2, 1) := by decide +kernel
theorem dX8_charm_31 : decode cX8_charm 31 = .ok (.iadd, 1) := by decide +kernel
theorem dX8_charm_32 : decode cX8_charm 32 = .ok (.invokestatic 232, 3) := by decide +kernel
theorem dX8_charm_35 : decode cX8_charm 35 = .ok (.ifCond .ne 9, 3) := by decide +kernel
theorem dX8_charm_38 : decode cX8_charm 38 = .ok (.iinc 2 1, 3) := by decide +kernel
theorem dX8_charm_41 : decode cX8_charm 41 = .ok (.goto (-26), 3) := by decide +kernel
theorem dX8_charm_44 : decode cX8_charm 44 = .ok (.iload_n 2, 1) := by decide +kernel
theorem dX8_charm_45 : decode cX8_charm 45 = .ok (.ireturn, 1) := by decide +kernel
set_option maxRecDepth 20000 in
theorem ggX8_keep_X8_slotAt : GoodIn wsX8_keep wsX8_slotAt := goodIn_r _ [6, 7, 8, 29, 30, 31, 32, 33, 34, 35, 36, 37, 38, 39] (by decide +kernel) (by decide +kernel)
set_option maxRecDepth 20000 in
theorem gX8_keep_X8_slotAt : GoodIn wsX8_keep (wsV RX8 235 RX8 yX8_slotAt wsX8_slotAt) := goodIn_app (goodIn_of _ (by decide +kernel)) ggX8_keep_X8_slotAt
set_option maxRecDepth 20000 in
theorem ggX8_keep_X1_become : GoodIn wsX8_keep wsX1_become := goodIn_r _ [12, 13, 14, 15, 16, 17, 18, 19, 20, 21, 22, 23, 24, 25, 26, 27, 28, 40, 41, 42, 43, 44, 45, 46, 47, 48, 49, 50, 51] (by decide +kernel) (by decide +kernel)
set_option maxRecDepth 20000 in
theorem gX8_keep_X1_become_n239 : GoodIn wsX8_keep (wsX1_become) := ggX8_keep_X1_become
theorem dX8_keep_0 : decode cX8_keep 0 = .ok (.iload_n 1, 1) := by decide +kernel
theorem dX8_keep_1 : decode cX8_keep 1 = .ok (.ifCond .lt 8, 3) := by decide +kernel
theorem dX8_keep_4 : decode cX8_keep 4 = .ok (.iload_n 1, 1) := by decide +kernel
theorem dX8_keep_5 : decode cX8_keep 5 = .ok (.iconst 2, 1) := by decide +kernel
theorem dX8_keep_6 : decode cX8_keep 6 = .ok (.if_icmp .lt 5, 3) := by decide +kernel
theorem dX8_keep_9 : decode cX8_keep 9 = .ok (.iconst (-1), 1) := by decide +kernel
theorem dX8_keep_10 : decode cX8_keep 10 = .ok (.ireturn, 1) := by decide +kernel
theorem dX8_keep_11 : decode cX8_keep 11 = .ok (.aload_n 0, 1) := by decide +kernel
theorem dX8_keep_12 : decode cX8_keep 12 = .ok (.iload_n 1, 1) := by decide +kernel
theorem dX8_keep_13 : decode cX8_keep 13 = .ok (.invokevirtual 235, 3) := by decide +kernel
theorem dX8_keep_16 : decode cX8_keep 16 = .ok (.aload_n 0, 1) := by decide +kernel
theorem dX8_keep_17 : decode cX8_keep 17 = .ok (.getfield 26, 3) := by decide +kernel
theorem dX8_keep_20 : decode cX8_keep 20 = .ok (.invokevirtual 239, 3) := by decide +kernel
theorem dX8_keep_23 : decode cX8_keep 23 = .ok (.aload_n 0, 1) := by decide +kernel
theorem dX8_keep_24 : decode cX8_keep 24 = .ok (.getfield 26, 3) := by decide +kernel
theorem dX8_keep_27 : decode cX8_keep 27 = .ok (.getfield 115, 3) := by decide +kernel
theorem dX8_keep_30 : decode cX8_keep 30 = .ok (.ireturn, 1) := by decide +kernel
set_option maxRecDepth 20000 in
theorem ggX8_again_X8_slotAt : GoodIn wsX8_again wsX8_slotAt := goodIn_r _ [6, 7, 8, 41, 42, 43, 44, 45, 46, 47, 48, 49, 50, 51] (by decide +kernel) (by decide +kernel)
set_option maxRecDepth 20000 in
theorem gX8_again_X8_slotAt : GoodIn wsX8_again (wsV RX8 235 RX8 yX8_slotAt wsX8_slotAt) := goodIn_app (goodIn_of _ (by decide +kernel)) ggX8_again_X8_slotAt
set_option maxRecDepth 20000 in
theorem ggX8_again_X1_become : GoodIn wsX8_again wsX1_become := goodIn_r _ [12, 13, 14, 15, 16, 17, 18, 19, 20, 21, 22, 23, 24, 25, 26, 27, 28, 29, 30, 31, 32, 33, 34, 35, 36, 37, 38, 39, 40] (by decide +kernel) (by decide +kernel)
set_option maxRecDepth 20000 in
theorem gX8_again_X1_become_n239 : GoodIn wsX8_again (wsX1_become) := ggX8_again_X1_become
theorem dX8_again_0 : decode cX8_again 0 = .ok (.iload_n 1, 1) := by decide +kernel
theorem dX8_again_1 : decode cX8_again 1 = .ok (.ifCond .lt 8, 3) := by decide +kernel
theorem dX8_again_4 : decode cX8_again 4 = .ok (.iload_n 1, 1) := by decide +kernel
theorem dX8_again_5 : decode cX8_again 5 = .ok (.iconst 2, 1) := by decide +kernel
theorem dX8_again_6 : decode cX8_again 6 = .ok (.if_icmp .lt 5, 3) := by decide +kernel
theorem dX8_again_9 : decode cX8_again 9 = .ok (.iconst (-1), 1) := by decide +kernel
theorem dX8_again_10 : decode cX8_again 10 = .ok (.ireturn, 1) := by decide +kernel
theorem dX8_again_11 : decode cX8_again 11 = .ok (.aload_n 0, 1) := by decide +kernel
theorem dX8_again_12 : decode cX8_again 12 = .ok (.iload_n 1, 1) := by decide +kernel
theorem dX8_again_13 : decode cX8_again 13 = .ok (.invokevirtual 235, 3) := by decide +kernel
theorem dX8_again_16 : decode cX8_again 16 = .ok (.astore_n 2, 1) := by decide +kernel
theorem dX8_again_17 : decode cX8_again 17 = .ok (.aload_n 2, 1) := by decide +kernel
theorem dX8_again_18 : decode cX8_again 18 = .ok (.getfield 101, 3) := by decide +kernel
theorem dX8_again_21 : decode cX8_again 21 = .ok (.ifCond .ne 6, 3) := by decide +kernel
theorem dX8_again_24 : decode cX8_again 24 = .ok (.bipush (-3), 2) := by decide +kernel
theorem dX8_again_26 : decode cX8_again 26 = .ok (.ireturn, 1) := by decide +kernel
theorem dX8_again_27 : decode cX8_again 27 = .ok (.aload_n 0, 1) := by decide +kernel
theorem dX8_again_28 : decode cX8_again 28 = .ok (.getfield 26, 3) := by decide +kernel
theorem dX8_again_31 : decode cX8_again 31 = .ok (.aload_n 2, 1) := by decide +kernel
theorem dX8_again_32 : decode cX8_again 32 = .ok (.invokevirtual 239, 3) := by decide +kernel
theorem dX8_again_35 : decode cX8_again 35 = .ok (.aload_n 0, 1) := by decide +kernel
theorem dX8_again_36 : decode cX8_again 36 = .ok (.getfield 26, 3) := by decide +kernel
theorem dX8_again_39 : decode cX8_again 39 = .ok (.getfield 115, 3) := by decide +kernel
theorem dX8_again_42 : decode cX8_again 42 = .ok (.ireturn, 1) := by decide +kernel
set_option maxRecDepth 20000 in
theorem ggX8_count_X1_sumOfPurses : GoodIn wsX8_count wsX1_sumOfPurses := goodIn_r _ [7, 8, 9, 28, 29, 30, 31, 32, 33, 34, 35, 36, 37, 38, 39] (by decide +kernel) (by decide +kernel)
set_option maxRecDepth 20000 in
theorem gX8_count_X1_sumOfPurses_n242 : GoodIn wsX8_count (wsX1_sumOfPurses) := ggX8_count_X1_sumOfPurses
theorem dX8_count_0 : decode cX8_count 0 = .ok (.iload_n 1, 1) := by decide +kernel
theorem dX8_count_1 : decode cX8_count 1 = .ok (.tableswitch 99 0 6 #[43, 51, 59, 67, 75, 83, 91], 43) := by decide +kernel
theorem dX8_count_44 : decode cX8_count 44 = .ok (.aload_n 0, 1) := by decide +kernel
theorem dX8_count_45 : decode cX8_count 45 = .ok (.getfield 10, 3) := by decide +kernel
theorem dX8_count_48 : decode cX8_count 48 = .ok (.getfield 79, 3) := by decide +kernel
theorem dX8_count_51 : decode cX8_count 51 = .ok (.ireturn, 1) := by decide +kernel
theorem dX8_count_52 : decode cX8_count 52 = .ok (.aload_n 0, 1) := by decide +kernel
theorem dX8_count_53 : decode cX8_count 53 = .ok (.getfield 26, 3) := by decide +kernel
theorem dX8_count_56 : decode cX8_count 56 = .ok (.getfield 75, 3) := by decide +kernel
theorem dX8_count_59 : decode cX8_count 59 = .ok (.ireturn, 1) := by decide +kernel
theorem dX8_count_60 : decode cX8_count 60 = .ok (.aload_n 0, 1) := by decide +kernel
theorem dX8_count_61 : decode cX8_count 61 = .ok (.getfield 19, 3) := by decide +kernel
theorem dX8_count_64 : decode cX8_count 64 = .ok (.getfield 183, 3) := by decide +kernel
theorem dX8_count_67 : decode cX8_count 67 = .ok (.ireturn, 1) := by decide +kernel
theorem dX8_count_68 : decode cX8_count 68 = .ok (.aload_n 0, 1) := by decide +kernel
theorem dX8_count_69 : decode cX8_count 69 = .ok (.getfield 26, 3) := by decide +kernel
theorem dX8_count_72 : decode cX8_count 72 = .ok (.getfield 115, 3) := by decide +kernel
theorem dX8_count_75 : decode cX8_count 75 = .ok (.ireturn, 1) := by decide +kernel
theorem dX8_count_76 : decode cX8_count 76 = .ok (.aload_n 0, 1) := by decide +kernel
theorem dX8_count_77 : decode cX8_count 77 = .ok (.getfield 26, 3) := by decide +kernel
theorem dX8_count_80 : decode cX8_count 80 = .ok (.getfield 199, 3) := by decide +kernel
theorem dX8_count_83 : decode cX8_count 83 = .ok (.ireturn, 1) := by decide +kernel
theorem dX8_count_84 : decode cX8_count 84 = .ok (.aload_n 0, 1) := by decide +kernel
theorem dX8_count_85 : decode cX8_count 85 = .ok (.getfield 26, 3) := by decide +kernel
theorem dX8_count_88 : decode cX8_count 88 = .ok (.invokevirtual 242, 3) := by decide +kernel
theorem dX8_count_91 : decode cX8_count 91 = .ok (.ireturn, 1) := by decide +kernel
theorem dX8_count_92 : decode cX8_count 92 = .ok (.aload_n 0, 1) := by decide +kernel
theorem dX8_count_93 : decode cX8_count 93 = .ok (.getfield 26, 3) := by decide +kernel
theorem dX8_count_96 : decode cX8_count 96 = .ok (.getfield 118, 3) := by decide +kernel
theorem dX8_count_99 : decode cX8_count 99 = .ok (.ireturn, 1) := by decide +kernel
theorem dX8_count_100 : decode cX8_count 100 = .ok (.bipush (-2), 2) := by decide +kernel
theorem dX8_count_102 : decode cX8_count 102 = .ok (.ireturn, 1) := by decide +kernel
set_option maxRecDepth 20000 in
theorem ggX8_refusalOfTwo_X1_isPerson : GoodIn wsX8_refusalOfTwo wsX1_isPerson := goodIn_r _ [5, 6, 18, 19, 20, 21, 22, 23, 24, 25, 26, 27, 28, 29] (by decide +kernel) (by decide +kernel)
set_option maxRecDepth 20000 in
theorem gX8_refusalOfTwo_X1_isPerson_n105 : GoodIn wsX8_refusalOfTwo (wsX1_isPerson) := ggX8_refusalOfTwo_X1_isPerson
theorem dX8_refusalOfTwo_0 : decode cX8_refusalOfTwo 0 = .ok (.aload_n 0, 1) := by decide +kernel
theorem dX8_refusalOfTwo_1 : decode cX8_refusalOfTwo 1 = .ok (.getfield 26, 3) := by decide +kernel
theorem dX8_refusalOfTwo_4 : decode cX8_refusalOfTwo 4 = .ok (.iload_n 1, 1) := by decide +kernel
theorem dX8_refusalOfTwo_5 : decode cX8_refusalOfTwo 5 = .ok (.invokevirtual 105, 3) := by decide +kernel
theorem dX8_refusalOfTwo_8 : decode cX8_refusalOfTwo 8 = .ok (.ifCond .eq 14, 3) := by decide +kernel
theorem dX8_refusalOfTwo_11 : decode cX8_refusalOfTwo 11 = .ok (.aload_n 0, 1) := by decide +kernel
theorem dX8_refusalOfTwo_12 : decode cX8_refusalOfTwo 12 = .ok (.getfield 26, 3) := by decide +kernel
theorem dX8_refusalOfTwo_15 : decode cX8_refusalOfTwo 15 = .ok (.iload_n 2, 1) := by decide +kernel
theorem dX8_refusalOfTwo_16 : decode cX8_refusalOfTwo 16 = .ok (.invokevirtual 105, 3) := by decide +kernel
theorem dX8_refusalOfTwo_19 : decode cX8_refusalOfTwo 19 = .ok (.ifCond .ne 5, 3) := by decide +kernel
theorem dX8_refusalOfTwo_22 : decode cX8_refusalOfTwo 22 = .ok (.iconst (-1), 1) := by decide +kernel
theorem dX8_refusalOfTwo_23 : decode cX8_refusalOfTwo 23 = .ok (.ireturn, 1) := by decide +kernel
theorem dX8_refusalOfTwo_24 : decode cX8_refusalOfTwo 24 = .ok (.iload_n 1, 1) := by decide +kernel
theorem dX8_refusalOfTwo_25 : decode cX8_refusalOfTwo 25 = .ok (.iload_n 2, 1) := by decide +kernel
theorem dX8_refusalOfTwo_26 : decode cX8_refusalOfTwo 26 = .ok (.if_icmp .ne 8, 3) := by decide +kernel
theorem dX8_refusalOfTwo_29 : decode cX8_refusalOfTwo 29 = .ok (.bipush (-3), 2) := by decide +kernel
theorem dX8_refusalOfTwo_31 : decode cX8_refusalOfTwo 31 = .ok (.goto 4, 3) := by decide +kernel
theorem dX8_refusalOfTwo_34 : decode cX8_refusalOfTwo 34 = .ok (.iconst 0, 1) := by decide +kernel
theorem dX8_refusalOfTwo_35 : decode cX8_refusalOfTwo 35 = .ok (.ireturn, 1) := by decide +kernel
theorem dX8_slotAt_0 : decode cX8_slotAt 0 = .ok (.iload_n 1, 1) := by decide +kernel
theorem dX8_slotAt_1 : decode cX8_slotAt 1 = .ok (.ifCond .ne 10, 3) := by decide +kernel
theorem dX8_slotAt_4 : decode cX8_slotAt 4 = .ok (.aload_n 0, 1) := by decide +kernel
theorem dX8_slotAt_5 : decode cX8_slotAt 5 = .ok (.getfield 30, 3) := by decide +kernel
theorem dX8_slotAt_8 : decode cX8_slotAt 8 = .ok (.goto 7, 3) := by decide +kernel
theorem dX8_slotAt_11 : decode cX8_slotAt 11 = .ok (.aload_n 0, 1) := by decide +kernel
theorem dX8_slotAt_12 : decode cX8_slotAt 12 = .ok (.getfield 33, 3) := by decide +kernel
theorem dX8_slotAt_15 : decode cX8_slotAt 15 = .ok (.areturn, 1) := by decide +kernel
theorem dX8_isSum_0 : decode cX8_isSum 0 = .ok (.iload_n 0, 1) := by decide +kernel
theorem dX8_isSum_1 : decode cX8_isSum 1 = .ok (.ifCond .lt 13, 3) := by decide +kernel
theorem dX8_isSum_4 : decode cX8_isSum 4 = .ok (.iload_n 0, 1) := by decide +kernel
theorem dX8_isSum_5 : decode cX8_isSum 5 = .ok (.ldc 198, 2) := by decide +kernel
theorem dX8_isSum_7 : decode cX8_isSum 7 = .ok (.if_icmp .gt 7, 3) := by decide +kernel
theorem dX8_isSum_10 : decode cX8_isSum 10 = .ok (.iconst 1, 1) := by decide +kernel
theorem dX8_isSum_11 : decode cX8_isSum 11 = .ok (.goto 4, 3) := by decide +kernel
theorem dX8_isSum_14 : decode cX8_isSum 14 = .ok (.iconst 0, 1) := by decide +kernel
theorem dX8_isSum_15 : decode cX8_isSum 15 = .ok (.ireturn, 1) := by decide +kernel
theorem dX8_greatestDivisor_0 : decode cX8_greatestDivisor 0 = .ok (.iload_n 0, 1) := by decide +kernel
theorem dX8_greatestDivisor_1 : decode cX8_greatestDivisor 1 = .ok (.istore_n 2, 1) := by decide +kernel
theorem dX8_greatestDivisor_2 : decode cX8_greatestDivisor 2 = .ok (.iload_n 1, 1) := by decide +kernel
theorem dX8_greatestDivisor_3 : decode cX8_greatestDivisor 3 = .ok (.istore_n 3, 1) := by decide +kernel
theorem dX8_greatestDivisor_4 : decode cX8_greatestDivisor 4 = .ok (.iconst 0, 1) := by decide +kernel
theorem dX8_greatestDivisor_5 : decode cX8_greatestDivisor 5 = .ok (.istore 4, 2) := by decide +kernel
theorem dX8_greatestDivisor_7 : decode cX8_greatestDivisor 7 = .ok (.iload 4, 2) := by decide +kernel
theorem dX8_greatestDivisor_9 : decode cX8_greatestDivisor 9 = .ok (.ldc 231, 2) := by decide +kernel
theorem dX8_greatestDivisor_11 : decode cX8_greatestDivisor 11 = .ok (.if_icmp .ge 23, 3) := by decide +kernel
theorem dX8_greatestDivisor_14 : decode cX8_greatestDivisor 14 = .ok (.iload_n 3, 1) := by decide +kernel
theorem dX8_greatestDivisor_15 : decode cX8_greatestDivisor 15 = .ok (.ifCond .le 19, 3) := by decide +kernel
theorem dX8_greatestDivisor_18 : decode cX8_greatestDivisor 18 = .ok (.iload_n 2, 1) := by decide +kernel
theorem dX8_greatestDivisor_19 : decode cX8_greatestDivisor 19 = .ok (.iload_n 3, 1) := by decide +kernel
theorem dX8_greatestDivisor_20 : decode cX8_greatestDivisor 20 = .ok (.irem, 1) := by decide +kernel
theorem dX8_greatestDivisor_21 : decode cX8_greatestDivisor 21 = .ok (.istore 5, 2) := by decide +kernel
theorem dX8_greatestDivisor_23 : decode cX8_greatestDivisor 23 = .ok (.iload_n 3, 1) := by decide +kernel
theorem dX8_greatestDivisor_24 : decode cX8_greatestDivisor 24 = .ok (.istore_n 2, 1) := by decide +kernel
theorem dX8_greatestDivisor_25 : decode cX8_greatestDivisor 25 = .ok (.iload 5, 2) := by decide +kernel
theorem dX8_greatestDivisor_27 : decode cX8_greatestDivisor 27 = .ok (.istore_n 3, 1) := by decide +kernel
theorem dX8_greatestDivisor_28 : decode cX8_greatestDivisor 28 = .ok (.iinc 4 1, 3) := by decide +kernel
theorem dX8_greatestDivisor_31 : decode cX8_greatestDivisor 31 = .ok (.goto (-24), 3) := by decide +kernel
theorem dX8_greatestDivisor_34 : decode cX8_greatestDivisor 34 = .ok (.iload_n 2, 1) := by decide +kernel
theorem dX8_greatestDivisor_35 : decode cX8_greatestDivisor 35 = .ok (.ireturn, 1) := by decide +kernel
set_option maxRecDepth 20000 in
theorem ggX8_sharedBy_X8_greatestDivisor : GoodIn wsX8_sharedBy wsX8_greatestDivisor := goodIn_r _ [4, 5] (by decide +kernel) (by decide +kernel)
set_option maxRecDepth 20000 in
theorem gX8_sharedBy_X8_greatestDivisor : GoodIn wsX8_sharedBy (va_wsS RX8 228 yX8_greatestDivisor wsX8_greatestDivisor) := goodIn_app (goodIn_of _ (by decide +kernel)) ggX8_sharedBy_X8_greatestDivisor
theorem dX8_sharedBy_0 : decode cX8_sharedBy 0 = .ok (.iload_n 0, 1) := by decide +kernel
theorem dX8_sharedBy_1 : decode cX8_sharedBy 1 = .ok (.ifCond .eq 7, 3) := by decide +kernel
theorem dX8_sharedBy_4 : decode cX8_sharedBy 4 = .ok (.iload_n 1, 1) := by decide +kernel
theorem dX8_sharedBy_5 : decode cX8_sharedBy 5 = .ok (.ifCond .ne 7, 3) := by decide +kernel
theorem dX8_sharedBy_8 : decode cX8_sharedBy 8 = .ok (.iconst 0, 1) := by decide +kernel
theorem dX8_sharedBy_9 : decode cX8_sharedBy 9 = .ok (.goto 8, 3) := by decide +kernel
theorem dX8_sharedBy_12 : decode cX8_sharedBy 12 = .ok (.iload_n 0, 1) := by decide +kernel
theorem dX8_sharedBy_13 : decode cX8_sharedBy 13 = .ok (.iload_n 1, 1) := by decide +kernel
theorem dX8_sharedBy_14 : decode cX8_sharedBy 14 = .ok (.invokestatic 228, 3) := by decide +kernel
theorem dX8_sharedBy_17 : decode cX8_sharedBy 17 = .ok (.ireturn, 1) := by decide +kernel
theorem dX8_isPrime_0 : decode cX8_isPrime 0 = .ok (.iload_n 0, 1) := by decide +kernel
theorem dX8_isPrime_1 : decode cX8_isPrime 1 = .ok (.iconst 2, 1) := by decide +kernel
theorem dX8_isPrime_2 : decode cX8_isPrime 2 = .ok (.if_icmp .ge 5, 3) := by decide +kernel
theorem dX8_isPrime_5 : decode cX8_isPrime 5 = .ok (.iconst 0, 1) := by decide +kernel
theorem dX8_isPrime_6 : decode cX8_isPrime 6 = .ok (.ireturn, 1) := by decide +kernel
theorem dX8_isPrime_7 : decode cX8_isPrime 7 = .ok (.iconst 2, 1) := by decide +kernel
theorem dX8_isPrime_8 : decode cX8_isPrime 8 = .ok (.istore_n 1, 1) := by decide +kernel
theorem dX8_isPrime_9 : decode cX8_isPrime 9 = .ok (.iload_n 1, 1) := by decide +kernel
theorem dX8_isPrime_10 : decode cX8_isPrime 10 = .ok (.iload_n 1, 1) := by decide +kernel
theorem dX8_isPrime_11 : decode cX8_isPrime 11 = .ok (.imul, 1) := by decide +kernel
theorem dX8_isPrime_12 : decode cX8_isPrime 12 = .ok (.iload_n 0, 1) := by decide +kernel
theorem dX8_isPrime_13 : decode cX8_isPrime 13 = .ok (.if_icmp .gt 17, 3) := by decide +kernel
theorem dX8_isPrime_16 : decode cX8_isPrime 16 = .ok (.iload_n 0, 1) := by decide +kernel
theorem dX8_isPrime_17 : decode cX8_isPrime 17 = .ok (.iload_n 1, 1) := by decide +kernel
theorem dX8_isPrime_18 : decode cX8_isPrime 18 = .ok (.irem, 1) := by decide +kernel
theorem dX8_isPrime_19 : decode cX8_isPrime 19 = .ok (.ifCond .ne 5, 3) := by decide +kernel
theorem dX8_isPrime_22 : decode cX8_isPrime 22 = .ok (.iconst 0, 1) := by decide +kernel
theorem dX8_isPrime_23 : decode cX8_isPrime 23 = .ok (.ireturn, 1) := by decide +kernel
theorem dX8_isPrime_24 : decode cX8_isPrime 24 = .ok (.iinc 1 1, 3) := by decide +kernel
theorem dX8_isPrime_27 : decode cX8_isPrime 27 = .ok (.goto (-18), 3) := by decide +kernel
theorem dX8_isPrime_30 : decode cX8_isPrime 30 = .ok (.iconst 1, 1) := by decide +kernel
theorem dX8_isPrime_31 : decode cX8_isPrime 31 = .ok (.ireturn, 1) := by decide +kernel
theorem dX8_takeApart_0 : decode cX8_takeApart 0 = .ok (.iconst 0, 1) := by decide +kernel
theorem dX8_takeApart_1 : decode cX8_takeApart 1 = .ok (.istore_n 2, 1) := by decide +kernel
theorem dX8_takeApart_2 : decode cX8_takeApart 2 = .ok (.iload_n 0, 1) := by decide +kernel
theorem dX8_takeApart_3 : decode cX8_takeApart 3 = .ok (.istore_n 3, 1) := by decide +kernel
theorem dX8_takeApart_4 : decode cX8_takeApart 4 = .ok (.iconst 2, 1) := by decide +kernel
theorem dX8_takeApart_5 : decode cX8_takeApart 5 = .ok (.istore 4, 2) := by decide +kernel
theorem dX8_takeApart_7 : decode cX8_takeApart 7 = .ok (.iload 4, 2) := by decide +kernel
theorem dX8_takeApart_9 : decode cX8_takeApart 9 = .ok (.iload 4, 2) := by decide +kernel
theorem dX8_takeApart_11 : decode cX8_takeApart 11 = .ok (.imul, 1) := by decide +kernel
theorem dX8_takeApart_12 : decode cX8_takeApart 12 = .ok (.iload_n 3, 1) := by decide +kernel
theorem dX8_takeApart_13 : decode cX8_takeApart 13 = .ok (.if_icmp .gt 66, 3) := by decide +kernel
theorem dX8_takeApart_16 : decode cX8_takeApart 16 = .ok (.iload_n 3, 1) := by decide +kernel
theorem dX8_takeApart_17 : decode cX8_takeApart 17 = .ok (.iload 4, 2) := by decide +kernel
theorem dX8_takeApart_19 : decode cX8_takeApart 19 = .ok (.irem, 1) := by decide +kernel
theorem dX8_takeApart_20 : decode cX8_takeApart 20 = .ok (.ifCond .eq 6, 3) := by decide +kernel
theorem dX8_takeApart_23 : decode cX8_takeApart 23 = .ok (.goto 50, 3) := by decide +kernel
theorem dX8_takeApart_26 : decode cX8_takeApart 26 = .ok (.iload_n 2, 1) := by decide +kernel
theorem dX8_takeApart_27 : decode cX8_takeApart 27 = .ok (.aload_n 1, 1) := by decide +kernel
theorem dX8_takeApart_28 : decode cX8_takeApart 28 = .ok (.arraylength, 1) := by decide +kernel
theorem dX8_takeApart_29 : decode cX8_takeApart 29 = .ok (.if_icmp .ge 11, 3) := by decide +kernel
theorem dX8_takeApart_32 : decode cX8_takeApart 32 = .ok (.aload_n 1, 1) := by decide +kernel
theorem dX8_takeApart_33 : decode cX8_takeApart 33 = .ok (.iload_n 2, 1) := by decide +kernel
theorem dX8_takeApart_34 : decode cX8_takeApart 34 = .ok (.iinc 2 1, 3) := by decide +kernel
theorem dX8_takeApart_37 : decode cX8_takeApart 37 = .ok (.iload 4, 2) := by decide +kernel
theorem dX8_takeApart_39 : decode cX8_takeApart 39 = .ok (.iastore, 1) := by decide +kernel
theorem dX8_takeApart_40 : decode cX8_takeApart 40 = .ok (.iconst 0, 1) := by decide +kernel
theorem dX8_takeApart_41 : decode cX8_takeApart 41 = .ok (.istore 5, 2) := by decide +kernel
theorem dX8_takeApart_43 : decode cX8_takeApart 43 = .ok (.iload 5, 2) := by decide +kernel
theorem dX8_takeApart_45 : decode cX8_takeApart 45 = .ok (.ldc 231, 2) := by decide +kernel
theorem dX8_takeApart_47 : decode cX8_takeApart 47 = .ok (.if_icmp .ge 26, 3) := by decide +kernel
theorem dX8_takeApart_50 : decode cX8_takeApart 50 = .ok (.iload_n 3, 1) := by decide +kernel
theorem dX8_takeApart_51 : decode cX8_takeApart 51 = .ok (.iconst 1, 1) := by decide +kernel
theorem dX8_takeApart_52 : decode cX8_takeApart 52 = .ok (.if_icmp .le 21, 3) := by decide +kernel
theorem dX8_takeApart_55 : decode cX8_takeApart 55 = .ok (.iload_n 3, 1) := by decide +kernel
theorem dX8_takeApart_56 : decode cX8_takeApart 56 = .ok (.iload 4, 2) := by decide +kernel
theorem dX8_takeApart_58 : decode cX8_takeApart 58 = .ok (.irem, 1) := by decide +kernel
theorem dX8_takeApart_59 : decode cX8_takeApart 59 = .ok (.ifCond .ne 14, 3) := by decide +kernel
theorem dX8_takeApart_62 : decode cX8_takeApart 62 = .ok (.iload_n 3, 1) := by decide +kernel
theorem dX8_takeApart_63 : decode cX8_takeApart 63 = .ok (.iload 4, 2) := by decide +kernel
theorem dX8_takeApart_65 : decode cX8_takeApart 65 = .ok (.idiv, 1) := by decide +kernel
theorem dX8_takeApart_66 : decode cX8_takeApart 66 = .ok (.istore_n 3, 1) := by decide +kernel
theorem dX8_takeApart_67 : decode cX8_takeApart 67 = .ok (.iinc 5 1, 3) := by decide +kernel
theorem dX8_takeApart_70 : decode cX8_takeApart 70 = .ok (.goto (-27), 3) := by decide +kernel
theorem dX8_takeApart_73 : decode cX8_takeApart 73 = .ok (.iinc 4 1, 3) := by decide +kernel
theorem dX8_takeApart_76 : decode cX8_takeApart 76 = .ok (.goto (-69), 3) := by decide +kernel
theorem dX8_takeApart_79 : decode cX8_takeApart 79 = .ok (.iload_n 3, 1) := by decide +kernel
theorem dX8_takeApart_80 : decode cX8_takeApart 80 = .ok (.iconst 1, 1) := by decide +kernel
theorem dX8_takeApart_81 : decode cX8_takeApart 81 = .ok (.if_icmp .le 16, 3) := by decide +kernel
theorem dX8_takeApart_84 : decode cX8_takeApart 84 = .ok (.iload_n 2, 1) := by decide +kernel
theorem dX8_takeApart_85 : decode cX8_takeApart 85 = .ok (.aload_n 1, 1) := by decide +kernel
theorem dX8_takeApart_86 : decode cX8_takeApart 86 = .ok (.arraylength, 1) := by decide +kernel
theorem dX8_takeApart_87 : decode cX8_takeApart 87 = .ok (.if_icmp .ge 10, 3) := by decide +kernel
theorem dX8_takeApart_90 : decode cX8_takeApart 90 = .ok (.aload_n 1, 1) := by decide +kernel
theorem dX8_takeApart_91 : decode cX8_takeApart 91 = .ok (.iload_n 2, 1) := by decide +kernel
theorem dX8_takeApart_92 : decode cX8_takeApart 92 = .ok (.iinc 2 1, 3) := by decide +kernel
theorem dX8_takeApart_95 : decode cX8_takeApart 95 = .ok (.iload_n 3, 1) := by decide +kernel
theorem dX8_takeApart_96 : decode cX8_takeApart 96 = .ok (.iastore, 1) := by decide +kernel
theorem dX8_takeApart_97 : decode cX8_takeApart 97 = .ok (.iload_n 2, 1) := by decide +kernel
theorem dX8_takeApart_98 : decode cX8_takeApart 98 = .ok (.ireturn, 1) := by decide +kernel
theorem dX8_sumPassed_0 : decode cX8_sumPassed 0 = .ok (.iload_n 0, 1) := by decide +kernel
theorem dX8_sumPassed_1 : decode cX8_sumPassed 1 = .ok (.iconst 2, 1) := by decide +kernel
theorem dX8_sumPassed_2 : decode cX8_sumPassed 2 = .ok (.if_icmp .ne 7, 3) := by decide +kernel
theorem dX8_sumPassed_5 : decode cX8_sumPassed 5 = .ok (.iload_n 2, 1) := by decide +kernel
theorem dX8_sumPassed_6 : decode cX8_sumPassed 6 = .ok (.iconst 2, 1) := by decide +kernel
theorem dX8_sumPassed_7 : decode cX8_sumPassed 7 = .ok (.idiv, 1) := by decide +kernel
theorem dX8_sumPassed_8 : decode cX8_sumPassed 8 = .ok (.ireturn, 1) := by decide +kernel
theorem dX8_sumPassed_9 : decode cX8_sumPassed 9 = .ok (.iload_n 0, 1) := by decide +kernel
theorem dX8_sumPassed_10 : decode cX8_sumPassed 10 = .ok (.iconst 3, 1) := by decide +kernel
theorem dX8_sumPassed_11 : decode cX8_sumPassed 11 = .ok (.if_icmp .ne 19, 3) := by decide +kernel
theorem dX8_sumPassed_14 : decode cX8_sumPassed 14 = .ok (.iload_n 2, 1) := by decide +kernel
theorem dX8_sumPassed_15 : decode cX8_sumPassed 15 = .ok (.ifCond .le 15, 3) := by decide +kernel
theorem dX8_sumPassed_18 : decode cX8_sumPassed 18 = .ok (.iload_n 2, 1) := by decide +kernel
theorem dX8_sumPassed_19 : decode cX8_sumPassed 19 = .ok (.iconst 1, 1) := by decide +kernel
theorem dX8_sumPassed_20 : decode cX8_sumPassed 20 = .ok (.iload_n 1, 1) := by decide +kernel
theorem dX8_sumPassed_21 : decode cX8_sumPassed 21 = .ok (.iload_n 2, 1) := by decide +kernel
theorem dX8_sumPassed_22 : decode cX8_sumPassed 22 = .ok (.idiv, 1) := by decide +kernel
theorem dX8_sumPassed_23 : decode cX8_sumPassed 23 = .ok (.iconst 2, 1) := by decide +kernel
theorem dX8_sumPassed_24 : decode cX8_sumPassed 24 = .ok (.idiv, 1) := by decide +kernel
theorem dX8_sumPassed_25 : decode cX8_sumPassed 25 = .ok (.invokestatic 245, 3) := by decide +kernel
theorem dX8_sumPassed_28 : decode cX8_sumPassed 28 = .ok (.imul, 1) := by decide +kernel
theorem dX8_sumPassed_29 : decode cX8_sumPassed 29 = .ok (.ireturn, 1) := by decide +kernel
theorem dX8_sumPassed_30 : decode cX8_sumPassed 30 = .ok (.iload_n 2, 1) := by decide +kernel
theorem dX8_sumPassed_31 : decode cX8_sumPassed 31 = .ok (.ireturn, 1) := by decide +kernel
set_option maxRecDepth 20000 in
theorem ggX8_heldAfter_X8_sumPassed : GoodIn wsX8_heldAfter wsX8_sumPassed := goodIn_r _ [12, 13, 14, 3, 15] (by decide +kernel) (by decide +kernel)
set_option maxRecDepth 20000 in
theorem gX8_heldAfter_X8_sumPassed : GoodIn wsX8_heldAfter (va_wsS RX8 253 yX8_sumPassed wsX8_sumPassed) := goodIn_app (goodIn_of _ (by decide +kernel)) ggX8_heldAfter_X8_sumPassed
theorem dX8_heldAfter_0 : decode cX8_heldAfter 0 = .ok (.iload_n 1, 1) := by decide +kernel
theorem dX8_heldAfter_1 : decode cX8_heldAfter 1 = .ok (.iload_n 2, 1) := by decide +kernel
theorem dX8_heldAfter_2 : decode cX8_heldAfter 2 = .ok (.if_icmp .eq 7, 3) := by decide +kernel
theorem dX8_heldAfter_5 : decode cX8_heldAfter 5 = .ok (.iload_n 3, 1) := by decide +kernel
theorem dX8_heldAfter_6 : decode cX8_heldAfter 6 = .ok (.ifCond .ne 5, 3) := by decide +kernel
theorem dX8_heldAfter_9 : decode cX8_heldAfter 9 = .ok (.iload_n 1, 1) := by decide +kernel
theorem dX8_heldAfter_10 : decode cX8_heldAfter 10 = .ok (.ireturn, 1) := by decide +kernel
theorem dX8_heldAfter_11 : decode cX8_heldAfter 11 = .ok (.iload 4, 2) := by decide +kernel
theorem dX8_heldAfter_13 : decode cX8_heldAfter 13 = .ok (.iload_n 0, 1) := by decide +kernel
theorem dX8_heldAfter_14 : decode cX8_heldAfter 14 = .ok (.iload_n 1, 1) := by decide +kernel
theorem dX8_heldAfter_15 : decode cX8_heldAfter 15 = .ok (.iload_n 2, 1) := by decide +kernel
theorem dX8_heldAfter_16 : decode cX8_heldAfter 16 = .ok (.isub, 1) := by decide +kernel
theorem dX8_heldAfter_17 : decode cX8_heldAfter 17 = .ok (.invokestatic 250, 3) := by decide +kernel
theorem dX8_heldAfter_20 : decode cX8_heldAfter 20 = .ok (.iload_n 3, 1) := by decide +kernel
theorem dX8_heldAfter_21 : decode cX8_heldAfter 21 = .ok (.invokestatic 253, 3) := by decide +kernel
theorem dX8_heldAfter_24 : decode cX8_heldAfter 24 = .ok (.imul, 1) := by decide +kernel
theorem dX8_heldAfter_25 : decode cX8_heldAfter 25 = .ok (.istore 5, 2) := by decide +kernel
theorem dX8_heldAfter_27 : decode cX8_heldAfter 27 = .ok (.iload_n 1, 1) := by decide +kernel
theorem dX8_heldAfter_28 : decode cX8_heldAfter 28 = .ok (.iload_n 2, 1) := by decide +kernel
theorem dX8_heldAfter_29 : decode cX8_heldAfter 29 = .ok (.if_icmp .le 7, 3) := by decide +kernel
theorem dX8_heldAfter_32 : decode cX8_heldAfter 32 = .ok (.iconst 1, 1) := by decide +kernel
theorem dX8_heldAfter_33 : decode cX8_heldAfter 33 = .ok (.goto 4, 3) := by decide +kernel
theorem dX8_heldAfter_36 : decode cX8_heldAfter 36 = .ok (.iconst 0, 1) := by decide +kernel
theorem dX8_heldAfter_37 : decode cX8_heldAfter 37 = .ok (.iload_n 0, 1) := by decide +kernel
theorem dX8_heldAfter_38 : decode cX8_heldAfter 38 = .ok (.iconst 1, 1) := by decide +kernel
theorem dX8_heldAfter_39 : decode cX8_heldAfter 39 = .ok (.if_icmp .ne 7, 3) := by decide +kernel
theorem dX8_heldAfter_42 : decode cX8_heldAfter 42 = .ok (.iconst 1, 1) := by decide +kernel
theorem dX8_heldAfter_43 : decode cX8_heldAfter 43 = .ok (.goto 4, 3) := by decide +kernel
theorem dX8_heldAfter_46 : decode cX8_heldAfter 46 = .ok (.iconst 0, 1) := by decide +kernel
theorem dX8_heldAfter_47 : decode cX8_heldAfter 47 = .ok (.if_icmp .ne 7, 3) := by decide +kernel
theorem dX8_heldAfter_50 : decode cX8_heldAfter 50 = .ok (.iconst 1, 1) := by decide +kernel
theorem dX8_heldAfter_51 : decode cX8_heldAfter 51 = .ok (.goto 4, 3) := by decide +kernel
theorem dX8_heldAfter_54 : decode cX8_heldAfter 54 = .ok (.iconst 0, 1) := by decide +kernel
theorem dX8_heldAfter_55 : decode cX8_heldAfter 55 = .ok (.istore 6, 2) := by decide +kernel
theorem dX8_heldAfter_57 : decode cX8_heldAfter 57 = .ok (.iload 6, 2) := by decide +kernel
theorem dX8_heldAfter_59 : decode cX8_heldAfter 59 = .ok (.ifCond .eq 15, 3) := by decide +kernel
theorem dX8_heldAfter_62 : decode cX8_heldAfter 62 = .ok (.ldc 198, 2) := by decide +kernel
theorem dX8_heldAfter_64 : decode cX8_heldAfter 64 = .ok (.iload_n 1, 1) := by decide +kernel
theorem dX8_heldAfter_65 : decode cX8_heldAfter 65 = .ok (.iload 5, 2) := by decide +kernel
theorem dX8_heldAfter_67 : decode cX8_heldAfter 67 = .ok (.iadd, 1) := by decide +kernel
theorem dX8_heldAfter_68 : decode cX8_heldAfter 68 = .ok (.invokestatic 257, 3) := by decide +kernel
theorem dX8_heldAfter_71 : decode cX8_heldAfter 71 = .ok (.goto 7, 3) := by decide +kernel
theorem dX8_heldAfter_74 : decode cX8_heldAfter 74 = .ok (.iload_n 1, 1) := by decide +kernel
theorem dX8_heldAfter_75 : decode cX8_heldAfter 75 = .ok (.iload 5, 2) := by decide +kernel
theorem dX8_heldAfter_77 : decode cX8_heldAfter 77 = .ok (.isub, 1) := by decide +kernel
theorem dX8_heldAfter_78 : decode cX8_heldAfter 78 = .ok (.ireturn, 1) := by decide +kernel
set_option maxRecDepth 20000 in
theorem ggX8_heldAfterOne_X8_sharedBy : GoodIn wsX8_heldAfterOne wsX8_sharedBy := goodIn_r _ [4, 5, 6, 3, 7, 8] (by decide +kernel) (by decide +kernel)
set_option maxRecDepth 20000 in
theorem gX8_heldAfterOne_X8_sharedBy : GoodIn wsX8_heldAfterOne (va_wsS RX8 134 yX8_sharedBy wsX8_sharedBy) := goodIn_app (goodIn_of _ (by decide +kernel)) ggX8_heldAfterOne_X8_sharedBy
set_option maxRecDepth 20000 in
theorem ggX8_heldAfterOne_X8_heldAfter : GoodIn wsX8_heldAfterOne wsX8_heldAfter := goodIn_r _ [11, 12, 13, 14, 15, 16, 17, 18, 19, 20, 21, 3, 22, 23, 24, 25] (by decide +kernel) (by decide +kernel)
set_option maxRecDepth 20000 in
theorem gX8_heldAfterOne_X8_heldAfter : GoodIn wsX8_heldAfterOne (va_wsS RX8 260 yX8_heldAfter wsX8_heldAfter) := goodIn_app (goodIn_of _ (by decide +kernel)) ggX8_heldAfterOne_X8_heldAfter
theorem dX8_heldAfterOne_0 : decode cX8_heldAfterOne 0 = .ok (.iload_n 0, 1) := by decide +kernel
theorem dX8_heldAfterOne_1 : decode cX8_heldAfterOne 1 = .ok (.iload_n 1, 1) := by decide +kernel
theorem dX8_heldAfterOne_2 : decode cX8_heldAfterOne 2 = .ok (.iload_n 2, 1) := by decide +kernel
theorem dX8_heldAfterOne_3 : decode cX8_heldAfterOne 3 = .ok (.iload_n 1, 1) := by decide +kernel
theorem dX8_heldAfterOne_4 : decode cX8_heldAfterOne 4 = .ok (.iload_n 2, 1) := by decide +kernel
theorem dX8_heldAfterOne_5 : decode cX8_heldAfterOne 5 = .ok (.invokestatic 134, 3) := by decide +kernel
theorem dX8_heldAfterOne_8 : decode cX8_heldAfterOne 8 = .ok (.iconst 1, 1) := by decide +kernel
theorem dX8_heldAfterOne_9 : decode cX8_heldAfterOne 9 = .ok (.invokestatic 260, 3) := by decide +kernel
theorem dX8_heldAfterOne_12 : decode cX8_heldAfterOne 12 = .ok (.ireturn, 1) := by decide +kernel
set_option maxRecDepth 20000 in
theorem ggX8_makeMeeting_X8_sharedBy : GoodIn wsX8_makeMeeting wsX8_sharedBy := goodIn_r _ [4, 5, 6, 3, 7, 8] (by decide +kernel) (by decide +kernel)
set_option maxRecDepth 20000 in
theorem gX8_makeMeeting_X8_sharedBy : GoodIn wsX8_makeMeeting (va_wsS RX8 134 yX8_sharedBy wsX8_sharedBy) := goodIn_app (goodIn_of _ (by decide +kernel)) ggX8_makeMeeting_X8_sharedBy
set_option maxRecDepth 20000 in
theorem ggX8_makeMeeting_X8_heldAfter : GoodIn wsX8_makeMeeting wsX8_heldAfter := goodIn_r _ [11, 12, 13, 14, 15, 16, 17, 18, 19, 20, 21, 3, 22, 23, 24, 25] (by decide +kernel) (by decide +kernel)
set_option maxRecDepth 20000 in
theorem gX8_makeMeeting_X8_heldAfter : GoodIn wsX8_makeMeeting (va_wsS RX8 260 yX8_heldAfter wsX8_heldAfter) := goodIn_app (goodIn_of _ (by decide +kernel)) ggX8_makeMeeting_X8_heldAfter
theorem dX8_makeMeeting_0 : decode cX8_makeMeeting 0 = .ok (.aload_n 0, 1) := by decide +kernel
theorem dX8_makeMeeting_1 : decode cX8_makeMeeting 1 = .ok (.iload_n 2, 1) := by decide +kernel
theorem dX8_makeMeeting_2 : decode cX8_makeMeeting 2 = .ok (.iaload, 1) := by decide +kernel
theorem dX8_makeMeeting_3 : decode cX8_makeMeeting 3 = .ok (.istore 4, 2) := by decide +kernel
theorem dX8_makeMeeting_5 : decode cX8_makeMeeting 5 = .ok (.aload_n 0, 1) := by decide +kernel
theorem dX8_makeMeeting_6 : decode cX8_makeMeeting 6 = .ok (.iload_n 3, 1) := by decide +kernel
theorem dX8_makeMeeting_7 : decode cX8_makeMeeting 7 = .ok (.iaload, 1) := by decide +kernel
theorem dX8_makeMeeting_8 : decode cX8_makeMeeting 8 = .ok (.istore 5, 2) := by decide +kernel
theorem dX8_makeMeeting_10 : decode cX8_makeMeeting 10 = .ok (.iload 4, 2) := by decide +kernel
theorem dX8_makeMeeting_12 : decode cX8_makeMeeting 12 = .ok (.iload 5, 2) := by decide +kernel
theorem dX8_makeMeeting_14 : decode cX8_makeMeeting 14 = .ok (.invokestatic 134, 3) := by decide +kernel
theorem dX8_makeMeeting_17 : decode cX8_makeMeeting 17 = .ok (.istore 6, 2) := by decide +kernel
theorem dX8_makeMeeting_19 : decode cX8_makeMeeting 19 = .ok (.aload_n 0, 1) := by decide +kernel
theorem dX8_makeMeeting_20 : decode cX8_makeMeeting 20 = .ok (.iload_n 2, 1) := by decide +kernel
theorem dX8_makeMeeting_21 : decode cX8_makeMeeting 21 = .ok (.iload_n 1, 1) := by decide +kernel
theorem dX8_makeMeeting_22 : decode cX8_makeMeeting 22 = .ok (.iload 4, 2) := by decide +kernel
theorem dX8_makeMeeting_24 : decode cX8_makeMeeting 24 = .ok (.iload 5, 2) := by decide +kernel
theorem dX8_makeMeeting_26 : decode cX8_makeMeeting 26 = .ok (.iload 6, 2) := by decide +kernel
theorem dX8_makeMeeting_28 : decode cX8_makeMeeting 28 = .ok (.iconst 1, 1) := by decide +kernel
theorem dX8_makeMeeting_29 : decode cX8_makeMeeting 29 = .ok (.invokestatic 260, 3) := by decide +kernel
theorem dX8_makeMeeting_32 : decode cX8_makeMeeting 32 = .ok (.iastore, 1) := by decide +kernel
theorem dX8_makeMeeting_33 : decode cX8_makeMeeting 33 = .ok (.aload_n 0, 1) := by decide +kernel
theorem dX8_makeMeeting_34 : decode cX8_makeMeeting 34 = .ok (.iload_n 3, 1) := by decide +kernel
theorem dX8_makeMeeting_35 : decode cX8_makeMeeting 35 = .ok (.iload_n 1, 1) := by decide +kernel
theorem dX8_makeMeeting_36 : decode cX8_makeMeeting 36 = .ok (.iload 5, 2) := by decide +kernel
theorem dX8_makeMeeting_38 : decode cX8_makeMeeting 38 = .ok (.iload 4, 2) := by decide +kernel
theorem dX8_makeMeeting_40 : decode cX8_makeMeeting 40 = .ok (.iload 6, 2) := by decide +kernel
theorem dX8_makeMeeting_42 : decode cX8_makeMeeting 42 = .ok (.iconst 1, 1) := by decide +kernel
theorem dX8_makeMeeting_43 : decode cX8_makeMeeting 43 = .ok (.invokestatic 260, 3) := by decide +kernel
theorem dX8_makeMeeting_46 : decode cX8_makeMeeting 46 = .ok (.iastore, 1) := by decide +kernel
theorem dX8_makeMeeting_47 : decode cX8_makeMeeting 47 = .ok (.aload_n 0, 1) := by decide +kernel
theorem dX8_makeMeeting_48 : decode cX8_makeMeeting 48 = .ok (.iload_n 2, 1) := by decide +kernel
theorem dX8_makeMeeting_49 : decode cX8_makeMeeting 49 = .ok (.iaload, 1) := by decide +kernel
theorem dX8_makeMeeting_50 : decode cX8_makeMeeting 50 = .ok (.iload 4, 2) := by decide +kernel
theorem dX8_makeMeeting_52 : decode cX8_makeMeeting 52 = .ok (.if_icmp .ne 11, 3) := by decide +kernel
theorem dX8_makeMeeting_55 : decode cX8_makeMeeting 55 = .ok (.aload_n 0, 1) := by decide +kernel
theorem dX8_makeMeeting_56 : decode cX8_makeMeeting 56 = .ok (.iload_n 3, 1) := by decide +kernel
theorem dX8_makeMeeting_57 : decode cX8_makeMeeting 57 = .ok (.iaload, 1) := by decide +kernel
theorem dX8_makeMeeting_58 : decode cX8_makeMeeting 58 = .ok (.iload 5, 2) := by decide +kernel
theorem dX8_makeMeeting_60 : decode cX8_makeMeeting 60 = .ok (.if_icmp .eq 7, 3) := by decide +kernel
theorem dX8_makeMeeting_63 : decode cX8_makeMeeting 63 = .ok (.iconst 1, 1) := by decide +kernel
theorem dX8_makeMeeting_64 : decode cX8_makeMeeting 64 = .ok (.goto 4, 3) := by decide +kernel
theorem dX8_makeMeeting_67 : decode cX8_makeMeeting 67 = .ok (.iconst 0, 1) := by decide +kernel
theorem dX8_makeMeeting_68 : decode cX8_makeMeeting 68 = .ok (.ireturn, 1) := by decide +kernel
set_option maxRecDepth 20000 in
theorem ggX8_penniesToShareOne_X8_greatestDivisor : GoodIn wsX8_penniesToShareOne wsX8_greatestDivisor := goodIn_r _ [4, 5] (by decide +kernel) (by decide +kernel)
set_option maxRecDepth 20000 in
theorem gX8_penniesToShareOne_X8_greatestDivisor : GoodIn wsX8_penniesToShareOne (va_wsS RX8 228 yX8_greatestDivisor wsX8_greatestDivisor) := goodIn_app (goodIn_of _ (by decide +kernel)) ggX8_penniesToShareOne_X8_greatestDivisor
theorem dX8_penniesToShareOne_0 : decode cX8_penniesToShareOne 0 = .ok (.iconst 0, 1) := by decide +kernel
theorem dX8_penniesToShareOne_1 : decode cX8_penniesToShareOne 1 = .ok (.istore_n 2, 1) := by decide +kernel
theorem dX8_penniesToShareOne_2 : decode cX8_penniesToShareOne 2 = .ok (.iload_n 2, 1) := by decide +kernel
theorem dX8_penniesToShareOne_3 : decode cX8_penniesToShareOne 3 = .ok (.iload_n 0, 1) := by decide +kernel
theorem dX8_penniesToShareOne_4 : decode cX8_penniesToShareOne 4 = .ok (.iload_n 1, 1) := by decide +kernel
theorem dX8_penniesToShareOne_5 : decode cX8_penniesToShareOne 5 = .ok (.isub, 1) := by decide +kernel
theorem dX8_penniesToShareOne_6 : decode cX8_penniesToShareOne 6 = .ok (.if_icmp .ge 20, 3) := by decide +kernel
theorem dX8_penniesToShareOne_9 : decode cX8_penniesToShareOne 9 = .ok (.iload_n 0, 1) := by decide +kernel
theorem dX8_penniesToShareOne_10 : decode cX8_penniesToShareOne 10 = .ok (.iload_n 2, 1) := by decide +kernel
theorem dX8_penniesToShareOne_11 : decode cX8_penniesToShareOne 11 = .ok (.isub, 1) := by decide +kernel
theorem dX8_penniesToShareOne_12 : decode cX8_penniesToShareOne 12 = .ok (.iload_n 1, 1) := by decide +kernel
theorem dX8_penniesToShareOne_13 : decode cX8_penniesToShareOne 13 = .ok (.invokestatic 228, 3) := by decide +kernel
theorem dX8_penniesToShareOne_16 : decode cX8_penniesToShareOne 16 = .ok (.iconst 1, 1) := by decide +kernel
theorem dX8_penniesToShareOne_17 : decode cX8_penniesToShareOne 17 = .ok (.if_icmp .le 9, 3) := by decide +kernel
theorem dX8_penniesToShareOne_20 : decode cX8_penniesToShareOne 20 = .ok (.iinc 2 1, 3) := by decide +kernel
theorem dX8_penniesToShareOne_23 : decode cX8_penniesToShareOne 23 = .ok (.goto (-21), 3) := by decide +kernel
theorem dX8_penniesToShareOne_26 : decode cX8_penniesToShareOne 26 = .ok (.iload_n 2, 1) := by decide +kernel
theorem dX8_penniesToShareOne_27 : decode cX8_penniesToShareOne 27 = .ok (.ireturn, 1) := by decide +kernel
theorem dX9_init_0 : decode cX9_init 0 = .ok (.aload_n 0, 1) := by decide +kernel
theorem dX9_init_1 : decode cX9_init 1 = .ok (.invokespecial 1, 3) := by decide +kernel
theorem dX9_init_4 : decode cX9_init 4 = .ok (.aload_n 0, 1) := by decide +kernel
theorem dX9_init_5 : decode cX9_init 5 = .ok (.bipush 8, 2) := by decide +kernel
theorem dX9_init_7 : decode cX9_init 7 = .ok (.newarray .int, 2) := by decide +kernel
theorem dX9_init_9 : decode cX9_init 9 = .ok (.putfield 7, 3) := by decide +kernel
theorem dX9_init_12 : decode cX9_init 12 = .ok (.aload_n 0, 1) := by decide +kernel
theorem dX9_init_13 : decode cX9_init 13 = .ok (.bipush 32, 2) := by decide +kernel
theorem dX9_init_15 : decode cX9_init 15 = .ok (.newarray .int, 2) := by decide +kernel
theorem dX9_init_17 : decode cX9_init 17 = .ok (.putfield 13, 3) := by decide +kernel
theorem dX9_init_20 : decode cX9_init 20 = .ok (.aload_n 0, 1) := by decide +kernel
theorem dX9_init_21 : decode cX9_init 21 = .ok (.bipush 8, 2) := by decide +kernel
theorem dX9_init_23 : decode cX9_init 23 = .ok (.newarray .int, 2) := by decide +kernel
theorem dX9_init_25 : decode cX9_init 25 = .ok (.putfield 16, 3) := by decide +kernel
theorem dX9_init_28 : decode cX9_init 28 = .ok (.aload_n 0, 1) := by decide +kernel
theorem dX9_init_29 : decode cX9_init 29 = .ok (.bipush 32, 2) := by decide +kernel
theorem dX9_init_31 : decode cX9_init 31 = .ok (.newarray .int, 2) := by decide +kernel
theorem dX9_init_33 : decode cX9_init 33 = .ok (.putfield 19, 3) := by decide +kernel
theorem dX9_init_36 : decode cX9_init 36 = .ok (.aload_n 0, 1) := by decide +kernel
theorem dX9_init_37 : decode cX9_init 37 = .ok (.bipush 96, 2) := by decide +kernel
theorem dX9_init_39 : decode cX9_init 39 = .ok (.newarray .int, 2) := by decide +kernel
theorem dX9_init_41 : decode cX9_init 41 = .ok (.putfield 22, 3) := by decide +kernel
theorem dX9_init_44 : decode cX9_init 44 = .ok (.aload_n 0, 1) := by decide +kernel
theorem dX9_init_45 : decode cX9_init 45 = .ok (.sipush 128, 3) := by decide +kernel
theorem dX9_init_48 : decode cX9_init 48 = .ok (.newarray .int, 2) := by decide +kernel
theorem dX9_init_50 : decode cX9_init 50 = .ok (.putfield 25, 3) := by decide +kernel
theorem dX9_init_53 : decode cX9_init 53 = .ok (.aload_n 0, 1) := by decide +kernel
theorem dX9_init_54 : decode cX9_init 54 = .ok (.bipush 8, 2) := by decide +kernel
theorem dX9_init_56 : decode cX9_init 56 = .ok (.newarray .int, 2) := by decide +kernel
theorem dX9_init_58 : decode cX9_init 58 = .ok (.putfield 28, 3) := by decide +kernel
theorem dX9_init_61 : decode cX9_init 61 = .ok (.aload_n 0, 1) := by decide +kernel
theorem dX9_init_62 : decode cX9_init 62 = .ok (.sipush 2408, 3) := by decide +kernel
theorem dX9_init_65 : decode cX9_init 65 = .ok (.newarray .int, 2) := by decide +kernel
theorem dX9_init_67 : decode cX9_init 67 = .ok (.putfield 31, 3) := by decide +kernel
theorem dX9_init_70 : decode cX9_init 70 = .ok (.aload_n 0, 1) := by decide +kernel
theorem dX9_init_71 : decode cX9_init 71 = .ok (.bipush 8, 2) := by decide +kernel
theorem dX9_init_73 : decode cX9_init 73 = .ok (.newarray .int, 2) := by decide +kernel
theorem dX9_init_75 : decode cX9_init 75 = .ok (.putfield 34, 3) := by decide +kernel
theorem dX9_init_78 : decode cX9_init 78 = .ok (.aload_n 0, 1) := by decide +kernel
theorem dX9_init_79 : decode cX9_init 79 = .ok (.bipush 8, 2) := by decide +kernel
theorem dX9_init_81 : decode cX9_init 81 = .ok (.newarray .int, 2) := by decide +kernel
theorem dX9_init_83 : decode cX9_init 83 = .ok (.putfield 37, 3) := by decide +kernel
theorem dX9_init_86 : decode cX9_init 86 = .ok (.aload_n 0, 1) := by decide +kernel
theorem dX9_init_87 : decode cX9_init 87 = .ok (.bipush 8, 2) := by decide +kernel
theorem dX9_init_89 : decode cX9_init 89 = .ok (.newarray .int, 2) := by decide +kernel
theorem dX9_init_91 : decode cX9_init 91 = .ok (.putfield 40, 3) := by decide +kernel
theorem dX9_init_94 : decode cX9_init 94 = .ok (.aload_n 0, 1) := by decide +kernel
theorem dX9_init_95 : decode cX9_init 95 = .ok (.bipush 8, 2) := by decide +kernel
theorem dX9_init_97 : decode cX9_init 97 = .ok (.newarray .int, 2) := by decide +kernel
theorem dX9_init_99 : decode cX9_init 99 = .ok (.putfield 43, 3) := by decide +kernel
theorem dX9_init_102 : decode cX9_init 102 = .ok (.aload_n 0, 1) := by decide +kernel
theorem dX9_init_103 : decode cX9_init 103 = .ok (.iconst 2, 1) := by decide +kernel
theorem dX9_init_104 : decode cX9_init 104 = .ok (.newarray .boolean, 2) := by decide +kernel
theorem dX9_init_106 : decode cX9_init 106 = .ok (.putfield 46, 3) := by decide +kernel
theorem dX9_init_109 : decode cX9_init 109 = .ok (.aload_n 0, 1) := by decide +kernel
theorem dX9_init_110 : decode cX9_init 110 = .ok (.bipush 16, 2) := by decide +kernel
theorem dX9_init_112 : decode cX9_init 112 = .ok (.newarray .int, 2) := by decide +kernel
theorem dX9_init_114 : decode cX9_init 114 = .ok (.putfield 50, 3) := by decide +kernel
theorem dX9_init_117 : decode cX9_init 117 = .ok (.aload_n 0, 1) := by decide +kernel
theorem dX9_init_118 : decode cX9_init 118 = .ok (.sipush 256, 3) := by decide +kernel
theorem dX9_init_121 : decode cX9_init 121 = .ok (.newarray .int, 2) := by decide +kernel
theorem dX9_init_123 : decode cX9_init 123 = .ok (.putfield 53, 3) := by decide +kernel
theorem dX9_init_126 : decode cX9_init 126 = .ok (.aload_n 0, 1) := by decide +kernel
theorem dX9_init_127 : decode cX9_init 127 = .ok (.bipush 16, 2) := by decide +kernel
theorem dX9_init_129 : decode cX9_init 129 = .ok (.newarray .int, 2) := by decide +kernel
theorem dX9_init_131 : decode cX9_init 131 = .ok (.putfield 56, 3) := by decide +kernel
theorem dX9_init_134 : decode cX9_init 134 = .ok (.aload_n 0, 1) := by decide +kernel
theorem dX9_init_135 : decode cX9_init 135 = .ok (.bipush 16, 2) := by decide +kernel
theorem dX9_init_137 : decode cX9_init 137 = .ok (.newarray .int, 2) := by decide +kernel
theorem dX9_init_139 : decode cX9_init 139 = .ok (.putfield 59, 3) := by decide +kernel
theorem dX9_init_142 : decode cX9_init 142 = .ok (.aload_n 0, 1) := by decide +kernel
theorem dX9_init_143 : decode cX9_init 143 = .ok (.bipush 6, 2) := by decide +kernel
theorem dX9_init_145 : decode cX9_init 145 = .ok (.newarray .int, 2) := by decide +kernel
theorem dX9_init_147 : decode cX9_init 147 = .ok (.putfield 62, 3) := by decide +kernel
theorem dX9_init_150 : decode cX9_init 150 = .ok (.aload_n 0, 1) := by decide +kernel
theorem dX9_init_151 : decode cX9_init 151 = .ok (.iconst 2, 1) := by decide +kernel
theorem dX9_init_152 : decode cX9_init 152 = .ok (.putfield 65, 3) := by decide +kernel
theorem dX9_init_155 : decode cX9_init 155 = .ok (.return_, 1) := by decide +kernel
theorem dX9_in_0 : decode cX9_in 0 = .ok (.lload_n 0, 1) := by decide +kernel
theorem dX9_in_1 : decode cX9_in 1 = .ok (.lload_n 2, 1) := by decide +kernel
theorem dX9_in_2 : decode cX9_in 2 = .ok (.lcmp, 1) := by decide +kernel
theorem dX9_in_3 : decode cX9_in 3 = .ok (.ifCond .lt 14, 3) := by decide +kernel
theorem dX9_in_6 : decode cX9_in 6 = .ok (.lload_n 0, 1) := by decide +kernel
theorem dX9_in_7 : decode cX9_in 7 = .ok (.lload 4, 2) := by decide +kernel
theorem dX9_in_9 : decode cX9_in 9 = .ok (.lcmp, 1) := by decide +kernel
theorem dX9_in_10 : decode cX9_in 10 = .ok (.ifCond .gt 7, 3) := by decide +kernel
theorem dX9_in_13 : decode cX9_in 13 = .ok (.iconst 1, 1) := by decide +kernel
theorem dX9_in_14 : decode cX9_in 14 = .ok (.goto 4, 3) := by decide +kernel
theorem dX9_in_17 : decode cX9_in 17 = .ok (.iconst 0, 1) := by decide +kernel
theorem dX9_in_18 : decode cX9_in 18 = .ok (.ireturn, 1) := by decide +kernel
set_option maxRecDepth 20000 in
theorem ggX9_write_X9_in : GoodIn wsX9_write wsX9_in := goodIn_r _ [8] (by decide +kernel) (by decide +kernel)
set_option maxRecDepth 20000 in
theorem gX9_write_X9_in : GoodIn wsX9_write (va_wsS RX9 71 yX9_in wsX9_in) := goodIn_app (goodIn_of _ (by decide +kernel)) ggX9_write_X9_in
theorem dX9_write_0 : decode cX9_write 0 = .ok (.iload_n 1, 1) := by decide +kernel
theorem dX9_write_1 : decode cX9_write 1 = .ok (.i2l, 1) := by decide +kernel
theorem dX9_write_2 : decode cX9_write 2 = .ok (.lconst 1, 1) := by decide +kernel
theorem dX9_write_3 : decode cX9_write 3 = .ok (.ldc2_w 69, 3) := by decide +kernel
theorem dX9_write_6 : decode cX9_write 6 = .ok (.invokestatic 71, 3) := by decide +kernel
theorem dX9_write_9 : decode cX9_write 9 = .ok (.ifCond .ne 6, 3) := by decide +kernel
theorem dX9_write_12 : decode cX9_write 12 = .ok (.bipush (-2), 2) := by decide +kernel
theorem dX9_write_14 : decode cX9_write 14 = .ok (.ireturn, 1) := by decide +kernel
theorem dX9_write_15 : decode cX9_write 15 = .ok (.aload_n 0, 1) := by decide +kernel
theorem dX9_write_16 : decode cX9_write 16 = .ok (.getfield 75, 3) := by decide +kernel
theorem dX9_write_19 : decode cX9_write 19 = .ok (.iload_n 1, 1) := by decide +kernel
theorem dX9_write_20 : decode cX9_write 20 = .ok (.iadd, 1) := by decide +kernel
theorem dX9_write_21 : decode cX9_write 21 = .ok (.bipush 96, 2) := by decide +kernel
theorem dX9_write_23 : decode cX9_write 23 = .ok (.if_icmp .le 6, 3) := by decide +kernel
theorem dX9_write_26 : decode cX9_write 26 = .ok (.bipush (-4), 2) := by decide +kernel
theorem dX9_write_28 : decode cX9_write 28 = .ok (.ireturn, 1) := by decide +kernel
theorem dX9_write_29 : decode cX9_write 29 = .ok (.iload_n 1, 1) := by decide +kernel
theorem dX9_write_30 : decode cX9_write 30 = .ok (.iconst 1, 1) := by decide +kernel
theorem dX9_write_31 : decode cX9_write 31 = .ok (.isub, 1) := by decide +kernel
theorem dX9_write_32 : decode cX9_write 32 = .ok (.istore 4, 2) := by decide +kernel
theorem dX9_write_34 : decode cX9_write 34 = .ok (.iload 4, 2) := by decide +kernel
theorem dX9_write_36 : decode cX9_write 36 = .ok (.ifCond .lt 40, 3) := by decide +kernel
theorem dX9_write_39 : decode cX9_write 39 = .ok (.aload_n 0, 1) := by decide +kernel
theorem dX9_write_40 : decode cX9_write 40 = .ok (.getfield 22, 3) := by decide +kernel
theorem dX9_write_43 : decode cX9_write 43 = .ok (.aload_n 0, 1) := by decide +kernel
theorem dX9_write_44 : decode cX9_write 44 = .ok (.getfield 75, 3) := by decide +kernel
theorem dX9_write_47 : decode cX9_write 47 = .ok (.lload_n 2, 1) := by decide +kernel
theorem dX9_write_48 : decode cX9_write 48 = .ok (.bipush 8, 2) := by decide +kernel
theorem dX9_write_50 : decode cX9_write 50 = .ok (.iload 4, 2) := by decide +kernel
theorem dX9_write_52 : decode cX9_write 52 = .ok (.imul, 1) := by decide +kernel
theorem dX9_write_53 : decode cX9_write 53 = .ok (.lshr, 1) := by decide +kernel
theorem dX9_write_54 : decode cX9_write 54 = .ok (.ldc2_w 78, 3) := by decide +kernel
theorem dX9_write_57 : decode cX9_write 57 = .ok (.land, 1) := by decide +kernel
theorem dX9_write_58 : decode cX9_write 58 = .ok (.l2i, 1) := by decide +kernel
theorem dX9_write_59 : decode cX9_write 59 = .ok (.iastore, 1) := by decide +kernel
theorem dX9_write_60 : decode cX9_write 60 = .ok (.aload_n 0, 1) := by decide +kernel
theorem dX9_write_61 : decode cX9_write 61 = .ok (.dup, 1) := by decide +kernel
theorem dX9_write_62 : decode cX9_write 62 = .ok (.getfield 75, 3) := by decide +kernel
theorem dX9_write_65 : decode cX9_write 65 = .ok (.iconst 1, 1) := by decide +kernel
theorem dX9_write_66 : decode cX9_write 66 = .ok (.iadd, 1) := by decide +kernel
theorem dX9_write_67 : decode cX9_write 67 = .ok (.putfield 75, 3) := by decide +kernel
theorem dX9_write_70 : decode cX9_write 70 = .ok (.iinc 4 (-1), 3) := by decide +kernel
theorem dX9_write_73 : decode cX9_write 73 = .ok (.goto (-39), 3) := by decide +kernel
theorem dX9_write_76 : decode cX9_write 76 = .ok (.aload_n 0, 1) := by decide +kernel
theorem dX9_write_77 : decode cX9_write 77 = .ok (.getfield 75, 3) := by decide +kernel
theorem dX9_write_80 : decode cX9_write 80 = .ok (.ireturn, 1) := by decide +kernel
theorem dX9_wipe_0 : decode cX9_wipe 0 = .ok (.aload_n 0, 1) := by decide +kernel
theorem dX9_wipe_1 : decode cX9_wipe 1 = .ok (.getfield 75, 3) := by decide +kernel
theorem dX9_wipe_4 : decode cX9_wipe 4 = .ok (.istore_n 1, 1) := by decide +kernel
theorem dX9_wipe_5 : decode cX9_wipe 5 = .ok (.aload_n 0, 1) := by decide +kernel
theorem dX9_wipe_6 : decode cX9_wipe 6 = .ok (.iconst 0, 1) := by decide +kernel
theorem dX9_wipe_7 : decode cX9_wipe 7 = .ok (.putfield 75, 3) := by decide +kernel
theorem dX9_wipe_10 : decode cX9_wipe 10 = .ok (.iload_n 1, 1) := by decide +kernel
theorem dX9_wipe_11 : decode cX9_wipe 11 = .ok (.ireturn, 1) := by decide +kernel
set_option maxRecDepth 20000 in
theorem ggX9_figure_X9_in : GoodIn wsX9_figure wsX9_in := goodIn_r _ [8] (by decide +kernel) (by decide +kernel)
set_option maxRecDepth 20000 in
theorem gX9_figure_X9_in : GoodIn wsX9_figure (va_wsS RX9 71 yX9_in wsX9_in) := goodIn_app (goodIn_of _ (by decide +kernel)) ggX9_figure_X9_in
theorem dX9_figure_0 : decode cX9_figure 0 = .ok (.aload_n 0, 1) := by decide +kernel
theorem dX9_figure_1 : decode cX9_figure 1 = .ok (.getfield 80, 3) := by decide +kernel
theorem dX9_figure_4 : decode cX9_figure 4 = .ok (.bipush (-9), 2) := by decide +kernel
theorem dX9_figure_6 : decode cX9_figure 6 = .ok (.if_icmp .ne 29, 3) := by decide +kernel
theorem dX9_figure_9 : decode cX9_figure 9 = .ok (.aload_n 0, 1) := by decide +kernel
theorem dX9_figure_10 : decode cX9_figure 10 = .ok (.getfield 83, 3) := by decide +kernel
theorem dX9_figure_13 : decode cX9_figure 13 = .ok (.aload_n 0, 1) := by decide +kernel
theorem dX9_figure_14 : decode cX9_figure 14 = .ok (.getfield 75, 3) := by decide +kernel
theorem dX9_figure_17 : decode cX9_figure 17 = .ok (.if_icmp .ge 18, 3) := by decide +kernel
theorem dX9_figure_20 : decode cX9_figure 20 = .ok (.aload_n 0, 1) := by decide +kernel
theorem dX9_figure_21 : decode cX9_figure 21 = .ok (.getfield 22, 3) := by decide +kernel
theorem dX9_figure_24 : decode cX9_figure 24 = .ok (.aload_n 0, 1) := by decide +kernel
theorem dX9_figure_25 : decode cX9_figure 25 = .ok (.getfield 83, 3) := by decide +kernel
theorem dX9_figure_28 : decode cX9_figure 28 = .ok (.iaload, 1) := by decide +kernel
theorem dX9_figure_29 : decode cX9_figure 29 = .ok (.bipush 48, 2) := by decide +kernel
theorem dX9_figure_31 : decode cX9_figure 31 = .ok (.isub, 1) := by decide +kernel
theorem dX9_figure_32 : decode cX9_figure 32 = .ok (.goto 4, 3) := by decide +kernel
theorem dX9_figure_35 : decode cX9_figure 35 = .ok (.iconst (-1), 1) := by decide +kernel
theorem dX9_figure_36 : decode cX9_figure 36 = .ok (.istore_n 3, 1) := by decide +kernel
theorem dX9_figure_37 : decode cX9_figure 37 = .ok (.iload_n 3, 1) := by decide +kernel
theorem dX9_figure_38 : decode cX9_figure 38 = .ok (.i2l, 1) := by decide +kernel
theorem dX9_figure_39 : decode cX9_figure 39 = .ok (.lconst 0, 1) := by decide +kernel
theorem dX9_figure_40 : decode cX9_figure 40 = .ok (.iload_n 1, 1) := by decide +kernel
theorem dX9_figure_41 : decode cX9_figure 41 = .ok (.i2l, 1) := by decide +kernel
theorem dX9_figure_42 : decode cX9_figure 42 = .ok (.invokestatic 71, 3) := by decide +kernel
theorem dX9_figure_45 : decode cX9_figure 45 = .ok (.ifCond .eq 8, 3) := by decide +kernel
theorem dX9_figure_48 : decode cX9_figure 48 = .ok (.iload_n 3, 1) := by decide +kernel
theorem dX9_figure_49 : decode cX9_figure 49 = .ok (.iload_n 2, 1) := by decide +kernel
theorem dX9_figure_50 : decode cX9_figure 50 = .ok (.if_icmp .ne 29, 3) := by decide +kernel
theorem dX9_figure_53 : decode cX9_figure 53 = .ok (.aload_n 0, 1) := by decide +kernel
theorem dX9_figure_54 : decode cX9_figure 54 = .ok (.aload_n 0, 1) := by decide +kernel
theorem dX9_figure_55 : decode cX9_figure 55 = .ok (.getfield 80, 3) := by decide +kernel
theorem dX9_figure_58 : decode cX9_figure 58 = .ok (.bipush (-9), 2) := by decide +kernel
theorem dX9_figure_60 : decode cX9_figure 60 = .ok (.if_icmp .ne 10, 3) := by decide +kernel
theorem dX9_figure_63 : decode cX9_figure 63 = .ok (.aload_n 0, 1) := by decide +kernel
theorem dX9_figure_64 : decode cX9_figure 64 = .ok (.getfield 83, 3) := by decide +kernel
theorem dX9_figure_67 : decode cX9_figure 67 = .ok (.goto 7, 3) := by decide +kernel
theorem dX9_figure_70 : decode cX9_figure 70 = .ok (.aload_n 0, 1) := by decide +kernel
theorem dX9_figure_71 : decode cX9_figure 71 = .ok (.getfield 80, 3) := by decide +kernel
theorem dX9_figure_74 : decode cX9_figure 74 = .ok (.putfield 80, 3) := by decide +kernel
theorem dX9_figure_77 : decode cX9_figure 77 = .ok (.iconst 0, 1) := by decide +kernel
theorem dX9_figure_78 : decode cX9_figure 78 = .ok (.ireturn, 1) := by decide +kernel
theorem dX9_figure_79 : decode cX9_figure 79 = .ok (.aload_n 0, 1) := by decide +kernel
theorem dX9_figure_80 : decode cX9_figure 80 = .ok (.dup, 1) := by decide +kernel
theorem dX9_figure_81 : decode cX9_figure 81 = .ok (.getfield 83, 3) := by decide +kernel
theorem dX9_figure_84 : decode cX9_figure 84 = .ok (.iconst 1, 1) := by decide +kernel
theorem dX9_figure_85 : decode cX9_figure 85 = .ok (.iadd, 1) := by decide +kernel
theorem dX9_figure_86 : decode cX9_figure 86 = .ok (.putfield 83, 3) := by decide +kernel
theorem dX9_figure_89 : decode cX9_figure 89 = .ok (.iload_n 3, 1) := by decide +kernel
theorem dX9_figure_90 : decode cX9_figure 90 = .ok (.ireturn, 1) := by decide +kernel
set_option maxRecDepth 20000 in
theorem ggX9_readText_X9_figure : GoodIn wsX9_readText wsX9_figure := goodIn_r _ [14, 2, 1, 5, 6, 15, 16, 13, 17, 18, 19, 20, 21, 22, 23, 24, 25, 26, 27, 28, 29, 30, 31, 32, 33, 34, 35, 36, 37, 38, 39, 40, 41, 42, 43, 44, 45, 46, 47, 48, 49, 50] (by decide +kernel) (by decide +kernel)
set_option maxRecDepth 20000 in
theorem gX9_readText_X9_figure : GoodIn wsX9_readText (wsV RX9 92 RX9 yX9_figure wsX9_figure) := goodIn_app (goodIn_of _ (by decide +kernel)) ggX9_readText_X9_figure
theorem dX9_readText_0 : decode cX9_readText 0 = .ok (.aload_n 0, 1) := by decide +kernel
theorem dX9_readText_1 : decode cX9_readText 1 = .ok (.iconst 0, 1) := by decide +kernel
theorem dX9_readText_2 : decode cX9_readText 2 = .ok (.putfield 83, 3) := by decide +kernel
theorem dX9_readText_5 : decode cX9_readText 5 = .ok (.aload_n 0, 1) := by decide +kernel
theorem dX9_readText_6 : decode cX9_readText 6 = .ok (.bipush (-9), 2) := by decide +kernel
theorem dX9_readText_8 : decode cX9_readText 8 = .ok (.putfield 80, 3) := by decide +kernel
theorem dX9_readText_11 : decode cX9_readText 11 = .ok (.aload_n 0, 1) := by decide +kernel
theorem dX9_readText_12 : decode cX9_readText 12 = .ok (.iconst 0, 1) := by decide +kernel
theorem dX9_readText_13 : decode cX9_readText 13 = .ok (.putfield 86, 3) := by decide +kernel
theorem dX9_readText_16 : decode cX9_readText 16 = .ok (.aload_n 0, 1) := by decide +kernel
theorem dX9_readText_17 : decode cX9_readText 17 = .ok (.iconst 0, 1) := by decide +kernel
theorem dX9_readText_18 : decode cX9_readText 18 = .ok (.putfield 89, 3) := by decide +kernel
theorem dX9_readText_21 : decode cX9_readText 21 = .ok (.aload_n 0, 1) := by decide +kernel
theorem dX9_readText_22 : decode cX9_readText 22 = .ok (.getfield 75, 3) := by decide +kernel
theorem dX9_readText_25 : decode cX9_readText 25 = .ok (.ifCond .eq 14, 3) := by decide +kernel
theorem dX9_readText_28 : decode cX9_readText 28 = .ok (.aload_n 0, 1) := by decide +kernel
theorem dX9_readText_29 : decode cX9_readText 29 = .ok (.getfield 22, 3) := by decide +kernel
theorem dX9_readText_32 : decode cX9_readText 32 = .ok (.iconst 0, 1) := by decide +kernel
theorem dX9_readText_33 : decode cX9_readText 33 = .ok (.iaload, 1) := by decide +kernel
theorem dX9_readText_34 : decode cX9_readText 34 = .ok (.bipush 76, 2) := by decide +kernel
theorem dX9_readText_36 : decode cX9_readText 36 = .ok (.if_icmp .eq 5, 3) := by decide +kernel
theorem dX9_readText_39 : decode cX9_readText 39 = .ok (.iconst 0, 1) := by decide +kernel
theorem dX9_readText_40 : decode cX9_readText 40 = .ok (.ireturn, 1) := by decide +kernel
theorem dX9_readText_41 : decode cX9_readText 41 = .ok (.aload_n 0, 1) := by decide +kernel
theorem dX9_readText_42 : decode cX9_readText 42 = .ok (.iconst 1, 1) := by decide +kernel
theorem dX9_readText_43 : decode cX9_readText 43 = .ok (.putfield 83, 3) := by decide +kernel
theorem dX9_readText_46 : decode cX9_readText 46 = .ok (.aload_n 0, 1) := by decide +kernel
theorem dX9_readText_47 : decode cX9_readText 47 = .ok (.aload_n 0, 1) := by decide +kernel
theorem dX9_readText_48 : decode cX9_readText 48 = .ok (.iconst 3, 1) := by decide +kernel
theorem dX9_readText_49 : decode cX9_readText 49 = .ok (.bipush (-9), 2) := by decide +kernel
theorem dX9_readText_51 : decode cX9_readText 51 = .ok (.invokevirtual 92, 3) := by decide +kernel
theorem dX9_readText_54 : decode cX9_readText 54 = .ok (.putfield 96, 3) := by decide +kernel
theorem dX9_readText_57 : decode cX9_readText 57 = .ok (.aload_n 0, 1) := by decide +kernel
theorem dX9_readText_58 : decode cX9_readText 58 = .ok (.getfield 80, 3) := by decide +kernel
theorem dX9_readText_61 : decode cX9_readText 61 = .ok (.bipush (-9), 2) := by decide +kernel
theorem dX9_readText_63 : decode cX9_readText 63 = .ok (.if_icmp .ne 213, 3) := by decide +kernel
theorem dX9_readText_66 : decode cX9_readText 66 = .ok (.aload_n 0, 1) := by decide +kernel
theorem dX9_readText_67 : decode cX9_readText 67 = .ok (.getfield 83, 3) := by decide +kernel
theorem dX9_readText_70 : decode cX9_readText 70 = .ok (.aload_n 0, 1) := by decide +kernel
theorem dX9_readText_71 : decode cX9_readText 71 = .ok (.getfield 75, 3) := by decide +kernel
theorem dX9_readText_74 : decode cX9_readText 74 = .ok (.if_icmp .ge 202, 3) := by decide +kernel
theorem dX9_readText_77 : decode cX9_readText 77 = .ok (.aload_n 0, 1) := by decide +kernel
theorem dX9_readText_78 : decode cX9_readText 78 = .ok (.getfield 22, 3) := by decide +kernel
theorem dX9_readText_81 : decode cX9_readText 81 = .ok (.aload_n 0, 1) := by decide +kernel
theorem dX9_readText_82 : decode cX9_readText 82 = .ok (.getfield 83, 3) := by decide +kernel
theorem dX9_readText_85 : decode cX9_readText 85 = .ok (.iaload, 1) := by decide +kernel
theorem dX9_readText_86 : decode cX9_readText 86 = .ok (.bipush 80, 2) := by decide +kernel
theorem dX9_readText_88 : decode cX9_readText 88 = .ok (.if_icmp .ne 74, 3) := by decide +kernel
theorem dX9_readText_91 : decode cX9_readText 91 = .ok (.aload_n 0, 1) := by decide +kernel
theorem dX9_readText_92 : decode cX9_readText 92 = .ok (.getfield 86, 3) := by decide +kernel
theorem dX9_readText_95 : decode cX9_readText 95 = .ok (.bipush 8, 2) := by decide +kernel
theorem dX9_readText_97 : decode cX9_readText 97 = .ok (.if_icmp .ge 65, 3) := by decide +kernel
theorem dX9_readText_100 : decode cX9_readText 100 = .ok (.aload_n 0, 1) := by decide +kernel
theorem dX9_readText_101 : decode cX9_readText 101 = .ok (.dup, 1) := by decide +kernel
theorem dX9_readText_102 : decode cX9_readText 102 = .ok (.getfield 83, 3) := by decide +kernel
theorem dX9_readText_105 : decode cX9_readText 105 = .ok (.iconst 1, 1) := by decide +kernel
theorem dX9_readText_106 : decode cX9_readText 106 = .ok (.iadd, 1) := by decide +kernel
theorem dX9_readText_107 : decode cX9_readText 107 = .ok (.putfield 83, 3) := by decide +kernel
theorem dX9_readText_110 : decode cX9_readText 110 = .ok (.iconst 0, 1) := by decide +kernel
theorem dX9_readText_111 : decode cX9_readText 111 = .ok (.istore_n 1, 1) := by decide +kernel
theorem dX9_readText_112 : decode cX9_readText 112 = .ok (.iconst 0, 1) := by decide +kernel
theorem dX9_readText_113 : decode cX9_readText 113 = .ok (.istore_n 2, 1) := by decide +kernel
theorem dX9_readText_114 : decode cX9_readText 114 = .ok (.iload_n 2, 1) := by decide +kernel
theorem dX9_readText_115 : decode cX9_readText 115 = .ok (.iconst 4, 1) := by decide +kernel
theorem dX9_readText_116 : decode cX9_readText 116 = .ok (.if_icmp .ge 23, 3) := by decide +kernel
theorem dX9_readText_119 : decode cX9_readText 119 = .ok (.bipush 10, 2) := by decide +kernel
theorem dX9_readText_121 : decode cX9_readText 121 = .ok (.iload_n 1, 1) := by decide +kernel
theorem dX9_readText_122 : decode cX9_readText 122 = .ok (.imul, 1) := by decide +kernel
theorem dX9_readText_123 : decode cX9_readText 123 = .ok (.aload_n 0, 1) := by decide +kernel
theorem dX9_readText_124 : decode cX9_readText 124 = .ok (.bipush 9, 2) := by decide +kernel
theorem dX9_readText_126 : decode cX9_readText 126 = .ok (.bipush (-9), 2) := by decide +kernel
theorem dX9_readText_128 : decode cX9_readText 128 = .ok (.invokevirtual 92, 3) := by decide +kernel
theorem dX9_readText_131 : decode cX9_readText 131 = .ok (.iadd, 1) := by decide +kernel
theorem dX9_readText_132 : decode cX9_readText 132 = .ok (.istore_n 1, 1) := by decide +kernel
theorem dX9_readText_133 : decode cX9_readText 133 = .ok (.iinc 2 1, 3) := by decide +kernel
theorem dX9_readText_136 : decode cX9_readText 136 = .ok (.goto (-22), 3) := by decide +kernel
theorem dX9_readText_139 : decode cX9_readText 139 = .ok (.aload_n 0, 1) := by decide +kernel
theorem dX9_readText_140 : decode cX9_readText 140 = .ok (.getfield 7, 3) := by decide +kernel
theorem dX9_readText_143 : decode cX9_readText 143 = .ok (.aload_n 0, 1) := by decide +kernel
theorem dX9_readText_144 : decode cX9_readText 144 = .ok (.getfield 86, 3) := by decide +kernel
theorem dX9_readText_147 : decode cX9_readText 147 = .ok (.iload_n 1, 1) := by decide +kernel
theorem dX9_readText_148 : decode cX9_readText 148 = .ok (.iastore, 1) := by decide +kernel
theorem dX9_readText_149 : decode cX9_readText 149 = .ok (.aload_n 0, 1) := by decide +kernel
theorem dX9_readText_150 : decode cX9_readText 150 = .ok (.dup, 1) := by decide +kernel
theorem dX9_readText_151 : decode cX9_readText 151 = .ok (.getfield 86, 3) := by decide +kernel
theorem dX9_readText_154 : decode cX9_readText 154 = .ok (.iconst 1, 1) := by decide +kernel
theorem dX9_readText_155 : decode cX9_readText 155 = .ok (.iadd, 1) := by decide +kernel
theorem dX9_readText_156 : decode cX9_readText 156 = .ok (.putfield 86, 3) := by decide +kernel
theorem dX9_readText_159 : decode cX9_readText 159 = .ok (.goto (-102), 3) := by decide +kernel
theorem dX9_readText_162 : decode cX9_readText 162 = .ok (.aload_n 0, 1) := by decide +kernel
theorem dX9_readText_163 : decode cX9_readText 163 = .ok (.getfield 22, 3) := by decide +kernel
theorem dX9_readText_166 : decode cX9_readText 166 = .ok (.aload_n 0, 1) := by decide +kernel
theorem dX9_readText_167 : decode cX9_readText 167 = .ok (.getfield 83, 3) := by decide +kernel
theorem dX9_readText_170 : decode cX9_readText 170 = .ok (.iaload, 1) := by decide +kernel
theorem dX9_readText_171 : decode cX9_readText 171 = .ok (.bipush 77, 2) := by decide +kernel
theorem dX9_readText_173 : decode cX9_readText 173 = .ok (.if_icmp .ne 92, 3) := by decide +kernel
theorem dX9_readText_176 : decode cX9_readText 176 = .ok (.aload_n 0, 1) := by decide +kernel
theorem dX9_readText_177 : decode cX9_readText 177 = .ok (.getfield 86, 3) := by decide +kernel
theorem dX9_readText_180 : decode cX9_readText 180 = .ok (.iconst 1, 1) := by decide +kernel
theorem dX9_readText_181 : decode cX9_readText 181 = .ok (.if_icmp .le 84, 3) := by decide +kernel
theorem dX9_readText_184 : decode cX9_readText 184 = .ok (.aload_n 0, 1) := by decide +kernel
theorem dX9_readText_185 : decode cX9_readText 185 = .ok (.getfield 89, 3) := by decide +kernel
theorem dX9_readText_188 : decode cX9_readText 188 = .ok (.bipush 16, 2) := by decide +kernel
theorem dX9_readText_190 : decode cX9_readText 190 = .ok (.if_icmp .ge 75, 3) := by decide +kernel
theorem dX9_readText_193 : decode cX9_readText 193 = .ok (.aload_n 0, 1) := by decide +kernel
theorem dX9_readText_194 : decode cX9_readText 194 = .ok (.dup, 1) := by decide +kernel
theorem dX9_readText_195 : decode cX9_readText 195 = .ok (.getfield 83, 3) := by decide +kernel
theorem dX9_readText_198 : decode cX9_readText 198 = .ok (.iconst 1, 1) := by decide +kernel
theorem dX9_readText_199 : decode cX9_readText 199 = .ok (.iadd, 1) := by decide +kernel
theorem dX9_readText_200 : decode cX9_readText 200 = .ok (.putfield 83, 3) := by decide +kernel
theorem dX9_readText_203 : decode cX9_readText 203 = .ok (.aload_n 0, 1) := by decide +kernel
theorem dX9_readText_204 : decode cX9_readText 204 = .ok (.aload_n 0, 1) := by decide +kernel
theorem dX9_readText_205 : decode cX9_readText 205 = .ok (.getfield 86, 3) := by decide +kernel
theorem dX9_readText_208 : decode cX9_readText 208 = .ok (.iconst 1, 1) := by decide +kernel
theorem dX9_readText_209 : decode cX9_readText 209 = .ok (.isub, 1) := by decide +kernel
theorem dX9_readText_210 : decode cX9_readText 210 = .ok (.bipush (-9), 2) := by decide +kernel
theorem dX9_readText_212 : decode cX9_readText 212 = .ok (.invokevirtual 92, 3) := by decide +kernel
theorem dX9_readText_215 : decode cX9_readText 215 = .ok (.istore_n 1, 1) := by decide +kernel
theorem dX9_readText_216 : decode cX9_readText 216 = .ok (.aload_n 0, 1) := by decide +kernel
theorem dX9_readText_217 : decode cX9_readText 217 = .ok (.getfield 13, 3) := by decide +kernel
theorem dX9_readText_220 : decode cX9_readText 220 = .ok (.iconst 2, 1) := by decide +kernel
theorem dX9_readText_221 : decode cX9_readText 221 = .ok (.aload_n 0, 1) := by decide +kernel
theorem dX9_readText_222 : decode cX9_readText 222 = .ok (.getfield 89, 3) := by decide +kernel
theorem dX9_readText_225 : decode cX9_readText 225 = .ok (.imul, 1) := by decide +kernel
theorem dX9_readText_226 : decode cX9_readText 226 = .ok (.iload_n 1, 1) := by decide +kernel
theorem dX9_readText_227 : decode cX9_readText 227 = .ok (.iastore, 1) := by decide +kernel
theorem dX9_readText_228 : decode cX9_readText 228 = .ok (.aload_n 0, 1) := by decide +kernel
theorem dX9_readText_229 : decode cX9_readText 229 = .ok (.getfield 13, 3) := by decide +kernel
theorem dX9_readText_232 : decode cX9_readText 232 = .ok (.iconst 2, 1) := by decide +kernel
theorem dX9_readText_233 : decode cX9_readText 233 = .ok (.aload_n 0, 1) := by decide +kernel
theorem dX9_readText_234 : decode cX9_readText 234 = .ok (.getfield 89, 3) := by decide +kernel
theorem dX9_readText_237 : decode cX9_readText 237 = .ok (.imul, 1) := by decide +kernel
theorem dX9_readText_238 : decode cX9_readText 238 = .ok (.iconst 1, 1) := by decide +kernel
theorem dX9_readText_239 : decode cX9_readText 239 = .ok (.iadd, 1) := by decide +kernel
theorem dX9_readText_240 : decode cX9_readText 240 = .ok (.aload_n 0, 1) := by decide +kernel
theorem dX9_readText_241 : decode cX9_readText 241 = .ok (.aload_n 0, 1) := by decide +kernel
theorem dX9_readText_242 : decode cX9_readText 242 = .ok (.getfield 86, 3) := by decide +kernel
theorem dX9_readText_245 : decode cX9_readText 245 = .ok (.iconst 1, 1) := by decide +kernel
theorem dX9_readText_246 : decode cX9_readText 246 = .ok (.isub, 1) := by decide +kernel
theorem dX9_readText_247 : decode cX9_readText 247 = .ok (.iload_n 1, 1) := by decide +kernel
theorem dX9_readText_248 : decode cX9_readText 248 = .ok (.invokevirtual 92, 3) := by decide +kernel
theorem dX9_readText_251 : decode cX9_readText 251 = .ok (.iastore, 1) := by decide +kernel
theorem dX9_readText_252 : decode cX9_readText 252 = .ok (.aload_n 0, 1) := by decide +kernel
theorem dX9_readText_253 : decode cX9_readText 253 = .ok (.dup, 1) := by decide +kernel
theorem dX9_readText_254 : decode cX9_readText 254 = .ok (.getfield 89, 3) := by decide +kernel
theorem dX9_readText_257 : decode cX9_readText 257 = .ok (.iconst 1, 1) := by decide +kernel
theorem dX9_readText_258 : decode cX9_readText 258 = .ok (.iadd, 1) := by decide +kernel
theorem dX9_readText_259 : decode cX9_readText 259 = .ok (.putfield 89, 3) := by decide +kernel
theorem dX9_readText_262 : decode cX9_readText 262 = .ok (.goto (-205), 3) := by decide +kernel
theorem dX9_readText_265 : decode cX9_readText 265 = .ok (.aload_n 0, 1) := by decide +kernel
theorem dX9_readText_266 : decode cX9_readText 266 = .ok (.aload_n 0, 1) := by decide +kernel
theorem dX9_readText_267 : decode cX9_readText 267 = .ok (.getfield 83, 3) := by decide +kernel
theorem dX9_readText_270 : decode cX9_readText 270 = .ok (.putfield 80, 3) := by decide +kernel
theorem dX9_readText_273 : decode cX9_readText 273 = .ok (.goto (-216), 3) := by decide +kernel
theorem dX9_readText_276 : decode cX9_readText 276 = .ok (.aload_n 0, 1) := by decide +kernel
theorem dX9_readText_277 : decode cX9_readText 277 = .ok (.getfield 80, 3) := by decide +kernel
theorem dX9_readText_280 : decode cX9_readText 280 = .ok (.bipush (-9), 2) := by decide +kernel
theorem dX9_readText_282 : decode cX9_readText 282 = .ok (.if_icmp .ne 18, 3) := by decide +kernel
theorem dX9_readText_285 : decode cX9_readText 285 = .ok (.aload_n 0, 1) := by decide +kernel
theorem dX9_readText_286 : decode cX9_readText 286 = .ok (.getfield 86, 3) := by decide +kernel
theorem dX9_readText_289 : decode cX9_readText 289 = .ok (.iconst 2, 1) := by decide +kernel
theorem dX9_readText_290 : decode cX9_readText 290 = .ok (.if_icmp .ge 10, 3) := by decide +kernel
theorem dX9_readText_293 : decode cX9_readText 293 = .ok (.aload_n 0, 1) := by decide +kernel
theorem dX9_readText_294 : decode cX9_readText 294 = .ok (.getfield 75, 3) := by decide +kernel
theorem dX9_readText_297 : decode cX9_readText 297 = .ok (.goto 7, 3) := by decide +kernel
theorem dX9_readText_300 : decode cX9_readText 300 = .ok (.aload_n 0, 1) := by decide +kernel
theorem dX9_readText_301 : decode cX9_readText 301 = .ok (.getfield 80, 3) := by decide +kernel
theorem dX9_readText_304 : decode cX9_readText 304 = .ok (.ireturn, 1) := by decide +kernel
set_option maxRecDepth 20000 in
theorem ggX9_fault_X9_readText : GoodIn wsX9_fault wsX9_readText := goodIn_r _ [5, 6, 7, 8, 9, 10, 11, 12, 13, 14, 15, 16, 17, 4, 18, 19, 20, 21, 22, 23, 24, 25, 26, 27, 28, 29, 30, 31, 32, 33, 34, 35, 36, 37, 38, 39, 40, 41, 42, 43, 44, 45, 46, 47, 48, 49, 50, 51, 52, 53, 54] (by decide +kernel) (by decide +kernel)
set_option maxRecDepth 20000 in
theorem gX9_fault_X9_readText : GoodIn wsX9_fault (wsV RX9 99 RX9 yX9_readText wsX9_readText) := goodIn_app (goodIn_of _ (by decide +kernel)) ggX9_fault_X9_readText
theorem dX9_fault_0 : decode cX9_fault 0 = .ok (.aload_n 0, 1) := by decide +kernel
theorem dX9_fault_1 : decode cX9_fault 1 = .ok (.invokevirtual 99, 3) := by decide +kernel
theorem dX9_fault_4 : decode cX9_fault 4 = .ok (.ireturn, 1) := by decide +kernel
set_option maxRecDepth 20000 in
theorem ggX9_town_X9_readText : GoodIn wsX9_town wsX9_readText := goodIn_r _ [18, 19, 20, 2, 9, 21, 22, 6, 3, 5, 23, 24, 25, 17, 26, 27, 28, 29, 30, 31, 32, 33, 34, 35, 36, 37, 38, 39, 40, 41, 42, 43, 44, 45, 46, 47, 48, 49, 50, 51, 52, 53, 54, 55, 56, 57, 58, 59, 60, 61, 62] (by decide +kernel) (by decide +kernel)
set_option maxRecDepth 20000 in
theorem gX9_town_X9_readText : GoodIn wsX9_town (wsV RX9 99 RX9 yX9_readText wsX9_readText) := goodIn_app (goodIn_of _ (by decide +kernel)) ggX9_town_X9_readText
theorem dX9_town_0 : decode cX9_town 0 = .ok (.aload_n 0, 1) := by decide +kernel
theorem dX9_town_1 : decode cX9_town 1 = .ok (.invokevirtual 99, 3) := by decide +kernel
theorem dX9_town_4 : decode cX9_town 4 = .ok (.bipush (-9), 2) := by decide +kernel
theorem dX9_town_6 : decode cX9_town 6 = .ok (.if_icmp .eq 6, 3) := by decide +kernel
theorem dX9_town_9 : decode cX9_town 9 = .ok (.bipush (-3), 2) := by decide +kernel
theorem dX9_town_11 : decode cX9_town 11 = .ok (.ireturn, 1) := by decide +kernel
theorem dX9_town_12 : decode cX9_town 12 = .ok (.iconst 0, 1) := by decide +kernel
theorem dX9_town_13 : decode cX9_town 13 = .ok (.istore_n 1, 1) := by decide +kernel
theorem dX9_town_14 : decode cX9_town 14 = .ok (.iload_n 1, 1) := by decide +kernel
theorem dX9_town_15 : decode cX9_town 15 = .ok (.bipush 8, 2) := by decide +kernel
theorem dX9_town_17 : decode cX9_town 17 = .ok (.if_icmp .ge 33, 3) := by decide +kernel
theorem dX9_town_20 : decode cX9_town 20 = .ok (.aload_n 0, 1) := by decide +kernel
theorem dX9_town_21 : decode cX9_town 21 = .ok (.getfield 16, 3) := by decide +kernel
theorem dX9_town_24 : decode cX9_town 24 = .ok (.iload_n 1, 1) := by decide +kernel
theorem dX9_town_25 : decode cX9_town 25 = .ok (.iload_n 1, 1) := by decide +kernel
theorem dX9_town_26 : decode cX9_town 26 = .ok (.aload_n 0, 1) := by decide +kernel
theorem dX9_town_27 : decode cX9_town 27 = .ok (.getfield 86, 3) := by decide +kernel
theorem dX9_town_30 : decode cX9_town 30 = .ok (.if_icmp .ge 12, 3) := by decide +kernel
theorem dX9_town_33 : decode cX9_town 33 = .ok (.aload_n 0, 1) := by decide +kernel
theorem dX9_town_34 : decode cX9_town 34 = .ok (.getfield 7, 3) := by decide +kernel
theorem dX9_town_37 : decode cX9_town 37 = .ok (.iload_n 1, 1) := by decide +kernel
theorem dX9_town_38 : decode cX9_town 38 = .ok (.iaload, 1) := by decide +kernel
theorem dX9_town_39 : decode cX9_town 39 = .ok (.goto 4, 3) := by decide +kernel
theorem dX9_town_42 : decode cX9_town 42 = .ok (.iconst 0, 1) := by decide +kernel
theorem dX9_town_43 : decode cX9_town 43 = .ok (.iastore, 1) := by decide +kernel
theorem dX9_town_44 : decode cX9_town 44 = .ok (.iinc 1 1, 3) := by decide +kernel
theorem dX9_town_47 : decode cX9_town 47 = .ok (.goto (-33), 3) := by decide +kernel
theorem dX9_town_50 : decode cX9_town 50 = .ok (.iconst 0, 1) := by decide +kernel
theorem dX9_town_51 : decode cX9_town 51 = .ok (.istore_n 1, 1) := by decide +kernel
theorem dX9_town_52 : decode cX9_town 52 = .ok (.iload_n 1, 1) := by decide +kernel
theorem dX9_town_53 : decode cX9_town 53 = .ok (.bipush 32, 2) := by decide +kernel
theorem dX9_town_55 : decode cX9_town 55 = .ok (.if_icmp .ge 21, 3) := by decide +kernel
theorem dX9_town_58 : decode cX9_town 58 = .ok (.aload_n 0, 1) := by decide +kernel
theorem dX9_town_59 : decode cX9_town 59 = .ok (.getfield 19, 3) := by decide +kernel
theorem dX9_town_62 : decode cX9_town 62 = .ok (.iload_n 1, 1) := by decide +kernel
theorem dX9_town_63 : decode cX9_town 63 = .ok (.aload_n 0, 1) := by decide +kernel
theorem dX9_town_64 : decode cX9_town 64 = .ok (.getfield 13, 3) := by decide +kernel
theorem dX9_town_67 : decode cX9_town 67 = .ok (.iload_n 1, 1) := by decide +kernel
theorem dX9_town_68 : decode cX9_town 68 = .ok (.iaload, 1) := by decide +kernel
theorem dX9_town_69 : decode cX9_town 69 = .ok (.iastore, 1) := by decide +kernel
theorem dX9_town_70 : decode cX9_town 70 = .ok (.iinc 1 1, 3) := by decide +kernel
theorem dX9_town_73 : decode cX9_town 73 = .ok (.goto (-21), 3) := by decide +kernel
theorem dX9_town_76 : decode cX9_town 76 = .ok (.aload_n 0, 1) := by decide +kernel
theorem dX9_town_77 : decode cX9_town 77 = .ok (.aload_n 0, 1) := by decide +kernel
theorem dX9_town_78 : decode cX9_town 78 = .ok (.getfield 96, 3) := by decide +kernel
theorem dX9_town_81 : decode cX9_town 81 = .ok (.putfield 103, 3) := by decide +kernel
theorem dX9_town_84 : decode cX9_town 84 = .ok (.aload_n 0, 1) := by decide +kernel
theorem dX9_town_85 : decode cX9_town 85 = .ok (.aload_n 0, 1) := by decide +kernel
theorem dX9_town_86 : decode cX9_town 86 = .ok (.getfield 86, 3) := by decide +kernel
theorem dX9_town_89 : decode cX9_town 89 = .ok (.putfield 65, 3) := by decide +kernel
theorem dX9_town_92 : decode cX9_town 92 = .ok (.aload_n 0, 1) := by decide +kernel
theorem dX9_town_93 : decode cX9_town 93 = .ok (.aload_n 0, 1) := by decide +kernel
theorem dX9_town_94 : decode cX9_town 94 = .ok (.getfield 89, 3) := by decide +kernel
theorem dX9_town_97 : decode cX9_town 97 = .ok (.putfield 106, 3) := by decide +kernel
theorem dX9_town_100 : decode cX9_town 100 = .ok (.aload_n 0, 1) := by decide +kernel
theorem dX9_town_101 : decode cX9_town 101 = .ok (.iconst 0, 1) := by decide +kernel
theorem dX9_town_102 : decode cX9_town 102 = .ok (.putfield 109, 3) := by decide +kernel
theorem dX9_town_105 : decode cX9_town 105 = .ok (.aload_n 0, 1) := by decide +kernel
theorem dX9_town_106 : decode cX9_town 106 = .ok (.iconst 0, 1) := by decide +kernel
theorem dX9_town_107 : decode cX9_town 107 = .ok (.putfield 112, 3) := by decide +kernel
theorem dX9_town_110 : decode cX9_town 110 = .ok (.aload_n 0, 1) := by decide +kernel
theorem dX9_town_111 : decode cX9_town 111 = .ok (.getfield 46, 3) := by decide +kernel
theorem dX9_town_114 : decode cX9_town 114 = .ok (.iconst 0, 1) := by decide +kernel
theorem dX9_town_115 : decode cX9_town 115 = .ok (.iconst 0, 1) := by decide +kernel
theorem dX9_town_116 : decode cX9_town 116 = .ok (.bastore, 1) := by decide +kernel
theorem dX9_town_117 : decode cX9_town 117 = .ok (.aload_n 0, 1) := by decide +kernel
theorem dX9_town_118 : decode cX9_town 118 = .ok (.getfield 46, 3) := by decide +kernel
theorem dX9_town_121 : decode cX9_town 121 = .ok (.iconst 1, 1) := by decide +kernel
theorem dX9_town_122 : decode cX9_town 122 = .ok (.iconst 0, 1) := by decide +kernel
theorem dX9_town_123 : decode cX9_town 123 = .ok (.bastore, 1) := by decide +kernel
theorem dX9_town_124 : decode cX9_town 124 = .ok (.aload_n 0, 1) := by decide +kernel
theorem dX9_town_125 : decode cX9_town 125 = .ok (.getfield 65, 3) := by decide +kernel
theorem dX9_town_128 : decode cX9_town 128 = .ok (.ireturn, 1) := by decide +kernel
set_option maxRecDepth 20000 in
theorem ggX9_isPerson_X9_in : GoodIn wsX9_isPerson wsX9_in := goodIn_r _ [5] (by decide +kernel) (by decide +kernel)
set_option maxRecDepth 20000 in
theorem gX9_isPerson_X9_in : GoodIn wsX9_isPerson (va_wsS RX9 71 yX9_in wsX9_in) := goodIn_app (goodIn_of _ (by decide +kernel)) ggX9_isPerson_X9_in
theorem dX9_isPerson_0 : decode cX9_isPerson 0 = .ok (.iload_n 1, 1) := by decide +kernel
theorem dX9_isPerson_1 : decode cX9_isPerson 1 = .ok (.i2l, 1) := by decide +kernel
theorem dX9_isPerson_2 : decode cX9_isPerson 2 = .ok (.lconst 0, 1) := by decide +kernel
theorem dX9_isPerson_3 : decode cX9_isPerson 3 = .ok (.aload_n 0, 1) := by decide +kernel
theorem dX9_isPerson_4 : decode cX9_isPerson 4 = .ok (.getfield 65, 3) := by decide +kernel
theorem dX9_isPerson_7 : decode cX9_isPerson 7 = .ok (.iconst 1, 1) := by decide +kernel
theorem dX9_isPerson_8 : decode cX9_isPerson 8 = .ok (.isub, 1) := by decide +kernel
theorem dX9_isPerson_9 : decode cX9_isPerson 9 = .ok (.i2l, 1) := by decide +kernel
theorem dX9_isPerson_10 : decode cX9_isPerson 10 = .ok (.invokestatic 71, 3) := by decide +kernel
theorem dX9_isPerson_13 : decode cX9_isPerson 13 = .ok (.ireturn, 1) := by decide +kernel
set_option maxRecDepth 20000 in
theorem ggX9_purse_X9_isPerson : GoodIn wsX9_purse wsX9_isPerson := goodIn_r _ [6, 7, 8, 9, 5, 10, 11, 12, 13, 14, 15, 16, 17, 18, 19, 20, 21, 22, 23, 24, 25, 26, 27, 28, 29, 30, 31, 32, 33, 34, 35, 36, 37, 38, 39, 40, 41, 42, 43] (by decide +kernel) (by decide +kernel)
set_option maxRecDepth 20000 in
theorem gX9_purse_X9_isPerson : GoodIn wsX9_purse (wsV RX9 115 RX9 yX9_isPerson wsX9_isPerson) := goodIn_app (goodIn_of _ (by decide +kernel)) ggX9_purse_X9_isPerson
theorem dX9_purse_0 : decode cX9_purse 0 = .ok (.aload_n 0, 1) := by decide +kernel
theorem dX9_purse_1 : decode cX9_purse 1 = .ok (.iload_n 1, 1) := by decide +kernel
theorem dX9_purse_2 : decode cX9_purse 2 = .ok (.invokevirtual 115, 3) := by decide +kernel
theorem dX9_purse_5 : decode cX9_purse 5 = .ok (.ifCond .eq 12, 3) := by decide +kernel
theorem dX9_purse_8 : decode cX9_purse 8 = .ok (.aload_n 0, 1) := by decide +kernel
theorem dX9_purse_9 : decode cX9_purse 9 = .ok (.getfield 16, 3) := by decide +kernel
theorem dX9_purse_12 : decode cX9_purse 12 = .ok (.iload_n 1, 1) := by decide +kernel
theorem dX9_purse_13 : decode cX9_purse 13 = .ok (.iaload, 1) := by decide +kernel
theorem dX9_purse_14 : decode cX9_purse 14 = .ok (.goto 4, 3) := by decide +kernel
theorem dX9_purse_17 : decode cX9_purse 17 = .ok (.iconst (-1), 1) := by decide +kernel
theorem dX9_purse_18 : decode cX9_purse 18 = .ok (.ireturn, 1) := by decide +kernel
set_option maxRecDepth 20000 in
theorem ggX9_fill_X9_isPerson : GoodIn wsX9_fill wsX9_isPerson := goodIn_r _ [8, 9, 10, 11, 7, 12, 13, 14, 15, 16, 17, 18, 19, 20, 21, 22, 23, 24, 25, 26, 27, 28, 29, 30, 31, 32, 33, 34, 35, 36, 37, 38, 39, 40, 41, 42, 43, 44, 45] (by decide +kernel) (by decide +kernel)
set_option maxRecDepth 20000 in
theorem gX9_fill_X9_isPerson : GoodIn wsX9_fill (wsV RX9 115 RX9 yX9_isPerson wsX9_isPerson) := goodIn_app (goodIn_of _ (by decide +kernel)) ggX9_fill_X9_isPerson
set_option maxRecDepth 20000 in
theorem ggX9_fill_X9_in : GoodIn wsX9_fill wsX9_in := goodIn_r _ [12] (by decide +kernel) (by decide +kernel)
set_option maxRecDepth 20000 in
theorem gX9_fill_X9_in : GoodIn wsX9_fill (va_wsS RX9 71 yX9_in wsX9_in) := goodIn_app (goodIn_of _ (by decide +kernel)) ggX9_fill_X9_in
theorem dX9_fill_0 : decode cX9_fill 0 = .ok (.aload_n 0, 1) := by decide +kernel
theorem dX9_fill_1 : decode cX9_fill 1 = .ok (.iload_n 1, 1) := by decide +kernel
theorem dX9_fill_2 : decode cX9_fill 2 = .ok (.invokevirtual 115, 3) := by decide +kernel
theorem dX9_fill_5 : decode cX9_fill 5 = .ok (.ifCond .ne 5, 3) := by decide +kernel
theorem dX9_fill_8 : decode cX9_fill 8 = .ok (.iconst (-1), 1) := by decide +kernel
theorem dX9_fill_9 : decode cX9_fill 9 = .ok (.ireturn, 1) := by decide +kernel
theorem dX9_fill_10 : decode cX9_fill 10 = .ok (.iload_n 2, 1) := by decide +kernel
theorem dX9_fill_11 : decode cX9_fill 11 = .ok (.i2l, 1) := by decide +kernel
theorem dX9_fill_12 : decode cX9_fill 12 = .ok (.lconst 0, 1) := by decide +kernel
theorem dX9_fill_13 : decode cX9_fill 13 = .ok (.ldc2_w 119, 3) := by decide +kernel
theorem dX9_fill_16 : decode cX9_fill 16 = .ok (.invokestatic 71, 3) := by decide +kernel
theorem dX9_fill_19 : decode cX9_fill 19 = .ok (.ifCond .ne 6, 3) := by decide +kernel
theorem dX9_fill_22 : decode cX9_fill 22 = .ok (.bipush (-2), 2) := by decide +kernel
theorem dX9_fill_24 : decode cX9_fill 24 = .ok (.ireturn, 1) := by decide +kernel
theorem dX9_fill_25 : decode cX9_fill 25 = .ok (.aload_n 0, 1) := by decide +kernel
theorem dX9_fill_26 : decode cX9_fill 26 = .ok (.getfield 16, 3) := by decide +kernel
theorem dX9_fill_29 : decode cX9_fill 29 = .ok (.iload_n 1, 1) := by decide +kernel
theorem dX9_fill_30 : decode cX9_fill 30 = .ok (.iaload, 1) := by decide +kernel
theorem dX9_fill_31 : decode cX9_fill 31 = .ok (.istore_n 3, 1) := by decide +kernel
theorem dX9_fill_32 : decode cX9_fill 32 = .ok (.aload_n 0, 1) := by decide +kernel
theorem dX9_fill_33 : decode cX9_fill 33 = .ok (.getfield 16, 3) := by decide +kernel
theorem dX9_fill_36 : decode cX9_fill 36 = .ok (.iload_n 1, 1) := by decide +kernel
theorem dX9_fill_37 : decode cX9_fill 37 = .ok (.iload_n 2, 1) := by decide +kernel
theorem dX9_fill_38 : decode cX9_fill 38 = .ok (.iastore, 1) := by decide +kernel
theorem dX9_fill_39 : decode cX9_fill 39 = .ok (.aload_n 0, 1) := by decide +kernel
theorem dX9_fill_40 : decode cX9_fill 40 = .ok (.iconst 0, 1) := by decide +kernel
theorem dX9_fill_41 : decode cX9_fill 41 = .ok (.putfield 109, 3) := by decide +kernel
theorem dX9_fill_44 : decode cX9_fill 44 = .ok (.iload_n 3, 1) := by decide +kernel
theorem dX9_fill_45 : decode cX9_fill 45 = .ok (.ireturn, 1) := by decide +kernel
set_option maxRecDepth 20000 in
theorem ggX9_law_X9_in : GoodIn wsX9_law wsX9_in := goodIn_r _ [6] (by decide +kernel) (by decide +kernel)
set_option maxRecDepth 20000 in
theorem gX9_law_X9_in : GoodIn wsX9_law (va_wsS RX9 71 yX9_in wsX9_in) := goodIn_app (goodIn_of _ (by decide +kernel)) ggX9_law_X9_in
theorem dX9_law_0 : decode cX9_law 0 = .ok (.iload_n 1, 1) := by decide +kernel
theorem dX9_law_1 : decode cX9_law 1 = .ok (.i2l, 1) := by decide +kernel
theorem dX9_law_2 : decode cX9_law 2 = .ok (.lconst 0, 1) := by decide +kernel
theorem dX9_law_3 : decode cX9_law 3 = .ok (.ldc2_w 121, 3) := by decide +kernel
theorem dX9_law_6 : decode cX9_law 6 = .ok (.invokestatic 71, 3) := by decide +kernel
theorem dX9_law_9 : decode cX9_law 9 = .ok (.ifCond .ne 6, 3) := by decide +kernel
theorem dX9_law_12 : decode cX9_law 12 = .ok (.bipush (-2), 2) := by decide +kernel
theorem dX9_law_14 : decode cX9_law 14 = .ok (.ireturn, 1) := by decide +kernel
theorem dX9_law_15 : decode cX9_law 15 = .ok (.aload_n 0, 1) := by decide +kernel
theorem dX9_law_16 : decode cX9_law 16 = .ok (.getfield 103, 3) := by decide +kernel
theorem dX9_law_19 : decode cX9_law 19 = .ok (.istore_n 2, 1) := by decide +kernel
theorem dX9_law_20 : decode cX9_law 20 = .ok (.aload_n 0, 1) := by decide +kernel
theorem dX9_law_21 : decode cX9_law 21 = .ok (.iload_n 1, 1) := by decide +kernel
theorem dX9_law_22 : decode cX9_law 22 = .ok (.putfield 103, 3) := by decide +kernel
theorem dX9_law_25 : decode cX9_law 25 = .ok (.iload_n 2, 1) := by decide +kernel
theorem dX9_law_26 : decode cX9_law 26 = .ok (.ireturn, 1) := by decide +kernel
set_option maxRecDepth 20000 in
theorem ggX9_daily_X9_in : GoodIn wsX9_daily wsX9_in := goodIn_r _ [6] (by decide +kernel) (by decide +kernel)
set_option maxRecDepth 20000 in
theorem gX9_daily_X9_in : GoodIn wsX9_daily (va_wsS RX9 71 yX9_in wsX9_in) := goodIn_app (goodIn_of _ (by decide +kernel)) ggX9_daily_X9_in
theorem dX9_daily_0 : decode cX9_daily 0 = .ok (.iload_n 2, 1) := by decide +kernel
theorem dX9_daily_1 : decode cX9_daily 1 = .ok (.i2l, 1) := by decide +kernel
theorem dX9_daily_2 : decode cX9_daily 2 = .ok (.lconst 0, 1) := by decide +kernel
theorem dX9_daily_3 : decode cX9_daily 3 = .ok (.lconst 1, 1) := by decide +kernel
theorem dX9_daily_4 : decode cX9_daily 4 = .ok (.invokestatic 71, 3) := by decide +kernel
theorem dX9_daily_7 : decode cX9_daily 7 = .ok (.ifCond .ne 6, 3) := by decide +kernel
theorem dX9_daily_10 : decode cX9_daily 10 = .ok (.bipush (-2), 2) := by decide +kernel
theorem dX9_daily_12 : decode cX9_daily 12 = .ok (.ireturn, 1) := by decide +kernel
theorem dX9_daily_13 : decode cX9_daily 13 = .ok (.iload_n 1, 1) := by decide +kernel
theorem dX9_daily_14 : decode cX9_daily 14 = .ok (.i2l, 1) := by decide +kernel
theorem dX9_daily_15 : decode cX9_daily 15 = .ok (.lconst 0, 1) := by decide +kernel
theorem dX9_daily_16 : decode cX9_daily 16 = .ok (.aload_n 0, 1) := by decide +kernel
theorem dX9_daily_17 : decode cX9_daily 17 = .ok (.getfield 106, 3) := by decide +kernel
theorem dX9_daily_20 : decode cX9_daily 20 = .ok (.iconst 1, 1) := by decide +kernel
theorem dX9_daily_21 : decode cX9_daily 21 = .ok (.isub, 1) := by decide +kernel
theorem dX9_daily_22 : decode cX9_daily 22 = .ok (.i2l, 1) := by decide +kernel
theorem dX9_daily_23 : decode cX9_daily 23 = .ok (.invokestatic 71, 3) := by decide +kernel
theorem dX9_daily_26 : decode cX9_daily 26 = .ok (.ifCond .eq 16, 3) := by decide +kernel
theorem dX9_daily_29 : decode cX9_daily 29 = .ok (.aload_n 0, 1) := by decide +kernel
theorem dX9_daily_30 : decode cX9_daily 30 = .ok (.getfield 19, 3) := by decide +kernel
theorem dX9_daily_33 : decode cX9_daily 33 = .ok (.iconst 2, 1) := by decide +kernel
theorem dX9_daily_34 : decode cX9_daily 34 = .ok (.iload_n 1, 1) := by decide +kernel
theorem dX9_daily_35 : decode cX9_daily 35 = .ok (.imul, 1) := by decide +kernel
theorem dX9_daily_36 : decode cX9_daily 36 = .ok (.iload_n 2, 1) := by decide +kernel
theorem dX9_daily_37 : decode cX9_daily 37 = .ok (.iadd, 1) := by decide +kernel
theorem dX9_daily_38 : decode cX9_daily 38 = .ok (.iaload, 1) := by decide +kernel
theorem dX9_daily_39 : decode cX9_daily 39 = .ok (.goto 5, 3) := by decide +kernel
theorem dX9_daily_42 : decode cX9_daily 42 = .ok (.bipush (-9), 2) := by decide +kernel
theorem dX9_daily_44 : decode cX9_daily 44 = .ok (.ireturn, 1) := by decide +kernel
theorem dX9_sharedBy_0 : decode cX9_sharedBy 0 = .ok (.iload_n 0, 1) := by decide +kernel
theorem dX9_sharedBy_1 : decode cX9_sharedBy 1 = .ok (.istore_n 2, 1) := by decide +kernel
theorem dX9_sharedBy_2 : decode cX9_sharedBy 2 = .ok (.iload_n 1, 1) := by decide +kernel
theorem dX9_sharedBy_3 : decode cX9_sharedBy 3 = .ok (.istore_n 3, 1) := by decide +kernel
theorem dX9_sharedBy_4 : decode cX9_sharedBy 4 = .ok (.iload_n 2, 1) := by decide +kernel
theorem dX9_sharedBy_5 : decode cX9_sharedBy 5 = .ok (.ifCond .le 26, 3) := by decide +kernel
theorem dX9_sharedBy_8 : decode cX9_sharedBy 8 = .ok (.iload_n 3, 1) := by decide +kernel
theorem dX9_sharedBy_9 : decode cX9_sharedBy 9 = .ok (.ifCond .le 22, 3) := by decide +kernel
theorem dX9_sharedBy_12 : decode cX9_sharedBy 12 = .ok (.iload_n 2, 1) := by decide +kernel
theorem dX9_sharedBy_13 : decode cX9_sharedBy 13 = .ok (.iload_n 3, 1) := by decide +kernel
theorem dX9_sharedBy_14 : decode cX9_sharedBy 14 = .ok (.if_icmp .le 10, 3) := by decide +kernel
theorem dX9_sharedBy_17 : decode cX9_sharedBy 17 = .ok (.iload_n 2, 1) := by decide +kernel
theorem dX9_sharedBy_18 : decode cX9_sharedBy 18 = .ok (.iload_n 3, 1) := by decide +kernel
theorem dX9_sharedBy_19 : decode cX9_sharedBy 19 = .ok (.irem, 1) := by decide +kernel
theorem dX9_sharedBy_20 : decode cX9_sharedBy 20 = .ok (.istore_n 2, 1) := by decide +kernel
theorem dX9_sharedBy_21 : decode cX9_sharedBy 21 = .ok (.goto (-17), 3) := by decide +kernel
theorem dX9_sharedBy_24 : decode cX9_sharedBy 24 = .ok (.iload_n 3, 1) := by decide +kernel
theorem dX9_sharedBy_25 : decode cX9_sharedBy 25 = .ok (.iload_n 2, 1) := by decide +kernel
theorem dX9_sharedBy_26 : decode cX9_sharedBy 26 = .ok (.irem, 1) := by decide +kernel
theorem dX9_sharedBy_27 : decode cX9_sharedBy 27 = .ok (.istore_n 3, 1) := by decide +kernel
theorem dX9_sharedBy_28 : decode cX9_sharedBy 28 = .ok (.goto (-24), 3) := by decide +kernel
theorem dX9_sharedBy_31 : decode cX9_sharedBy 31 = .ok (.iload_n 0, 1) := by decide +kernel
theorem dX9_sharedBy_32 : decode cX9_sharedBy 32 = .ok (.ifCond .eq 7, 3) := by decide +kernel
theorem dX9_sharedBy_35 : decode cX9_sharedBy 35 = .ok (.iload_n 1, 1) := by decide +kernel
theorem dX9_sharedBy_36 : decode cX9_sharedBy 36 = .ok (.ifCond .ne 7, 3) := by decide +kernel
theorem dX9_sharedBy_39 : decode cX9_sharedBy 39 = .ok (.iconst 0, 1) := by decide +kernel
theorem dX9_sharedBy_40 : decode cX9_sharedBy 40 = .ok (.goto 6, 3) := by decide +kernel
theorem dX9_sharedBy_43 : decode cX9_sharedBy 43 = .ok (.iload_n 2, 1) := by decide +kernel
theorem dX9_sharedBy_44 : decode cX9_sharedBy 44 = .ok (.iload_n 3, 1) := by decide +kernel
theorem dX9_sharedBy_45 : decode cX9_sharedBy 45 = .ok (.iadd, 1) := by decide +kernel
theorem dX9_sharedBy_46 : decode cX9_sharedBy 46 = .ok (.ireturn, 1) := by decide +kernel
set_option maxRecDepth 20000 in
theorem ggX9_meetTwo_X9_sharedBy : GoodIn wsX9_meetTwo wsX9_sharedBy := goodIn_r _ [8] (by decide +kernel) (by decide +kernel)
set_option maxRecDepth 20000 in
theorem gX9_meetTwo_X9_sharedBy : GoodIn wsX9_meetTwo (va_wsS RX9 129 yX9_sharedBy wsX9_sharedBy) := goodIn_app (goodIn_of _ (by decide +kernel)) ggX9_meetTwo_X9_sharedBy
theorem dX9_meetTwo_0 : decode cX9_meetTwo 0 = .ok (.aload_n 0, 1) := by decide +kernel
theorem dX9_meetTwo_1 : decode cX9_meetTwo 1 = .ok (.iload_n 1, 1) := by decide +kernel
theorem dX9_meetTwo_2 : decode cX9_meetTwo 2 = .ok (.putfield 123, 3) := by decide +kernel
theorem dX9_meetTwo_5 : decode cX9_meetTwo 5 = .ok (.aload_n 0, 1) := by decide +kernel
theorem dX9_meetTwo_6 : decode cX9_meetTwo 6 = .ok (.iload_n 2, 1) := by decide +kernel
theorem dX9_meetTwo_7 : decode cX9_meetTwo 7 = .ok (.putfield 126, 3) := by decide +kernel
theorem dX9_meetTwo_10 : decode cX9_meetTwo 10 = .ok (.iload_n 1, 1) := by decide +kernel
theorem dX9_meetTwo_11 : decode cX9_meetTwo 11 = .ok (.iload_n 2, 1) := by decide +kernel
theorem dX9_meetTwo_12 : decode cX9_meetTwo 12 = .ok (.invokestatic 129, 3) := by decide +kernel
theorem dX9_meetTwo_15 : decode cX9_meetTwo 15 = .ok (.istore_n 3, 1) := by decide +kernel
theorem dX9_meetTwo_16 : decode cX9_meetTwo 16 = .ok (.iload_n 3, 1) := by decide +kernel
theorem dX9_meetTwo_17 : decode cX9_meetTwo 17 = .ok (.ifCond .eq 8, 3) := by decide +kernel
theorem dX9_meetTwo_20 : decode cX9_meetTwo 20 = .ok (.iload_n 1, 1) := by decide +kernel
theorem dX9_meetTwo_21 : decode cX9_meetTwo 21 = .ok (.iload_n 2, 1) := by decide +kernel
theorem dX9_meetTwo_22 : decode cX9_meetTwo 22 = .ok (.if_icmp .ne 4, 3) := by decide +kernel
theorem dX9_meetTwo_25 : decode cX9_meetTwo 25 = .ok (.return_, 1) := by decide +kernel
theorem dX9_meetTwo_26 : decode cX9_meetTwo 26 = .ok (.iload_n 1, 1) := by decide +kernel
theorem dX9_meetTwo_27 : decode cX9_meetTwo 27 = .ok (.iload_n 2, 1) := by decide +kernel
theorem dX9_meetTwo_28 : decode cX9_meetTwo 28 = .ok (.if_icmp .ge 9, 3) := by decide +kernel
theorem dX9_meetTwo_31 : decode cX9_meetTwo 31 = .ok (.iload_n 2, 1) := by decide +kernel
theorem dX9_meetTwo_32 : decode cX9_meetTwo 32 = .ok (.iload_n 1, 1) := by decide +kernel
theorem dX9_meetTwo_33 : decode cX9_meetTwo 33 = .ok (.isub, 1) := by decide +kernel
theorem dX9_meetTwo_34 : decode cX9_meetTwo 34 = .ok (.goto 6, 3) := by decide +kernel
theorem dX9_meetTwo_37 : decode cX9_meetTwo 37 = .ok (.iload_n 1, 1) := by decide +kernel
theorem dX9_meetTwo_38 : decode cX9_meetTwo 38 = .ok (.iload_n 2, 1) := by decide +kernel
theorem dX9_meetTwo_39 : decode cX9_meetTwo 39 = .ok (.isub, 1) := by decide +kernel
theorem dX9_meetTwo_40 : decode cX9_meetTwo 40 = .ok (.istore 4, 2) := by decide +kernel
theorem dX9_meetTwo_42 : decode cX9_meetTwo 42 = .ok (.iload 4, 2) := by decide +kernel
theorem dX9_meetTwo_44 : decode cX9_meetTwo 44 = .ok (.iload_n 3, 1) := by decide +kernel
theorem dX9_meetTwo_45 : decode cX9_meetTwo 45 = .ok (.idiv, 1) := by decide +kernel
theorem dX9_meetTwo_46 : decode cX9_meetTwo 46 = .ok (.iconst 2, 1) := by decide +kernel
theorem dX9_meetTwo_47 : decode cX9_meetTwo 47 = .ok (.idiv, 1) := by decide +kernel
theorem dX9_meetTwo_48 : decode cX9_meetTwo 48 = .ok (.istore 5, 2) := by decide +kernel
theorem dX9_meetTwo_50 : decode cX9_meetTwo 50 = .ok (.aload_n 0, 1) := by decide +kernel
theorem dX9_meetTwo_51 : decode cX9_meetTwo 51 = .ok (.getfield 103, 3) := by decide +kernel
theorem dX9_meetTwo_54 : decode cX9_meetTwo 54 = .ok (.ifCond .ne 7, 3) := by decide +kernel
theorem dX9_meetTwo_57 : decode cX9_meetTwo 57 = .ok (.iload_n 3, 1) := by decide +kernel
theorem dX9_meetTwo_58 : decode cX9_meetTwo 58 = .ok (.goto 44, 3) := by decide +kernel
theorem dX9_meetTwo_61 : decode cX9_meetTwo 61 = .ok (.aload_n 0, 1) := by decide +kernel
theorem dX9_meetTwo_62 : decode cX9_meetTwo 62 = .ok (.getfield 103, 3) := by decide +kernel
theorem dX9_meetTwo_65 : decode cX9_meetTwo 65 = .ok (.iconst 1, 1) := by decide +kernel
theorem dX9_meetTwo_66 : decode cX9_meetTwo 66 = .ok (.if_icmp .ne 8, 3) := by decide +kernel
theorem dX9_meetTwo_69 : decode cX9_meetTwo 69 = .ok (.iload_n 3, 1) := by decide +kernel
theorem dX9_meetTwo_70 : decode cX9_meetTwo 70 = .ok (.ineg, 1) := by decide +kernel
theorem dX9_meetTwo_71 : decode cX9_meetTwo 71 = .ok (.goto 31, 3) := by decide +kernel
theorem dX9_meetTwo_74 : decode cX9_meetTwo 74 = .ok (.aload_n 0, 1) := by decide +kernel
theorem dX9_meetTwo_75 : decode cX9_meetTwo 75 = .ok (.getfield 103, 3) := by decide +kernel
theorem dX9_meetTwo_78 : decode cX9_meetTwo 78 = .ok (.iconst 2, 1) := by decide +kernel
theorem dX9_meetTwo_79 : decode cX9_meetTwo 79 = .ok (.if_icmp .ne 9, 3) := by decide +kernel
theorem dX9_meetTwo_82 : decode cX9_meetTwo 82 = .ok (.iload_n 3, 1) := by decide +kernel
theorem dX9_meetTwo_83 : decode cX9_meetTwo 83 = .ok (.iconst 2, 1) := by decide +kernel
theorem dX9_meetTwo_84 : decode cX9_meetTwo 84 = .ok (.idiv, 1) := by decide +kernel
theorem dX9_meetTwo_85 : decode cX9_meetTwo 85 = .ok (.goto 17, 3) := by decide +kernel
theorem dX9_meetTwo_88 : decode cX9_meetTwo 88 = .ok (.iload_n 3, 1) := by decide +kernel
theorem dX9_meetTwo_89 : decode cX9_meetTwo 89 = .ok (.iload 5, 2) := by decide +kernel
theorem dX9_meetTwo_91 : decode cX9_meetTwo 91 = .ok (.iconst 1, 1) := by decide +kernel
theorem dX9_meetTwo_92 : decode cX9_meetTwo 92 = .ok (.if_icmp .ge 7, 3) := by decide +kernel
theorem dX9_meetTwo_95 : decode cX9_meetTwo 95 = .ok (.iconst 1, 1) := by decide +kernel
theorem dX9_meetTwo_96 : decode cX9_meetTwo 96 = .ok (.goto 5, 3) := by decide +kernel
theorem dX9_meetTwo_99 : decode cX9_meetTwo 99 = .ok (.iload 5, 2) := by decide +kernel
theorem dX9_meetTwo_101 : decode cX9_meetTwo 101 = .ok (.imul, 1) := by decide +kernel
theorem dX9_meetTwo_102 : decode cX9_meetTwo 102 = .ok (.istore 6, 2) := by decide +kernel
theorem dX9_meetTwo_104 : decode cX9_meetTwo 104 = .ok (.iload_n 1, 1) := by decide +kernel
theorem dX9_meetTwo_105 : decode cX9_meetTwo 105 = .ok (.iload_n 2, 1) := by decide +kernel
theorem dX9_meetTwo_106 : decode cX9_meetTwo 106 = .ok (.if_icmp .ge 8, 3) := by decide +kernel
theorem dX9_meetTwo_109 : decode cX9_meetTwo 109 = .ok (.iload 6, 2) := by decide +kernel
theorem dX9_meetTwo_111 : decode cX9_meetTwo 111 = .ok (.goto 6, 3) := by decide +kernel
theorem dX9_meetTwo_114 : decode cX9_meetTwo 114 = .ok (.iload 6, 2) := by decide +kernel
theorem dX9_meetTwo_116 : decode cX9_meetTwo 116 = .ok (.ineg, 1) := by decide +kernel
theorem dX9_meetTwo_117 : decode cX9_meetTwo 117 = .ok (.istore 6, 2) := by decide +kernel
theorem dX9_meetTwo_119 : decode cX9_meetTwo 119 = .ok (.aload_n 0, 1) := by decide +kernel
theorem dX9_meetTwo_120 : decode cX9_meetTwo 120 = .ok (.iload_n 1, 1) := by decide +kernel
theorem dX9_meetTwo_121 : decode cX9_meetTwo 121 = .ok (.iload 6, 2) := by decide +kernel
theorem dX9_meetTwo_123 : decode cX9_meetTwo 123 = .ok (.iadd, 1) := by decide +kernel
theorem dX9_meetTwo_124 : decode cX9_meetTwo 124 = .ok (.ldc 132, 2) := by decide +kernel
theorem dX9_meetTwo_126 : decode cX9_meetTwo 126 = .ok (.if_icmp .le 8, 3) := by decide +kernel
theorem dX9_meetTwo_129 : decode cX9_meetTwo 129 = .ok (.ldc 132, 2) := by decide +kernel
theorem dX9_meetTwo_131 : decode cX9_meetTwo 131 = .ok (.goto 7, 3) := by decide +kernel
theorem dX9_meetTwo_134 : decode cX9_meetTwo 134 = .ok (.iload_n 1, 1) := by decide +kernel
theorem dX9_meetTwo_135 : decode cX9_meetTwo 135 = .ok (.iload 6, 2) := by decide +kernel
theorem dX9_meetTwo_137 : decode cX9_meetTwo 137 = .ok (.iadd, 1) := by decide +kernel
theorem dX9_meetTwo_138 : decode cX9_meetTwo 138 = .ok (.putfield 123, 3) := by decide +kernel
theorem dX9_meetTwo_141 : decode cX9_meetTwo 141 = .ok (.aload_n 0, 1) := by decide +kernel
theorem dX9_meetTwo_142 : decode cX9_meetTwo 142 = .ok (.iload_n 2, 1) := by decide +kernel
theorem dX9_meetTwo_143 : decode cX9_meetTwo 143 = .ok (.iload 6, 2) := by decide +kernel
theorem dX9_meetTwo_145 : decode cX9_meetTwo 145 = .ok (.isub, 1) := by decide +kernel
theorem dX9_meetTwo_146 : decode cX9_meetTwo 146 = .ok (.ldc 132, 2) := by decide +kernel
theorem dX9_meetTwo_148 : decode cX9_meetTwo 148 = .ok (.if_icmp .le 8, 3) := by decide +kernel
theorem dX9_meetTwo_151 : decode cX9_meetTwo 151 = .ok (.ldc 132, 2) := by decide +kernel
theorem dX9_meetTwo_153 : decode cX9_meetTwo 153 = .ok (.goto 7, 3) := by decide +kernel
theorem dX9_meetTwo_156 : decode cX9_meetTwo 156 = .ok (.iload_n 2, 1) := by decide +kernel
theorem dX9_meetTwo_157 : decode cX9_meetTwo 157 = .ok (.iload 6, 2) := by decide +kernel
theorem dX9_meetTwo_159 : decode cX9_meetTwo 159 = .ok (.isub, 1) := by decide +kernel
theorem dX9_meetTwo_160 : decode cX9_meetTwo 160 = .ok (.putfield 126, 3) := by decide +kernel
theorem dX9_meetTwo_163 : decode cX9_meetTwo 163 = .ok (.return_, 1) := by decide +kernel
set_option maxRecDepth 20000 in
theorem ggX9_areTwo_X9_isPerson : GoodIn wsX9_areTwo wsX9_isPerson := goodIn_r _ [5, 6, 7, 8, 4, 9, 10, 11, 12, 13, 14, 15, 16, 17, 18, 19, 20, 21, 22, 23, 24, 25, 26, 27, 28, 29, 30, 31, 32, 33, 34, 35, 36, 37, 38, 39, 40, 41, 42] (by decide +kernel) (by decide +kernel)
set_option maxRecDepth 20000 in
theorem gX9_areTwo_X9_isPerson : GoodIn wsX9_areTwo (wsV RX9 115 RX9 yX9_isPerson wsX9_isPerson) := goodIn_app (goodIn_of _ (by decide +kernel)) ggX9_areTwo_X9_isPerson
theorem dX9_areTwo_0 : decode cX9_areTwo 0 = .ok (.aload_n 0, 1) := by decide +kernel
theorem dX9_areTwo_1 : decode cX9_areTwo 1 = .ok (.iload_n 1, 1) := by decide +kernel
theorem dX9_areTwo_2 : decode cX9_areTwo 2 = .ok (.invokevirtual 115, 3) := by decide +kernel
theorem dX9_areTwo_5 : decode cX9_areTwo 5 = .ok (.ifCond .eq 15, 3) := by decide +kernel
theorem dX9_areTwo_8 : decode cX9_areTwo 8 = .ok (.aload_n 0, 1) := by decide +kernel
theorem dX9_areTwo_9 : decode cX9_areTwo 9 = .ok (.iload_n 2, 1) := by decide +kernel
theorem dX9_areTwo_10 : decode cX9_areTwo 10 = .ok (.invokevirtual 115, 3) := by decide +kernel
theorem dX9_areTwo_13 : decode cX9_areTwo 13 = .ok (.ifCond .eq 7, 3) := by decide +kernel
theorem dX9_areTwo_16 : decode cX9_areTwo 16 = .ok (.iconst 1, 1) := by decide +kernel
theorem dX9_areTwo_17 : decode cX9_areTwo 17 = .ok (.goto 4, 3) := by decide +kernel
theorem dX9_areTwo_20 : decode cX9_areTwo 20 = .ok (.iconst 0, 1) := by decide +kernel
theorem dX9_areTwo_21 : decode cX9_areTwo 21 = .ok (.ireturn, 1) := by decide +kernel
set_option maxRecDepth 20000 in
theorem ggX9_shared_X9_areTwo : GoodIn wsX9_shared wsX9_areTwo := goodIn_r _ [6, 7, 8, 9, 5, 10, 11, 12, 13, 14, 18, 19, 20, 21, 22, 23, 24, 25, 26, 27, 28, 29, 30, 31, 32, 33, 34, 35, 36, 37, 38, 39, 40, 41, 42, 43, 44, 45, 46, 47, 48, 49, 50] (by decide +kernel) (by decide +kernel)
set_option maxRecDepth 20000 in
theorem gX9_shared_X9_areTwo : GoodIn wsX9_shared (wsV RX9 133 RX9 yX9_areTwo wsX9_areTwo) := goodIn_app (goodIn_of _ (by decide +kernel)) ggX9_shared_X9_areTwo
set_option maxRecDepth 20000 in
theorem ggX9_shared_X9_sharedBy : GoodIn wsX9_shared wsX9_sharedBy := goodIn_r _ [17] (by decide +kernel) (by decide +kernel)
set_option maxRecDepth 20000 in
theorem gX9_shared_X9_sharedBy : GoodIn wsX9_shared (va_wsS RX9 129 yX9_sharedBy wsX9_sharedBy) := goodIn_app (goodIn_of _ (by decide +kernel)) ggX9_shared_X9_sharedBy
theorem dX9_shared_0 : decode cX9_shared 0 = .ok (.aload_n 0, 1) := by decide +kernel
theorem dX9_shared_1 : decode cX9_shared 1 = .ok (.iload_n 1, 1) := by decide +kernel
theorem dX9_shared_2 : decode cX9_shared 2 = .ok (.iload_n 2, 1) := by decide +kernel
theorem dX9_shared_3 : decode cX9_shared 3 = .ok (.invokevirtual 133, 3) := by decide +kernel
theorem dX9_shared_6 : decode cX9_shared 6 = .ok (.ifCond .ne 5, 3) := by decide +kernel
theorem dX9_shared_9 : decode cX9_shared 9 = .ok (.iconst (-1), 1) := by decide +kernel
theorem dX9_shared_10 : decode cX9_shared 10 = .ok (.ireturn, 1) := by decide +kernel
theorem dX9_shared_11 : decode cX9_shared 11 = .ok (.iload_n 1, 1) := by decide +kernel
theorem dX9_shared_12 : decode cX9_shared 12 = .ok (.iload_n 2, 1) := by decide +kernel
theorem dX9_shared_13 : decode cX9_shared 13 = .ok (.if_icmp .ne 8, 3) := by decide +kernel
theorem dX9_shared_16 : decode cX9_shared 16 = .ok (.bipush (-3), 2) := by decide +kernel
theorem dX9_shared_18 : decode cX9_shared 18 = .ok (.goto 18, 3) := by decide +kernel
theorem dX9_shared_21 : decode cX9_shared 21 = .ok (.aload_n 0, 1) := by decide +kernel
theorem dX9_shared_22 : decode cX9_shared 22 = .ok (.getfield 16, 3) := by decide +kernel
theorem dX9_shared_25 : decode cX9_shared 25 = .ok (.iload_n 1, 1) := by decide +kernel
theorem dX9_shared_26 : decode cX9_shared 26 = .ok (.iaload, 1) := by decide +kernel
theorem dX9_shared_27 : decode cX9_shared 27 = .ok (.aload_n 0, 1) := by decide +kernel
theorem dX9_shared_28 : decode cX9_shared 28 = .ok (.getfield 16, 3) := by decide +kernel
theorem dX9_shared_31 : decode cX9_shared 31 = .ok (.iload_n 2, 1) := by decide +kernel
theorem dX9_shared_32 : decode cX9_shared 32 = .ok (.iaload, 1) := by decide +kernel
theorem dX9_shared_33 : decode cX9_shared 33 = .ok (.invokestatic 129, 3) := by decide +kernel
theorem dX9_shared_36 : decode cX9_shared 36 = .ok (.ireturn, 1) := by decide +kernel
set_option maxRecDepth 20000 in
theorem ggX9_meet_X9_areTwo : GoodIn wsX9_meet wsX9_areTwo := goodIn_r _ [11, 12, 13, 14, 10, 15, 16, 17, 18, 19, 29, 30, 31, 32, 33, 34, 35, 36, 37, 38, 39, 40, 41, 42, 43, 44, 45, 46, 47, 48, 49, 50, 51, 52, 53, 54, 55, 56, 57, 58, 59, 60, 61] (by decide +kernel) (by decide +kernel)
set_option maxRecDepth 20000 in
theorem gX9_meet_X9_areTwo : GoodIn wsX9_meet (wsV RX9 133 RX9 yX9_areTwo wsX9_areTwo) := goodIn_app (goodIn_of _ (by decide +kernel)) ggX9_meet_X9_areTwo
set_option maxRecDepth 20000 in
theorem ggX9_meet_X9_meetTwo : GoodIn wsX9_meet wsX9_meetTwo := goodIn_r _ [23, 4, 5, 24, 25, 26, 27, 10, 28, 29, 30, 31, 32, 33, 34, 35, 36, 37, 38, 39, 40, 41, 42, 43, 44, 45, 46, 47, 48, 49, 50, 51, 52, 53, 54, 55, 56, 57, 58, 59, 60, 61] (by decide +kernel) (by decide +kernel)
set_option maxRecDepth 20000 in
theorem gX9_meet_X9_meetTwo : GoodIn wsX9_meet (wsV RX9 137 RX9 yX9_meetTwo wsX9_meetTwo) := goodIn_app (goodIn_of _ (by decide +kernel)) ggX9_meet_X9_meetTwo
theorem dX9_meet_0 : decode cX9_meet 0 = .ok (.aload_n 0, 1) := by decide +kernel
theorem dX9_meet_1 : decode cX9_meet 1 = .ok (.iload_n 1, 1) := by decide +kernel
theorem dX9_meet_2 : decode cX9_meet 2 = .ok (.iload_n 2, 1) := by decide +kernel
theorem dX9_meet_3 : decode cX9_meet 3 = .ok (.invokevirtual 133, 3) := by decide +kernel
theorem dX9_meet_6 : decode cX9_meet 6 = .ok (.ifCond .ne 5, 3) := by decide +kernel
theorem dX9_meet_9 : decode cX9_meet 9 = .ok (.iconst (-1), 1) := by decide +kernel
theorem dX9_meet_10 : decode cX9_meet 10 = .ok (.ireturn, 1) := by decide +kernel
theorem dX9_meet_11 : decode cX9_meet 11 = .ok (.iload_n 1, 1) := by decide +kernel
theorem dX9_meet_12 : decode cX9_meet 12 = .ok (.iload_n 2, 1) := by decide +kernel
theorem dX9_meet_13 : decode cX9_meet 13 = .ok (.if_icmp .ne 6, 3) := by decide +kernel
theorem dX9_meet_16 : decode cX9_meet 16 = .ok (.bipush (-3), 2) := by decide +kernel
theorem dX9_meet_18 : decode cX9_meet 18 = .ok (.ireturn, 1) := by decide +kernel
theorem dX9_meet_19 : decode cX9_meet 19 = .ok (.aload_n 0, 1) := by decide +kernel
theorem dX9_meet_20 : decode cX9_meet 20 = .ok (.getfield 109, 3) := by decide +kernel
theorem dX9_meet_23 : decode cX9_meet 23 = .ok (.bipush 32, 2) := by decide +kernel
theorem dX9_meet_25 : decode cX9_meet 25 = .ok (.if_icmp .ne 6, 3) := by decide +kernel
theorem dX9_meet_28 : decode cX9_meet 28 = .ok (.bipush (-4), 2) := by decide +kernel
theorem dX9_meet_30 : decode cX9_meet 30 = .ok (.ireturn, 1) := by decide +kernel
theorem dX9_meet_31 : decode cX9_meet 31 = .ok (.iconst 4, 1) := by decide +kernel
theorem dX9_meet_32 : decode cX9_meet 32 = .ok (.aload_n 0, 1) := by decide +kernel
theorem dX9_meet_33 : decode cX9_meet 33 = .ok (.getfield 109, 3) := by decide +kernel
theorem dX9_meet_36 : decode cX9_meet 36 = .ok (.imul, 1) := by decide +kernel
theorem dX9_meet_37 : decode cX9_meet 37 = .ok (.istore_n 3, 1) := by decide +kernel
theorem dX9_meet_38 : decode cX9_meet 38 = .ok (.aload_n 0, 1) := by decide +kernel
theorem dX9_meet_39 : decode cX9_meet 39 = .ok (.getfield 25, 3) := by decide +kernel
theorem dX9_meet_42 : decode cX9_meet 42 = .ok (.iload_n 3, 1) := by decide +kernel
theorem dX9_meet_43 : decode cX9_meet 43 = .ok (.iload_n 1, 1) := by decide +kernel
theorem dX9_meet_44 : decode cX9_meet 44 = .ok (.iastore, 1) := by decide +kernel
theorem dX9_meet_45 : decode cX9_meet 45 = .ok (.aload_n 0, 1) := by decide +kernel
theorem dX9_meet_46 : decode cX9_meet 46 = .ok (.getfield 25, 3) := by decide +kernel
theorem dX9_meet_49 : decode cX9_meet 49 = .ok (.iload_n 3, 1) := by decide +kernel
theorem dX9_meet_50 : decode cX9_meet 50 = .ok (.iconst 1, 1) := by decide +kernel
theorem dX9_meet_51 : decode cX9_meet 51 = .ok (.iadd, 1) := by decide +kernel
theorem dX9_meet_52 : decode cX9_meet 52 = .ok (.iload_n 2, 1) := by decide +kernel
theorem dX9_meet_53 : decode cX9_meet 53 = .ok (.iastore, 1) := by decide +kernel
theorem dX9_meet_54 : decode cX9_meet 54 = .ok (.aload_n 0, 1) := by decide +kernel
theorem dX9_meet_55 : decode cX9_meet 55 = .ok (.getfield 25, 3) := by decide +kernel
theorem dX9_meet_58 : decode cX9_meet 58 = .ok (.iload_n 3, 1) := by decide +kernel
theorem dX9_meet_59 : decode cX9_meet 59 = .ok (.iconst 2, 1) := by decide +kernel
theorem dX9_meet_60 : decode cX9_meet 60 = .ok (.iadd, 1) := by decide +kernel
theorem dX9_meet_61 : decode cX9_meet 61 = .ok (.aload_n 0, 1) := by decide +kernel
theorem dX9_meet_62 : decode cX9_meet 62 = .ok (.getfield 16, 3) := by decide +kernel
theorem dX9_meet_65 : decode cX9_meet 65 = .ok (.iload_n 1, 1) := by decide +kernel
theorem dX9_meet_66 : decode cX9_meet 66 = .ok (.iaload, 1) := by decide +kernel
theorem dX9_meet_67 : decode cX9_meet 67 = .ok (.iastore, 1) := by decide +kernel
theorem dX9_meet_68 : decode cX9_meet 68 = .ok (.aload_n 0, 1) := by decide +kernel
theorem dX9_meet_69 : decode cX9_meet 69 = .ok (.getfield 25, 3) := by decide +kernel
theorem dX9_meet_72 : decode cX9_meet 72 = .ok (.iload_n 3, 1) := by decide +kernel
theorem dX9_meet_73 : decode cX9_meet 73 = .ok (.iconst 3, 1) := by decide +kernel
theorem dX9_meet_74 : decode cX9_meet 74 = .ok (.iadd, 1) := by decide +kernel
theorem dX9_meet_75 : decode cX9_meet 75 = .ok (.aload_n 0, 1) := by decide +kernel
theorem dX9_meet_76 : decode cX9_meet 76 = .ok (.getfield 16, 3) := by decide +kernel
theorem dX9_meet_79 : decode cX9_meet 79 = .ok (.iload_n 2, 1) := by decide +kernel
theorem dX9_meet_80 : decode cX9_meet 80 = .ok (.iaload, 1) := by decide +kernel
theorem dX9_meet_81 : decode cX9_meet 81 = .ok (.iastore, 1) := by decide +kernel
theorem dX9_meet_82 : decode cX9_meet 82 = .ok (.aload_n 0, 1) := by decide +kernel
theorem dX9_meet_83 : decode cX9_meet 83 = .ok (.dup, 1) := by decide +kernel
theorem dX9_meet_84 : decode cX9_meet 84 = .ok (.getfield 109, 3) := by decide +kernel
theorem dX9_meet_87 : decode cX9_meet 87 = .ok (.iconst 1, 1) := by decide +kernel
theorem dX9_meet_88 : decode cX9_meet 88 = .ok (.iadd, 1) := by decide +kernel
theorem dX9_meet_89 : decode cX9_meet 89 = .ok (.putfield 109, 3) := by decide +kernel
theorem dX9_meet_92 : decode cX9_meet 92 = .ok (.aload_n 0, 1) := by decide +kernel
theorem dX9_meet_93 : decode cX9_meet 93 = .ok (.aload_n 0, 1) := by decide +kernel
theorem dX9_meet_94 : decode cX9_meet 94 = .ok (.getfield 16, 3) := by decide +kernel
theorem dX9_meet_97 : decode cX9_meet 97 = .ok (.iload_n 1, 1) := by decide +kernel
theorem dX9_meet_98 : decode cX9_meet 98 = .ok (.iaload, 1) := by decide +kernel
theorem dX9_meet_99 : decode cX9_meet 99 = .ok (.aload_n 0, 1) := by decide +kernel
theorem dX9_meet_100 : decode cX9_meet 100 = .ok (.getfield 16, 3) := by decide +kernel
theorem dX9_meet_103 : decode cX9_meet 103 = .ok (.iload_n 2, 1) := by decide +kernel
theorem dX9_meet_104 : decode cX9_meet 104 = .ok (.iaload, 1) := by decide +kernel
theorem dX9_meet_105 : decode cX9_meet 105 = .ok (.invokevirtual 137, 3) := by decide +kernel
theorem dX9_meet_108 : decode cX9_meet 108 = .ok (.aload_n 0, 1) := by decide +kernel
theorem dX9_meet_109 : decode cX9_meet 109 = .ok (.getfield 16, 3) := by decide +kernel
theorem dX9_meet_112 : decode cX9_meet 112 = .ok (.iload_n 1, 1) := by decide +kernel
theorem dX9_meet_113 : decode cX9_meet 113 = .ok (.aload_n 0, 1) := by decide +kernel
theorem dX9_meet_114 : decode cX9_meet 114 = .ok (.getfield 123, 3) := by decide +kernel
theorem dX9_meet_117 : decode cX9_meet 117 = .ok (.iastore, 1) := by decide +kernel
theorem dX9_meet_118 : decode cX9_meet 118 = .ok (.aload_n 0, 1) := by decide +kernel
theorem dX9_meet_119 : decode cX9_meet 119 = .ok (.getfield 16, 3) := by decide +kernel
theorem dX9_meet_122 : decode cX9_meet 122 = .ok (.iload_n 2, 1) := by decide +kernel
theorem dX9_meet_123 : decode cX9_meet 123 = .ok (.aload_n 0, 1) := by decide +kernel
theorem dX9_meet_124 : decode cX9_meet 124 = .ok (.getfield 126, 3) := by decide +kernel
theorem dX9_meet_127 : decode cX9_meet 127 = .ok (.iastore, 1) := by decide +kernel
theorem dX9_meet_128 : decode cX9_meet 128 = .ok (.ldc 141, 2) := by decide +kernel
theorem dX9_meet_130 : decode cX9_meet 130 = .ok (.aload_n 0, 1) := by decide +kernel
theorem dX9_meet_131 : decode cX9_meet 131 = .ok (.getfield 123, 3) := by decide +kernel
theorem dX9_meet_134 : decode cX9_meet 134 = .ok (.iadd, 1) := by decide +kernel
theorem dX9_meet_135 : decode cX9_meet 135 = .ok (.aload_n 0, 1) := by decide +kernel
theorem dX9_meet_136 : decode cX9_meet 136 = .ok (.getfield 25, 3) := by decide +kernel
theorem dX9_meet_139 : decode cX9_meet 139 = .ok (.iload_n 3, 1) := by decide +kernel
theorem dX9_meet_140 : decode cX9_meet 140 = .ok (.iconst 2, 1) := by decide +kernel
theorem dX9_meet_141 : decode cX9_meet 141 = .ok (.iadd, 1) := by decide +kernel
theorem dX9_meet_142 : decode cX9_meet 142 = .ok (.iaload, 1) := by decide +kernel
theorem dX9_meet_143 : decode cX9_meet 143 = .ok (.isub, 1) := by decide +kernel
theorem dX9_meet_144 : decode cX9_meet 144 = .ok (.ireturn, 1) := by decide +kernel
theorem dX9_back_0 : decode cX9_back 0 = .ok (.aload_n 0, 1) := by decide +kernel
theorem dX9_back_1 : decode cX9_back 1 = .ok (.getfield 109, 3) := by decide +kernel
theorem dX9_back_4 : decode cX9_back 4 = .ok (.ifCond .ne 6, 3) := by decide +kernel
theorem dX9_back_7 : decode cX9_back 7 = .ok (.bipush (-3), 2) := by decide +kernel
theorem dX9_back_9 : decode cX9_back 9 = .ok (.ireturn, 1) := by decide +kernel
theorem dX9_back_10 : decode cX9_back 10 = .ok (.aload_n 0, 1) := by decide +kernel
theorem dX9_back_11 : decode cX9_back 11 = .ok (.dup, 1) := by decide +kernel
theorem dX9_back_12 : decode cX9_back 12 = .ok (.getfield 109, 3) := by decide +kernel
theorem dX9_back_15 : decode cX9_back 15 = .ok (.iconst 1, 1) := by decide +kernel
theorem dX9_back_16 : decode cX9_back 16 = .ok (.isub, 1) := by decide +kernel
theorem dX9_back_17 : decode cX9_back 17 = .ok (.putfield 109, 3) := by decide +kernel
theorem dX9_back_20 : decode cX9_back 20 = .ok (.iconst 4, 1) := by decide +kernel
theorem dX9_back_21 : decode cX9_back 21 = .ok (.aload_n 0, 1) := by decide +kernel
theorem dX9_back_22 : decode cX9_back 22 = .ok (.getfield 109, 3) := by decide +kernel
theorem dX9_back_25 : decode cX9_back 25 = .ok (.imul, 1) := by decide +kernel
theorem dX9_back_26 : decode cX9_back 26 = .ok (.istore_n 1, 1) := by decide +kernel
theorem dX9_back_27 : decode cX9_back 27 = .ok (.aload_n 0, 1) := by decide +kernel
theorem dX9_back_28 : decode cX9_back 28 = .ok (.getfield 16, 3) := by decide +kernel
theorem dX9_back_31 : decode cX9_back 31 = .ok (.aload_n 0, 1) := by decide +kernel
theorem dX9_back_32 : decode cX9_back 32 = .ok (.getfield 25, 3) := by decide +kernel
theorem dX9_back_35 : decode cX9_back 35 = .ok (.iload_n 1, 1) := by decide +kernel
theorem dX9_back_36 : decode cX9_back 36 = .ok (.iaload, 1) := by decide +kernel
theorem dX9_back_37 : decode cX9_back 37 = .ok (.aload_n 0, 1) := by decide +kernel
theorem dX9_back_38 : decode cX9_back 38 = .ok (.getfield 25, 3) := by decide +kernel
theorem dX9_back_41 : decode cX9_back 41 = .ok (.iload_n 1, 1) := by decide +kernel
theorem dX9_back_42 : decode cX9_back 42 = .ok (.iconst 2, 1) := by decide +kernel
theorem dX9_back_43 : decode cX9_back 43 = .ok (.iadd, 1) := by decide +kernel
theorem dX9_back_44 : decode cX9_back 44 = .ok (.iaload, 1) := by decide +kernel
theorem dX9_back_45 : decode cX9_back 45 = .ok (.iastore, 1) := by decide +kernel
theorem dX9_back_46 : decode cX9_back 46 = .ok (.aload_n 0, 1) := by decide +kernel
theorem dX9_back_47 : decode cX9_back 47 = .ok (.getfield 16, 3) := by decide +kernel
theorem dX9_back_50 : decode cX9_back 50 = .ok (.aload_n 0, 1) := by decide +kernel
theorem dX9_back_51 : decode cX9_back 51 = .ok (.getfield 25, 3) := by decide +kernel
theorem dX9_back_54 : decode cX9_back 54 = .ok (.iload_n 1, 1) := by decide +kernel
theorem dX9_back_55 : decode cX9_back 55 = .ok (.iconst 1, 1) := by decide +kernel
theorem dX9_back_56 : decode cX9_back 56 = .ok (.iadd, 1) := by decide +kernel
theorem dX9_back_57 : decode cX9_back 57 = .ok (.iaload, 1) := by decide +kernel
theorem dX9_back_58 : decode cX9_back 58 = .ok (.aload_n 0, 1) := by decide +kernel
theorem dX9_back_59 : decode cX9_back 59 = .ok (.getfield 25, 3) := by decide +kernel
theorem dX9_back_62 : decode cX9_back 62 = .ok (.iload_n 1, 1) := by decide +kernel
theorem dX9_back_63 : decode cX9_back 63 = .ok (.iconst 3, 1) := by decide +kernel
theorem dX9_back_64 : decode cX9_back 64 = .ok (.iadd, 1) := by decide +kernel
theorem dX9_back_65 : decode cX9_back 65 = .ok (.iaload, 1) := by decide +kernel
theorem dX9_back_66 : decode cX9_back 66 = .ok (.iastore, 1) := by decide +kernel
theorem dX9_back_67 : decode cX9_back 67 = .ok (.aload_n 0, 1) := by decide +kernel
theorem dX9_back_68 : decode cX9_back 68 = .ok (.getfield 109, 3) := by decide +kernel
theorem dX9_back_71 : decode cX9_back 71 = .ok (.ireturn, 1) := by decide +kernel
theorem dX9_takeTried_0 : decode cX9_takeTried 0 = .ok (.iconst 0, 1) := by decide +kernel
theorem dX9_takeTried_1 : decode cX9_takeTried 1 = .ok (.istore_n 1, 1) := by decide +kernel
theorem dX9_takeTried_2 : decode cX9_takeTried 2 = .ok (.iload_n 1, 1) := by decide +kernel
theorem dX9_takeTried_3 : decode cX9_takeTried 3 = .ok (.bipush 8, 2) := by decide +kernel
theorem dX9_takeTried_5 : decode cX9_takeTried 5 = .ok (.if_icmp .ge 21, 3) := by decide +kernel
theorem dX9_takeTried_8 : decode cX9_takeTried 8 = .ok (.aload_n 0, 1) := by decide +kernel
theorem dX9_takeTried_9 : decode cX9_takeTried 9 = .ok (.getfield 28, 3) := by decide +kernel
theorem dX9_takeTried_12 : decode cX9_takeTried 12 = .ok (.iload_n 1, 1) := by decide +kernel
theorem dX9_takeTried_13 : decode cX9_takeTried 13 = .ok (.aload_n 0, 1) := by decide +kernel
theorem dX9_takeTried_14 : decode cX9_takeTried 14 = .ok (.getfield 16, 3) := by decide +kernel
theorem dX9_takeTried_17 : decode cX9_takeTried 17 = .ok (.iload_n 1, 1) := by decide +kernel
theorem dX9_takeTried_18 : decode cX9_takeTried 18 = .ok (.iaload, 1) := by decide +kernel
theorem dX9_takeTried_19 : decode cX9_takeTried 19 = .ok (.iastore, 1) := by decide +kernel
theorem dX9_takeTried_20 : decode cX9_takeTried 20 = .ok (.iinc 1 1, 3) := by decide +kernel
theorem dX9_takeTried_23 : decode cX9_takeTried 23 = .ok (.goto (-21), 3) := by decide +kernel
theorem dX9_takeTried_26 : decode cX9_takeTried 26 = .ok (.return_, 1) := by decide +kernel
set_option maxRecDepth 20000 in
theorem ggX9_tryDaily_X9_meetTwo : GoodIn wsX9_tryDaily wsX9_meetTwo := goodIn_r _ [9, 3, 4, 10, 11, 12, 13, 8, 14, 15, 16, 17, 18, 19, 20, 21, 22, 23, 24, 25, 26, 27, 28, 29, 30, 31, 32, 33, 34, 35, 36, 37, 38, 39, 40, 41, 42, 43, 44, 45, 46, 47] (by decide +kernel) (by decide +kernel)
set_option maxRecDepth 20000 in
theorem gX9_tryDaily_X9_meetTwo : GoodIn wsX9_tryDaily (wsV RX9 137 RX9 yX9_meetTwo wsX9_meetTwo) := goodIn_app (goodIn_of _ (by decide +kernel)) ggX9_tryDaily_X9_meetTwo
theorem dX9_tryDaily_0 : decode cX9_tryDaily 0 = .ok (.aload_n 0, 1) := by decide +kernel
theorem dX9_tryDaily_1 : decode cX9_tryDaily 1 = .ok (.getfield 19, 3) := by decide +kernel
theorem dX9_tryDaily_4 : decode cX9_tryDaily 4 = .ok (.iconst 2, 1) := by decide +kernel
theorem dX9_tryDaily_5 : decode cX9_tryDaily 5 = .ok (.iload_n 1, 1) := by decide +kernel
theorem dX9_tryDaily_6 : decode cX9_tryDaily 6 = .ok (.imul, 1) := by decide +kernel
theorem dX9_tryDaily_7 : decode cX9_tryDaily 7 = .ok (.iaload, 1) := by decide +kernel
theorem dX9_tryDaily_8 : decode cX9_tryDaily 8 = .ok (.istore_n 2, 1) := by decide +kernel
theorem dX9_tryDaily_9 : decode cX9_tryDaily 9 = .ok (.aload_n 0, 1) := by decide +kernel
theorem dX9_tryDaily_10 : decode cX9_tryDaily 10 = .ok (.getfield 19, 3) := by decide +kernel
theorem dX9_tryDaily_13 : decode cX9_tryDaily 13 = .ok (.iconst 2, 1) := by decide +kernel
theorem dX9_tryDaily_14 : decode cX9_tryDaily 14 = .ok (.iload_n 1, 1) := by decide +kernel
theorem dX9_tryDaily_15 : decode cX9_tryDaily 15 = .ok (.imul, 1) := by decide +kernel
theorem dX9_tryDaily_16 : decode cX9_tryDaily 16 = .ok (.iconst 1, 1) := by decide +kernel
theorem dX9_tryDaily_17 : decode cX9_tryDaily 17 = .ok (.iadd, 1) := by decide +kernel
theorem dX9_tryDaily_18 : decode cX9_tryDaily 18 = .ok (.iaload, 1) := by decide +kernel
theorem dX9_tryDaily_19 : decode cX9_tryDaily 19 = .ok (.istore_n 3, 1) := by decide +kernel
theorem dX9_tryDaily_20 : decode cX9_tryDaily 20 = .ok (.aload_n 0, 1) := by decide +kernel
theorem dX9_tryDaily_21 : decode cX9_tryDaily 21 = .ok (.aload_n 0, 1) := by decide +kernel
theorem dX9_tryDaily_22 : decode cX9_tryDaily 22 = .ok (.getfield 28, 3) := by decide +kernel
theorem dX9_tryDaily_25 : decode cX9_tryDaily 25 = .ok (.iload_n 2, 1) := by decide +kernel
theorem dX9_tryDaily_26 : decode cX9_tryDaily 26 = .ok (.iaload, 1) := by decide +kernel
theorem dX9_tryDaily_27 : decode cX9_tryDaily 27 = .ok (.aload_n 0, 1) := by decide +kernel
theorem dX9_tryDaily_28 : decode cX9_tryDaily 28 = .ok (.getfield 28, 3) := by decide +kernel
theorem dX9_tryDaily_31 : decode cX9_tryDaily 31 = .ok (.iload_n 3, 1) := by decide +kernel
theorem dX9_tryDaily_32 : decode cX9_tryDaily 32 = .ok (.iaload, 1) := by decide +kernel
theorem dX9_tryDaily_33 : decode cX9_tryDaily 33 = .ok (.invokevirtual 137, 3) := by decide +kernel
theorem dX9_tryDaily_36 : decode cX9_tryDaily 36 = .ok (.aload_n 0, 1) := by decide +kernel
theorem dX9_tryDaily_37 : decode cX9_tryDaily 37 = .ok (.getfield 123, 3) := by decide +kernel
theorem dX9_tryDaily_40 : decode cX9_tryDaily 40 = .ok (.aload_n 0, 1) := by decide +kernel
theorem dX9_tryDaily_41 : decode cX9_tryDaily 41 = .ok (.getfield 28, 3) := by decide +kernel
theorem dX9_tryDaily_44 : decode cX9_tryDaily 44 = .ok (.iload_n 2, 1) := by decide +kernel
theorem dX9_tryDaily_45 : decode cX9_tryDaily 45 = .ok (.iaload, 1) := by decide +kernel
theorem dX9_tryDaily_46 : decode cX9_tryDaily 46 = .ok (.if_icmp .ne 16, 3) := by decide +kernel
theorem dX9_tryDaily_49 : decode cX9_tryDaily 49 = .ok (.aload_n 0, 1) := by decide +kernel
theorem dX9_tryDaily_50 : decode cX9_tryDaily 50 = .ok (.getfield 126, 3) := by decide +kernel
theorem dX9_tryDaily_53 : decode cX9_tryDaily 53 = .ok (.aload_n 0, 1) := by decide +kernel
theorem dX9_tryDaily_54 : decode cX9_tryDaily 54 = .ok (.getfield 28, 3) := by decide +kernel
theorem dX9_tryDaily_57 : decode cX9_tryDaily 57 = .ok (.iload_n 3, 1) := by decide +kernel
theorem dX9_tryDaily_58 : decode cX9_tryDaily 58 = .ok (.iaload, 1) := by decide +kernel
theorem dX9_tryDaily_59 : decode cX9_tryDaily 59 = .ok (.if_icmp .eq 7, 3) := by decide +kernel
theorem dX9_tryDaily_62 : decode cX9_tryDaily 62 = .ok (.iconst 1, 1) := by decide +kernel
theorem dX9_tryDaily_63 : decode cX9_tryDaily 63 = .ok (.goto 4, 3) := by decide +kernel
theorem dX9_tryDaily_66 : decode cX9_tryDaily 66 = .ok (.iconst 0, 1) := by decide +kernel
theorem dX9_tryDaily_67 : decode cX9_tryDaily 67 = .ok (.istore 4, 2) := by decide +kernel
theorem dX9_tryDaily_69 : decode cX9_tryDaily 69 = .ok (.aload_n 0, 1) := by decide +kernel
theorem dX9_tryDaily_70 : decode cX9_tryDaily 70 = .ok (.getfield 28, 3) := by decide +kernel
theorem dX9_tryDaily_73 : decode cX9_tryDaily 73 = .ok (.iload_n 2, 1) := by decide +kernel
theorem dX9_tryDaily_74 : decode cX9_tryDaily 74 = .ok (.aload_n 0, 1) := by decide +kernel
theorem dX9_tryDaily_75 : decode cX9_tryDaily 75 = .ok (.getfield 123, 3) := by decide +kernel
theorem dX9_tryDaily_78 : decode cX9_tryDaily 78 = .ok (.iastore, 1) := by decide +kernel
theorem dX9_tryDaily_79 : decode cX9_tryDaily 79 = .ok (.aload_n 0, 1) := by decide +kernel
theorem dX9_tryDaily_80 : decode cX9_tryDaily 80 = .ok (.getfield 28, 3) := by decide +kernel
theorem dX9_tryDaily_83 : decode cX9_tryDaily 83 = .ok (.iload_n 3, 1) := by decide +kernel
theorem dX9_tryDaily_84 : decode cX9_tryDaily 84 = .ok (.aload_n 0, 1) := by decide +kernel
theorem dX9_tryDaily_85 : decode cX9_tryDaily 85 = .ok (.getfield 126, 3) := by decide +kernel
theorem dX9_tryDaily_88 : decode cX9_tryDaily 88 = .ok (.iastore, 1) := by decide +kernel
theorem dX9_tryDaily_89 : decode cX9_tryDaily 89 = .ok (.iload 4, 2) := by decide +kernel
theorem dX9_tryDaily_91 : decode cX9_tryDaily 91 = .ok (.ireturn, 1) := by decide +kernel
set_option maxRecDepth 20000 in
theorem ggX9_tryDay_X9_tryDaily : GoodIn wsX9_tryDay wsX9_tryDaily := goodIn_r _ [6, 7, 8, 9, 10, 11, 12, 13, 5, 14, 15, 16, 17, 18, 19, 20, 21, 22, 23, 24, 25, 26, 27, 28, 29, 30, 31, 32, 33, 34, 35, 36, 37, 38, 39, 40, 41, 42, 43, 44, 45, 46, 47, 48, 49, 50, 51, 52] (by decide +kernel) (by decide +kernel)
set_option maxRecDepth 20000 in
theorem gX9_tryDay_X9_tryDaily : GoodIn wsX9_tryDay (wsV RX9 142 RX9 yX9_tryDaily wsX9_tryDaily) := goodIn_app (goodIn_of _ (by decide +kernel)) ggX9_tryDay_X9_tryDaily
theorem dX9_tryDay_0 : decode cX9_tryDay 0 = .ok (.iconst 0, 1) := by decide +kernel
theorem dX9_tryDay_1 : decode cX9_tryDay 1 = .ok (.istore_n 1, 1) := by decide +kernel
theorem dX9_tryDay_2 : decode cX9_tryDay 2 = .ok (.iconst 0, 1) := by decide +kernel
theorem dX9_tryDay_3 : decode cX9_tryDay 3 = .ok (.istore_n 2, 1) := by decide +kernel
