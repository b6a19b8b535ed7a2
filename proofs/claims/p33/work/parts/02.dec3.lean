theorem dX8_keep_10 : decode cX8_keep 10 = .ok (.ireturn, 1) := by decide +kernel
theorem dX8_keep_11 : decode cX8_keep 11 = .ok (.aload_n 0, 1) := by decide +kernel
theorem dX8_keep_12 : decode cX8_keep 12 = .ok (.iload_n 1, 1) := by decide +kernel
theorem dX8_keep_13 : decode cX8_keep 13 = .ok (.invokevirtual 235, 3) := by decide +kernel
theorem dX8_keep_16 : decode cX8_keep 16 = .ok (.aload_n 0, 1) := by decide +kernel
theorem dX8_keep_17 : decode cX8_keep 17 = .ok (.getfield 26, 3) := by decide +kernel
theorem dX8_keep_20 : decode cX8_keep 20 = .ok (.invokevirtual 239, 3) := by decide +kernel
theorem dX8_keep_23 : decode cX8_keep 23 = .ok (.aload_n 0, 1) := by decide +kernel
theorem dX8_keep_24 : decode cX8_keep 24 = .ok (.getfield 26, 3) := by decide +kernel
theorem dX8_keep_27 : decode cX8_keep 27 = .ok (.getfield 115, 3) := by decide +kernel
theorem dX8_keep_30 : decode cX8_keep 30 = .ok (.ireturn, 1) := by decide +kernel
set_option maxRecDepth 20000 in
theorem ggX8_again_X8_slotAt : GoodIn wsX8_again wsX8_slotAt := goodIn_r _ [6, 7, 8, 41, 42, 43, 44, 45, 46, 47, 48, 49, 50, 51] (by decide +kernel) (by decide +kernel)
set_option maxRecDepth 20000 in
theorem gX8_again_X8_slotAt : GoodIn wsX8_again (wsV RX8 235 RX8 yX8_slotAt wsX8_slotAt) := goodIn_app (goodIn_of _ (by decide +kernel)) ggX8_again_X8_slotAt
set_option maxRecDepth 20000 in
theorem ggX8_again_X1_become : GoodIn wsX8_again wsX1_become := goodIn_r _ [12, 13, 14, 15, 16, 17, 18, 19, 20, 21, 22, 23, 24, 25, 26, 27, 28, 29, 30, 31, 32, 33, 34, 35, 36, 37, 38, 39, 40] (by decide +kernel) (by decide +kernel)
set_option maxRecDepth 20000 in
theorem gX8_again_X1_become_n239 : GoodIn wsX8_again (wsX1_become) := ggX8_again_X1_become
theorem dX8_again_0 : decode cX8_again 0 = .ok (.iload_n 1, 1) := by decide +kernel
theorem dX8_again_1 : decode cX8_again 1 = .ok (.ifCond .lt 8, 3) := by decide +kernel
theorem dX8_again_4 : decode cX8_again 4 = .ok (.iload_n 1, 1) := by decide +kernel
theorem dX8_again_5 : decode cX8_again 5 = .ok (.iconst 2, 1) := by decide +kernel
theorem dX8_again_6 : decode cX8_again 6 = .ok (.if_icmp .lt 5, 3) := by decide +kernel
theorem dX8_again_9 : decode cX8_again 9 = .ok (.iconst (-1), 1) := by decide +kernel
theorem dX8_again_10 : decode cX8_again 10 = .ok (.ireturn, 1) := by decide +kernel
theorem dX8_again_11 : decode cX8_again 11 = .ok (.aload_n 0, 1) := by decide +kernel
theorem dX8_again_12 : decode cX8_again 12 = .ok (.iload_n 1, 1) := by decide +kernel
theorem dX8_again_13 : decode cX8_again 13 = .ok (.invokevirtual 235, 3) := by decide +kernel
theorem dX8_again_16 : decode cX8_again 16 = .ok (.astore_n 2, 1) := by decide +kernel
theorem dX8_again_17 : decode cX8_again 17 = .ok (.aload_n 2, 1) := by decide +kernel
theorem dX8_again_18 : decode cX8_again 18 = .ok (.getfield 101, 3) := by decide +kernel
theorem dX8_again_21 : decode cX8_again 21 = .ok (.ifCond .ne 6, 3) := by decide +kernel
theorem dX8_again_24 : decode cX8_again 24 = .ok (.bipush (-3), 2) := by decide +kernel
theorem dX8_again_26 : decode cX8_again 26 = .ok (.ireturn, 1) := by decide +kernel
theorem dX8_again_27 : decode cX8_again 27 = .ok (.aload_n 0, 1) := by decide +kernel
theorem dX8_again_28 : decode cX8_again 28 = .ok (.getfield 26, 3) := by decide +kernel
theorem dX8_again_31 : decode cX8_again 31 = .ok (.aload_n 2, 1) := by decide +kernel
theorem dX8_again_32 : decode cX8_again 32 = .ok (.invokevirtual 239, 3) := by decide +kernel
theorem dX8_again_35 : decode cX8_again 35 = .ok (.aload_n 0, 1) := by decide +kernel
theorem dX8_again_36 : decode cX8_again 36 = .ok (.getfield 26, 3) := by decide +kernel
theorem dX8_again_39 : decode cX8_again 39 = .ok (.getfield 115, 3) := by decide +kernel
theorem dX8_again_42 : decode cX8_again 42 = .ok (.ireturn, 1) := by decide +kernel
set_option maxRecDepth 20000 in
theorem ggX8_count_X1_sumOfPurses : GoodIn wsX8_count wsX1_sumOfPurses := goodIn_r _ [7, 8, 9, 28, 29, 30, 31, 32, 33, 34, 35, 36, 37, 38, 39] (by decide +kernel) (by decide +kernel)
set_option maxRecDepth 20000 in
theorem gX8_count_X1_sumOfPurses_n242 : GoodIn wsX8_count (wsX1_sumOfPurses) := ggX8_count_X1_sumOfPurses
theorem dX8_count_0 : decode cX8_count 0 = .ok (.iload_n 1, 1) := by decide +kernel
theorem dX8_count_1 : decode cX8_count 1 = .ok (.tableswitch 99 0 6 #[43, 51, 59, 67, 75, 83, 91], 43) := by decide +kernel
theorem dX8_count_44 : decode cX8_count 44 = .ok (.aload_n 0, 1) := by decide +kernel
theorem dX8_count_45 : decode cX8_count 45 = .ok (.getfield 10, 3) := by decide +kernel
theorem dX8_count_48 : decode cX8_count 48 = .ok (.getfield 79, 3) := by decide +kernel
theorem dX8_count_51 : decode cX8_count 51 = .ok (.ireturn, 1) := by decide +kernel
theorem dX8_count_52 : decode cX8_count 52 = .ok (.aload_n 0, 1) := by decide +kernel
theorem dX8_count_53 : decode cX8_count 53 = .ok (.getfield 26, 3) := by decide +kernel
theorem dX8_count_56 : decode cX8_count 56 = .ok (.getfield 75, 3) := by decide +kernel
theorem dX8_count_59 : decode cX8_count 59 = .ok (.ireturn, 1) := by decide +kernel
theorem dX8_count_60 : decode cX8_count 60 = .ok (.aload_n 0, 1) := by decide +kernel
theorem dX8_count_61 : decode cX8_count 61 = .ok (.getfield 19, 3) := by decide +kernel
theorem dX8_count_64 : decode cX8_count 64 = .ok (.getfield 183, 3) := by decide +kernel
theorem dX8_count_67 : decode cX8_count 67 = .ok (.ireturn, 1) := by decide +kernel
theorem dX8_count_68 : decode cX8_count 68 = .ok (.aload_n 0, 1) := by decide +kernel
theorem dX8_count_69 : decode cX8_count 69 = .ok (.getfield 26, 3) := by decide +kernel
theorem dX8_count_72 : decode cX8_count 72 = .ok (.getfield 115, 3) := by decide +kernel
theorem dX8_count_75 : decode cX8_count 75 = .ok (.ireturn, 1) := by decide +kernel
theorem dX8_count_76 : decode cX8_count 76 = .ok (.aload_n 0, 1) := by decide +kernel
theorem dX8_count_77 : decode cX8_count 77 = .ok (.getfield 26, 3) := by decide +kernel
theorem dX8_count_80 : decode cX8_count 80 = .ok (.getfield 199, 3) := by decide +kernel
theorem dX8_count_83 : decode cX8_count 83 = .ok (.ireturn, 1) := by decide +kernel
theorem dX8_count_84 : decode cX8_count 84 = .ok (.aload_n 0, 1) := by decide +kernel
theorem dX8_count_85 : decode cX8_count 85 = .ok (.getfield 26, 3) := by decide +kernel
theorem dX8_count_88 : decode cX8_count 88 = .ok (.invokevirtual 242, 3) := by decide +kernel
theorem dX8_count_91 : decode cX8_count 91 = .ok (.ireturn, 1) := by decide +kernel
theorem dX8_count_92 : decode cX8_count 92 = .ok (.aload_n 0, 1) := by decide +kernel
theorem dX8_count_93 : decode cX8_count 93 = .ok (.getfield 26, 3) := by decide +kernel
theorem dX8_count_96 : decode cX8_count 96 = .ok (.getfield 118, 3) := by decide +kernel
theorem dX8_count_99 : decode cX8_count 99 = .ok (.ireturn, 1) := by decide +kernel
theorem dX8_count_100 : decode cX8_count 100 = .ok (.bipush (-2), 2) := by decide +kernel
theorem dX8_count_102 : decode cX8_count 102 = .ok (.ireturn, 1) := by decide +kernel
set_option maxRecDepth 20000 in
theorem ggX8_refusalOfTwo_X1_isPerson : GoodIn wsX8_refusalOfTwo wsX1_isPerson := goodIn_r _ [5, 6, 18, 19, 20, 21, 22, 23, 24, 25, 26, 27, 28, 29] (by decide +kernel) (by decide +kernel)
set_option maxRecDepth 20000 in
theorem gX8_refusalOfTwo_X1_isPerson_n105 : GoodIn wsX8_refusalOfTwo (wsX1_isPerson) := ggX8_refusalOfTwo_X1_isPerson
theorem dX8_refusalOfTwo_0 : decode cX8_refusalOfTwo 0 = .ok (.aload_n 0, 1) := by decide +kernel
theorem dX8_refusalOfTwo_1 : decode cX8_refusalOfTwo 1 = .ok (.getfield 26, 3) := by decide +kernel
theorem dX8_refusalOfTwo_4 : decode cX8_refusalOfTwo 4 = .ok (.iload_n 1, 1) := by decide +kernel
theorem dX8_refusalOfTwo_5 : decode cX8_refusalOfTwo 5 = .ok (.invokevirtual 105, 3) := by decide +kernel
theorem dX8_refusalOfTwo_8 : decode cX8_refusalOfTwo 8 = .ok (.ifCond .eq 14, 3) := by decide +kernel
theorem dX8_refusalOfTwo_11 : decode cX8_refusalOfTwo 11 = .ok (.aload_n 0, 1) := by decide +kernel
theorem dX8_refusalOfTwo_12 : decode cX8_refusalOfTwo 12 = .ok (.getfield 26, 3) := by decide +kernel
theorem dX8_refusalOfTwo_15 : decode cX8_refusalOfTwo 15 = .ok (.iload_n 2, 1) := by decide +kernel
theorem dX8_refusalOfTwo_16 : decode cX8_refusalOfTwo 16 = .ok (.invokevirtual 105, 3) := by decide +kernel
theorem dX8_refusalOfTwo_19 : decode cX8_refusalOfTwo 19 = .ok (.ifCond .ne 5, 3) := by decide +kernel
theorem dX8_refusalOfTwo_22 : decode cX8_refusalOfTwo 22 = .ok (.iconst (-1), 1) := by decide +kernel
theorem dX8_refusalOfTwo_23 : decode cX8_refusalOfTwo 23 = .ok (.ireturn, 1) := by decide +kernel
theorem dX8_refusalOfTwo_24 : decode cX8_refusalOfTwo 24 = .ok (.iload_n 1, 1) := by decide +kernel
theorem dX8_refusalOfTwo_25 : decode cX8_refusalOfTwo 25 = .ok (.iload_n 2, 1) := by decide +kernel
theorem dX8_refusalOfTwo_26 : decode cX8_refusalOfTwo 26 = .ok (.if_icmp .ne 8, 3) := by decide +kernel
theorem dX8_refusalOfTwo_29 : decode cX8_refusalOfTwo 29 = .ok (.bipush (-3), 2) := by decide +kernel
theorem dX8_refusalOfTwo_31 : decode cX8_refusalOfTwo 31 = .ok (.goto 4, 3) := by decide +kernel
theorem dX8_refusalOfTwo_34 : decode cX8_refusalOfTwo 34 = .ok (.iconst 0, 1) := by decide +kernel
theorem dX8_refusalOfTwo_35 : decode cX8_refusalOfTwo 35 = .ok (.ireturn, 1) := by decide +kernel
theorem dX8_slotAt_0 : decode cX8_slotAt 0 = .ok (.iload_n 1, 1) := by decide +kernel
theorem dX8_slotAt_1 : decode cX8_slotAt 1 = .ok (.ifCond .ne 10, 3) := by decide +kernel
theorem dX8_slotAt_4 : decode cX8_slotAt 4 = .ok (.aload_n 0, 1) := by decide +kernel
theorem dX8_slotAt_5 : decode cX8_slotAt 5 = .ok (.getfield 30, 3) := by decide +kernel
theorem dX8_slotAt_8 : decode cX8_slotAt 8 = .ok (.goto 7, 3) := by decide +kernel
theorem dX8_slotAt_11 : decode cX8_slotAt 11 = .ok (.aload_n 0, 1) := by decide +kernel
theorem dX8_slotAt_12 : decode cX8_slotAt 12 = .ok (.getfield 33, 3) := by decide +kernel
theorem dX8_slotAt_15 : decode cX8_slotAt 15 = .ok (.areturn, 1) := by decide +kernel
theorem dX8_isSum_0 : decode cX8_isSum 0 = .ok (.iload_n 0, 1) := by decide +kernel
theorem dX8_isSum_1 : decode cX8_isSum 1 = .ok (.ifCond .lt 13, 3) := by decide +kernel
theorem dX8_isSum_4 : decode cX8_isSum 4 = .ok (.iload_n 0, 1) := by decide +kernel
theorem dX8_isSum_5 : decode cX8_isSum 5 = .ok (.ldc 198, 2) := by decide +kernel
theorem dX8_isSum_7 : decode cX8_isSum 7 = .ok (.if_icmp .gt 7, 3) := by decide +kernel
theorem dX8_isSum_10 : decode cX8_isSum 10 = .ok (.iconst 1, 1) := by decide +kernel
theorem dX8_isSum_11 : decode cX8_isSum 11 = .ok (.goto 4, 3) := by decide +kernel
theorem dX8_isSum_14 : decode cX8_isSum 14 = .ok (.iconst 0, 1) := by decide +kernel
theorem dX8_isSum_15 : decode cX8_isSum 15 = .ok (.ireturn, 1) := by decide +kernel
theorem dX8_greatestDivisor_0 : decode cX8_greatestDivisor 0 = .ok (.iload_n 0, 1) := by decide +kernel
theorem dX8_greatestDivisor_1 : decode cX8_greatestDivisor 1 = .ok (.istore_n 2, 1) := by decide +kernel
theorem dX8_greatestDivisor_2 : decode cX8_greatestDivisor 2 = .ok (.iload_n 1, 1) := by decide +kernel
theorem dX8_greatestDivisor_3 : decode cX8_greatestDivisor 3 = .ok (.istore_n 3, 1) := by decide +kernel
theorem dX8_greatestDivisor_4 : decode cX8_greatestDivisor 4 = .ok (.iconst 0, 1) := by decide +kernel
theorem dX8_greatestDivisor_5 : decode cX8_greatestDivisor 5 = .ok (.istore 4, 2) := by decide +kernel
theorem dX8_greatestDivisor_7 : decode cX8_greatestDivisor 7 = .ok (.iload 4, 2) := by decide +kernel
theorem dX8_greatestDivisor_9 : decode cX8_greatestDivisor 9 = .ok (.ldc 231, 2) := by decide +kernel
theorem dX8_greatestDivisor_11 : decode cX8_greatestDivisor 11 = .ok (.if_icmp .ge 23, 3) := by decide +kernel
theorem dX8_greatestDivisor_14 : decode cX8_greatestDivisor 14 = .ok (.iload_n 3, 1) := by decide +kernel
theorem dX8_greatestDivisor_15 : decode cX8_greatestDivisor 15 = .ok (.ifCond .le 19, 3) := by decide +kernel
theorem dX8_greatestDivisor_18 : decode cX8_greatestDivisor 18 = .ok (.iload_n 2, 1) := by decide +kernel
theorem dX8_greatestDivisor_19 : decode cX8_greatestDivisor 19 = .ok (.iload_n 3, 1) := by decide +kernel
theorem dX8_greatestDivisor_20 : decode cX8_greatestDivisor 20 = .ok (.irem, 1) := by decide +kernel
theorem dX8_greatestDivisor_21 : decode cX8_greatestDivisor 21 = .ok (.istore 5, 2) := by decide +kernel
theorem dX8_greatestDivisor_23 : decode cX8_greatestDivisor 23 = .ok (.iload_n 3, 1) := by decide +kernel
theorem dX8_greatestDivisor_24 : decode cX8_greatestDivisor 24 = .ok (.istore_n 2, 1) := by decide +kernel
theorem dX8_greatestDivisor_25 : decode cX8_greatestDivisor 25 = .ok (.iload 5, 2) := by decide +kernel
theorem dX8_greatestDivisor_27 : decode cX8_greatestDivisor 27 = .ok (.istore_n 3, 1) := by decide +kernel
theorem dX8_greatestDivisor_28 : decode cX8_greatestDivisor 28 = .ok (.iinc 4 1, 3) := by decide +kernel
theorem dX8_greatestDivisor_31 : decode cX8_greatestDivisor 31 = .ok (.goto (-24), 3) := by decide +kernel
theorem dX8_greatestDivisor_34 : decode cX8_greatestDivisor 34 = .ok (.iload_n 2, 1) := by decide +kernel
theorem dX8_greatestDivisor_35 : decode cX8_greatestDivisor 35 = .ok (.ireturn, 1) := by decide +kernel
set_option maxRecDepth 20000 in
theorem ggX8_sharedBy_X8_greatestDivisor : GoodIn wsX8_sharedBy wsX8_greatestDivisor := goodIn_r _ [4, 5] (by decide +kernel) (by decide +kernel)
set_option maxRecDepth 20000 in
theorem gX8_sharedBy_X8_greatestDivisor : GoodIn wsX8_sharedBy (va_wsS RX8 228 yX8_greatestDivisor wsX8_greatestDivisor) := goodIn_app (goodIn_of _ (by decide +kernel)) ggX8_sharedBy_X8_greatestDivisor
theorem dX8_sharedBy_0 : decode cX8_sharedBy 0 = .ok (.iload_n 0, 1) := by decide +kernel
theorem dX8_sharedBy_1 : decode cX8_sharedBy 1 = .ok (.ifCond .eq 7, 3) := by decide +kernel
theorem dX8_sharedBy_4 : decode cX8_sharedBy 4 = .ok (.iload_n 1, 1) := by decide +kernel
theorem dX8_sharedBy_5 : decode cX8_sharedBy 5 = .ok (.ifCond .ne 7, 3) := by decide +kernel
theorem dX8_sharedBy_8 : decode cX8_sharedBy 8 = .ok (.iconst 0, 1) := by decide +kernel
theorem dX8_sharedBy_9 : decode cX8_sharedBy 9 = .ok (.goto 8, 3) := by decide +kernel
theorem dX8_sharedBy_12 : decode cX8_sharedBy 12 = .ok (.iload_n 0, 1) := by decide +kernel
theorem dX8_sharedBy_13 : decode cX8_sharedBy 13 = .ok (.iload_n 1, 1) := by decide +kernel
theorem dX8_sharedBy_14 : decode cX8_sharedBy 14 = .ok (.invokestatic 228, 3) := by decide +kernel
theorem dX8_sharedBy_17 : decode cX8_sharedBy 17 = .ok (.ireturn, 1) := by decide +kernel
theorem dX8_isPrime_0 : decode cX8_isPrime 0 = .ok (.iload_n 0, 1) := by decide +kernel
theorem dX8_isPrime_1 : decode cX8_isPrime 1 = .ok (.iconst 2, 1) := by decide +kernel
theorem dX8_isPrime_2 : decode cX8_isPrime 2 = .ok (.if_icmp .ge 5, 3) := by decide +kernel
theorem dX8_isPrime_5 : decode cX8_isPrime 5 = .ok (.iconst 0, 1) := by decide +kernel
theorem dX8_isPrime_6 : decode cX8_isPrime 6 = .ok (.ireturn, 1) := by decide +kernel
theorem dX8_isPrime_7 : decode cX8_isPrime 7 = .ok (.iconst 2, 1) := by decide +kernel
theorem dX8_isPrime_8 : decode cX8_isPrime 8 = .ok (.istore_n 1, 1) := by decide +kernel
theorem dX8_isPrime_9 : decode cX8_isPrime 9 = .ok (.iload_n 1, 1) := by decide +kernel
theorem dX8_isPrime_10 : decode cX8_isPrime 10 = .ok (.iload_n 1, 1) := by decide +kernel
theorem dX8_isPrime_11 : decode cX8_isPrime 11 = .ok (.imul, 1) := by decide +kernel
theorem dX8_isPrime_12 : decode cX8_isPrime 12 = .ok (.iload_n 0, 1) := by decide +kernel
theorem dX8_isPrime_13 : decode cX8_isPrime 13 = .ok (.if_icmp .gt 17, 3) := by decide +kernel
theorem dX8_isPrime_16 : decode cX8_isPrime 16 = .ok (.iload_n 0, 1) := by decide +kernel
theorem dX8_isPrime_17 : decode cX8_isPrime 17 = .ok (.iload_n 1, 1) := by decide +kernel
theorem dX8_isPrime_18 : decode cX8_isPrime 18 = .ok (.irem, 1) := by decide +kernel
theorem dX8_isPrime_19 : decode cX8_isPrime 19 = .ok (.ifCond .ne 5, 3) := by decide +kernel
theorem dX8_isPrime_22 : decode cX8_isPrime 22 = .ok (.iconst 0, 1) := by decide +kernel
theorem dX8_isPrime_23 : decode cX8_isPrime 23 = .ok (.ireturn, 1) := by decide +kernel
theorem dX8_isPrime_24 : decode cX8_isPrime 24 = .ok (.iinc 1 1, 3) := by decide +kernel
theorem dX8_isPrime_27 : decode cX8_isPrime 27 = .ok (.goto (-18), 3) := by decide +kernel
theorem dX8_isPrime_30 : decode cX8_isPrime 30 = .ok (.iconst 1, 1) := by decide +kernel
theorem dX8_isPrime_31 : decode cX8_isPrime 31 = .ok (.ireturn, 1) := by decide +kernel
theorem dX8_takeApart_0 : decode cX8_takeApart 0 = .ok (.iconst 0, 1) := by decide +kernel
theorem dX8_takeApart_1 : decode cX8_takeApart 1 = .ok (.istore_n 2, 1) := by decide +kernel
theorem dX8_takeApart_2 : decode cX8_takeApart 2 = .ok (.iload_n 0, 1) := by decide +kernel
theorem dX8_takeApart_3 : decode cX8_takeApart 3 = .ok (.istore_n 3, 1) := by decide +kernel
theorem dX8_takeApart_4 : decode cX8_takeApart 4 = .ok (.iconst 2, 1) := by decide +kernel
theorem dX8_takeApart_5 : decode cX8_takeApart 5 = .ok (.istore 4, 2) := by decide +kernel
theorem dX8_takeApart_7 : decode cX8_takeApart 7 = .ok (.iload 4, 2) := by decide +kernel
theorem dX8_takeApart_9 : decode cX8_takeApart 9 = .ok (.iload 4, 2) := by decide +kernel
theorem dX8_takeApart_11 : decode cX8_takeApart 11 = .ok (.imul, 1) := by decide +kernel
theorem dX8_takeApart_12 : decode cX8_takeApart 12 = .ok (.iload_n 3, 1) := by decide +kernel
theorem dX8_takeApart_13 : decode cX8_takeApart 13 = .ok (.if_icmp .gt 66, 3) := by decide +kernel
theorem dX8_takeApart_16 : decode cX8_takeApart 16 = .ok (.iload_n 3, 1) := by decide +kernel
theorem dX8_takeApart_17 : decode cX8_takeApart 17 = .ok (.iload 4, 2) := by decide +kernel
theorem dX8_takeApart_19 : decode cX8_takeApart 19 = .ok (.irem, 1) := by decide +kernel
theorem dX8_takeApart_20 : decode cX8_takeApart 20 = .ok (.ifCond .eq 6, 3) := by decide +kernel
theorem dX8_takeApart_23 : decode cX8_takeApart 23 = .ok (.goto 50, 3) := by decide +kernel
theorem dX8_takeApart_26 : decode cX8_takeApart 26 = .ok (.iload_n 2, 1) := by decide +kernel
theorem dX8_takeApart_27 : decode cX8_takeApart 27 = .ok (.aload_n 1, 1) := by decide +kernel
theorem dX8_takeApart_28 : decode cX8_takeApart 28 = .ok (.arraylength, 1) := by decide +kernel
theorem dX8_takeApart_29 : decode cX8_takeApart 29 = .ok (.if_icmp .ge 11, 3) := by decide +kernel
theorem dX8_takeApart_32 : decode cX8_takeApart 32 = .ok (.aload_n 1, 1) := by decide +kernel
theorem dX8_takeApart_33 : decode cX8_takeApart 33 = .ok (.iload_n 2, 1) := by decide +kernel
theorem dX8_takeApart_34 : decode cX8_takeApart 34 = .ok (.iinc 2 1, 3) := by decide +kernel
theorem dX8_takeApart_37 : decode cX8_takeApart 37 = .ok (.iload 4, 2) := by decide +kernel
theorem dX8_takeApart_39 : decode cX8_takeApart 39 = .ok (.iastore, 1) := by decide +kernel
theorem dX8_takeApart_40 : decode cX8_takeApart 40 = .ok (.iconst 0, 1) := by decide +kernel
theorem dX8_takeApart_41 : decode cX8_takeApart 41 = .ok (.istore 5, 2) := by decide +kernel
theorem dX8_takeApart_43 : decode cX8_takeApart 43 = .ok (.iload 5, 2) := by decide +kernel
theorem dX8_takeApart_45 : decode cX8_takeApart 45 = .ok (.ldc 231, 2) := by decide +kernel
theorem dX8_takeApart_47 : decode cX8_takeApart 47 = .ok (.if_icmp .ge 26, 3) := by decide +kernel
theorem dX8_takeApart_50 : decode cX8_takeApart 50 = .ok (.iload_n 3, 1) := by decide +kernel
theorem dX8_takeApart_51 : decode cX8_takeApart 51 = .ok (.iconst 1, 1) := by decide +kernel
theorem dX8_takeApart_52 : decode cX8_takeApart 52 = .ok (.if_icmp .le 21, 3) := by decide +kernel
theorem dX8_takeApart_55 : decode cX8_takeApart 55 = .ok (.iload_n 3, 1) := by decide +kernel
theorem dX8_takeApart_56 : decode cX8_takeApart 56 = .ok (.iload 4, 2) := by decide +kernel
theorem dX8_takeApart_58 : decode cX8_takeApart 58 = .ok (.irem, 1) := by decide +kernel
theorem dX8_takeApart_59 : decode cX8_takeApart 59 = .ok (.ifCond .ne 14, 3) := by decide +kernel
theorem dX8_takeApart_62 : decode cX8_takeApart 62 = .ok (.iload_n 3, 1) := by decide +kernel
theorem dX8_takeApart_63 : decode cX8_takeApart 63 = .ok (.iload 4, 2) := by decide +kernel
theorem dX8_takeApart_65 : decode cX8_takeApart 65 = .ok (.idiv, 1) := by decide +kernel
theorem dX8_takeApart_66 : decode cX8_takeApart 66 = .ok (.istore_n 3, 1) := by decide +kernel
theorem dX8_takeApart_67 : decode cX8_takeApart 67 = .ok (.iinc 5 1, 3) := by decide +kernel
theorem dX8_takeApart_70 : decode cX8_takeApart 70 = .ok (.goto (-27), 3) := by decide +kernel
theorem dX8_takeApart_73 : decode cX8_takeApart 73 = .ok (.iinc 4 1, 3) := by decide +kernel
theorem dX8_takeApart_76 : decode cX8_takeApart 76 = .ok (.goto (-69), 3) := by decide +kernel
theorem dX8_takeApart_79 : decode cX8_takeApart 79 = .ok (.iload_n 3, 1) := by decide +kernel
theorem dX8_takeApart_80 : decode cX8_takeApart 80 = .ok (.iconst 1, 1) := by decide +kernel
theorem dX8_takeApart_81 : decode cX8_takeApart 81 = .ok (.if_icmp .le 16, 3) := by decide +kernel
theorem dX8_takeApart_84 : decode cX8_takeApart 84 = .ok (.iload_n 2, 1) := by decide +kernel
theorem dX8_takeApart_85 : decode cX8_takeApart 85 = .ok (.aload_n 1, 1) := by decide +kernel
theorem dX8_takeApart_86 : decode cX8_takeApart 86 = .ok (.arraylength, 1) := by decide +kernel
theorem dX8_takeApart_87 : decode cX8_takeApart 87 = .ok (.if_icmp .ge 10, 3) := by decide +kernel
theorem dX8_takeApart_90 : decode cX8_takeApart 90 = .ok (.aload_n 1, 1) := by decide +kernel
theorem dX8_takeApart_91 : decode cX8_takeApart 91 = .ok (.iload_n 2, 1) := by decide +kernel
theorem dX8_takeApart_92 : decode cX8_takeApart 92 = .ok (.iinc 2 1, 3) := by decide +kernel
theorem dX8_takeApart_95 : decode cX8_takeApart 95 = .ok (.iload_n 3, 1) := by decide +kernel
theorem dX8_takeApart_96 : decode cX8_takeApart 96 = .ok (.iastore, 1) := by decide +kernel
theorem dX8_takeApart_97 : decode cX8_takeApart 97 = .ok (.iload_n 2, 1) := by decide +kernel
theorem dX8_takeApart_98 : decode cX8_takeApart 98 = .ok (.ireturn, 1) := by decide +kernel
theorem dX8_sumPassed_0 : decode cX8_sumPassed 0 = .ok (.iload_n 0, 1) := by decide +kernel
theorem dX8_sumPassed_1 : decode cX8_sumPassed 1 = .ok (.iconst 2, 1) := by decide +kernel
theorem dX8_sumPassed_2 : decode cX8_sumPassed 2 = .ok (.if_icmp .ne 7, 3) := by decide +kernel
theorem dX8_sumPassed_5 : decode cX8_sumPassed 5 = .ok (.iload_n 2, 1) := by decide +kernel
theorem dX8_sumPassed_6 : decode cX8_sumPassed 6 = .ok (.iconst 2, 1) := by decide +kernel
theorem dX8_sumPassed_7 : decode cX8_sumPassed 7 = .ok (.idiv, 1) := by decide +kernel
theorem dX8_sumPassed_8 : decode cX8_sumPassed 8 = .ok (.ireturn, 1) := by decide +kernel
theorem dX8_sumPassed_9 : decode cX8_sumPassed 9 = .ok (.iload_n 0, 1) := by decide +kernel
theorem dX8_sumPassed_10 : decode cX8_sumPassed 10 = .ok (.iconst 3, 1) := by decide +kernel
theorem dX8_sumPassed_11 : decode cX8_sumPassed 11 = .ok (.if_icmp .ne 19, 3) := by decide +kernel
theorem dX8_sumPassed_14 : decode cX8_sumPassed 14 = .ok (.iload_n 2, 1) := by decide +kernel
theorem dX8_sumPassed_15 : decode cX8_sumPassed 15 = .ok (.ifCond .le 15, 3) := by decide +kernel
theorem dX8_sumPassed_18 : decode cX8_sumPassed 18 = .ok (.iload_n 2, 1) := by decide +kernel
theorem dX8_sumPassed_19 : decode cX8_sumPassed 19 = .ok (.iconst 1, 1) := by decide +kernel
theorem dX8_sumPassed_20 : decode cX8_sumPassed 20 = .ok (.iload_n 1, 1) := by decide +kernel
theorem dX8_sumPassed_21 : decode cX8_sumPassed 21 = .ok (.iload_n 2, 1) := by decide +kernel
theorem dX8_sumPassed_22 : decode cX8_sumPassed 22 = .ok (.idiv, 1) := by decide +kernel
theorem dX8_sumPassed_23 : decode cX8_sumPassed 23 = .ok (.iconst 2, 1) := by decide +kernel
theorem dX8_sumPassed_24 : decode cX8_sumPassed 24 = .ok (.idiv, 1) := by decide +kernel
theorem dX8_sumPassed_25 : decode cX8_sumPassed 25 = .ok (.invokestatic 245, 3) := by decide +kernel
theorem dX8_sumPassed_28 : decode cX8_sumPassed 28 = .ok (.imul, 1) := by decide +kernel
theorem dX8_sumPassed_29 : decode cX8_sumPassed 29 = .ok (.ireturn, 1) := by decide +kernel
theorem dX8_sumPassed_30 : decode cX8_sumPassed 30 = .ok (.iload_n 2, 1) := by decide +kernel
theorem dX8_sumPassed_31 : decode cX8_sumPassed 31 = .ok (.ireturn, 1) := by decide +kernel
set_option maxRecDepth 20000 in
theorem ggX8_heldAfter_X8_sumPassed : GoodIn wsX8_heldAfter wsX8_sumPassed := goodIn_r _ [12, 13, 14, 3, 15] (by decide +kernel) (by decide +kernel)
set_option maxRecDepth 20000 in
theorem gX8_heldAfter_X8_sumPassed : GoodIn wsX8_heldAfter (va_wsS RX8 253 yX8_sumPassed wsX8_sumPassed) := goodIn_app (goodIn_of _ (by decide +kernel)) ggX8_heldAfter_X8_sumPassed
theorem dX8_heldAfter_0 : decode cX8_heldAfter 0 = .ok (.iload_n 1, 1) := by decide +kernel
theorem dX8_heldAfter_1 : decode cX8_heldAfter 1 = .ok (.iload_n 2, 1) := by decide +kernel
theorem dX8_heldAfter_2 : decode cX8_heldAfter 2 = .ok (.if_icmp .eq 7, 3) := by decide +kernel
theorem dX8_heldAfter_5 : decode cX8_heldAfter 5 = .ok (.iload_n 3, 1) := by decide +kernel
theorem dX8_heldAfter_6 : decode cX8_heldAfter 6 = .ok (.ifCond .ne 5, 3) := by decide +kernel
theorem dX8_heldAfter_9 : decode cX8_heldAfter 9 = .ok (.iload_n 1, 1) := by decide +kernel
theorem dX8_heldAfter_10 : decode cX8_heldAfter 10 = .ok (.ireturn, 1) := by decide +kernel
theorem dX8_heldAfter_11 : decode cX8_heldAfter 11 = .ok (.iload 4, 2) := by decide +kernel
theorem dX8_heldAfter_13 : decode cX8_heldAfter 13 = .ok (.iload_n 0, 1) := by decide +kernel
theorem dX8_heldAfter_14 : decode cX8_heldAfter 14 = .ok (.iload_n 1, 1) := by decide +kernel
theorem dX8_heldAfter_15 : decode cX8_heldAfter 15 = .ok (.iload_n 2, 1) := by decide +kernel
theorem dX8_heldAfter_16 : decode cX8_heldAfter 16 = .ok (.isub, 1) := by decide +kernel
theorem dX8_heldAfter_17 : decode cX8_heldAfter 17 = .ok (.invokestatic 250, 3) := by decide +kernel
theorem dX8_heldAfter_20 : decode cX8_heldAfter 20 = .ok (.iload_n 3, 1) := by decide +kernel
theorem dX8_heldAfter_21 : decode cX8_heldAfter 21 = .ok (.invokestatic 253, 3) := by decide +kernel
theorem dX8_heldAfter_24 : decode cX8_heldAfter 24 = .ok (.imul, 1) := by decide +kernel
theorem dX8_heldAfter_25 : decode cX8_heldAfter 25 = .ok (.istore 5, 2) := by decide +kernel
theorem dX8_heldAfter_27 : decode cX8_heldAfter 27 = .ok (.iload_n 1, 1) := by decide +kernel
theorem dX8_heldAfter_28 : decode cX8_heldAfter 28 = .ok (.iload_n 2, 1) := by decide +kernel
theorem dX8_heldAfter_29 : decode cX8_heldAfter 29 = .ok (.if_icmp .le 7, 3) := by decide +kernel
theorem dX8_heldAfter_32 : decode cX8_heldAfter 32 = .ok (.iconst 1, 1) := by decide +kernel
theorem dX8_heldAfter_33 : decode cX8_heldAfter 33 = .ok (.goto 4, 3) := by decide +kernel
theorem dX8_heldAfter_36 : decode cX8_heldAfter 36 = .ok (.iconst 0, 1) := by decide +kernel
theorem dX8_heldAfter_37 : decode cX8_heldAfter 37 = .ok (.iload_n 0, 1) := by decide +kernel
theorem dX8_heldAfter_38 : decode cX8_heldAfter 38 = .ok (.iconst 1, 1) := by decide +kernel
theorem dX8_heldAfter_39 : decode cX8_heldAfter 39 = .ok (.if_icmp .ne 7, 3) := by decide +kernel
theorem dX8_heldAfter_42 : decode cX8_heldAfter 42 = .ok (.iconst 1, 1) := by decide +kernel
theorem dX8_heldAfter_43 : decode cX8_heldAfter 43 = .ok (.goto 4, 3) := by decide +kernel
theorem dX8_heldAfter_46 : decode cX8_heldAfter 46 = .ok (.iconst 0, 1) := by decide +kernel
theorem dX8_heldAfter_47 : decode cX8_heldAfter 47 = .ok (.if_icmp .ne 7, 3) := by decide +kernel
theorem dX8_heldAfter_50 : decode cX8_heldAfter 50 = .ok (.iconst 1, 1) := by decide +kernel
theorem dX8_heldAfter_51 : decode cX8_heldAfter 51 = .ok (.goto 4, 3) := by decide +kernel
theorem dX8_heldAfter_54 : decode cX8_heldAfter 54 = .ok (.iconst 0, 1) := by decide +kernel
theorem dX8_heldAfter_55 : decode cX8_heldAfter 55 = .ok (.istore 6, 2) := by decide +kernel
theorem dX8_heldAfter_57 : decode cX8_heldAfter 57 = .ok (.iload 6, 2) := by decide +kernel
theorem dX8_heldAfter_59 : decode cX8_heldAfter 59 = .ok (.ifCond .eq 15, 3) := by decide +kernel
theorem dX8_heldAfter_62 : decode cX8_heldAfter 62 = .ok (.ldc 198, 2) := by decide +kernel
theorem dX8_heldAfter_64 : decode cX8_heldAfter 64 = .ok (.iload_n 1, 1) := by decide +kernel
theorem dX8_heldAfter_65 : decode cX8_heldAfter 65 = .ok (.iload 5, 2) := by decide +kernel
theorem dX8_heldAfter_67 : decode cX8_heldAfter 67 = .ok (.iadd, 1) := by decide +kernel
theorem dX8_heldAfter_68 : decode cX8_heldAfter 68 = .ok (.invokestatic 257, 3) := by decide +kernel
theorem dX8_heldAfter_71 : decode cX8_heldAfter 71 = .ok (.goto 7, 3) := by decide +kernel
theorem dX8_heldAfter_74 : decode cX8_heldAfter 74 = .ok (.iload_n 1, 1) := by decide +kernel
theorem dX8_heldAfter_75 : decode cX8_heldAfter 75 = .ok (.iload 5, 2) := by decide +kernel
theorem dX8_heldAfter_77 : decode cX8_heldAfter 77 = .ok (.isub, 1) := by decide +kernel
theorem dX8_heldAfter_78 : decode cX8_heldAfter 78 = .ok (.ireturn, 1) := by decide +kernel
set_option maxRecDepth 20000 in
theorem ggX8_heldAfterOne_X8_sharedBy : GoodIn wsX8_heldAfterOne wsX8_sharedBy := goodIn_r _ [4, 5, 6, 3, 7, 8] (by decide +kernel) (by decide +kernel)
set_option maxRecDepth 20000 in
theorem gX8_heldAfterOne_X8_sharedBy : GoodIn wsX8_heldAfterOne (va_wsS RX8 134 yX8_sharedBy wsX8_sharedBy) := goodIn_app (goodIn_of _ (by decide +kernel)) ggX8_heldAfterOne_X8_sharedBy
set_option maxRecDepth 20000 in
theorem ggX8_heldAfterOne_X8_heldAfter : GoodIn wsX8_heldAfterOne wsX8_heldAfter := goodIn_r _ [11, 12, 13, 14, 15, 16, 17, 18, 19, 20, 21, 3, 22, 23, 24, 25] (by decide +kernel) (by decide +kernel)
set_option maxRecDepth 20000 in
theorem gX8_heldAfterOne_X8_heldAfter : GoodIn wsX8_heldAfterOne (va_wsS RX8 260 yX8_heldAfter wsX8_heldAfter) := goodIn_app (goodIn_of _ (by decide +kernel)) ggX8_heldAfterOne_X8_heldAfter
theorem dX8_heldAfterOne_0 : decode cX8_heldAfterOne 0 = .ok (.iload_n 0, 1) := by decide +kernel
theorem dX8_heldAfterOne_1 : decode cX8_heldAfterOne 1 = .ok (.iload_n 1, 1) := by decide +kernel
theorem dX8_heldAfterOne_2 : decode cX8_heldAfterOne 2 = .ok (.iload_n 2, 1) := by decide +kernel
theorem dX8_heldAfterOne_3 : decode cX8_heldAfterOne 3 = .ok (.iload_n 1, 1) := by decide +kernel
theorem dX8_heldAfterOne_4 : decode cX8_heldAfterOne 4 = .ok (.iload_n 2, 1) := by decide +kernel
theorem dX8_heldAfterOne_5 : decode cX8_heldAfterOne 5 = .ok (.invokestatic 134, 3) := by decide +kernel
theorem dX8_heldAfterOne_8 : decode cX8_heldAfterOne 8 = .ok (.iconst 1, 1) := by decide +kernel
theorem dX8_heldAfterOne_9 : decode cX8_heldAfterOne 9 = .ok (.invokestatic 260, 3) := by decide +kernel
theorem dX8_heldAfterOne_12 : decode cX8_heldAfterOne 12 = .ok (.ireturn, 1) := by decide +kernel
set_option maxRecDepth 20000 in
theorem ggX8_makeMeeting_X8_sharedBy : GoodIn wsX8_makeMeeting wsX8_sharedBy := goodIn_r _ [4, 5, 6, 3, 7, 8] (by decide +kernel) (by decide +kernel)
set_option maxRecDepth 20000 in
theorem gX8_makeMeeting_X8_sharedBy : GoodIn wsX8_makeMeeting (va_wsS RX8 134 yX8_sharedBy wsX8_sharedBy) := goodIn_app (goodIn_of _ (by decide +kernel)) ggX8_makeMeeting_X8_sharedBy
set_option maxRecDepth 20000 in
theorem ggX8_makeMeeting_X8_heldAfter : GoodIn wsX8_makeMeeting wsX8_heldAfter := goodIn_r _ [11, 12, 13, 14, 15, 16, 17, 18, 19, 20, 21, 3, 22, 23, 24, 25] (by decide +kernel) (by decide +kernel)
set_option maxRecDepth 20000 in
theorem gX8_makeMeeting_X8_heldAfter : GoodIn wsX8_makeMeeting (va_wsS RX8 260 yX8_heldAfter wsX8_heldAfter) := goodIn_app (goodIn_of _ (by decide +kernel)) ggX8_makeMeeting_X8_heldAfter
theorem dX8_makeMeeting_0 : decode cX8_makeMeeting 0 = .ok (.aload_n 0, 1) := by decide +kernel
theorem dX8_makeMeeting_1 : decode cX8_makeMeeting 1 = .ok (.iload_n 2, 1) := by decide +kernel
theorem dX8_makeMeeting_2 : decode cX8_makeMeeting 2 = .ok (.iaload, 1) := by decide +kernel
theorem dX8_makeMeeting_3 : decode cX8_makeMeeting 3 = .ok (.istore 4, 2) := by decide +kernel
theorem dX8_makeMeeting_5 : decode cX8_makeMeeting 5 = .ok (.aload_n 0, 1) := by decide +kernel
theorem dX8_makeMeeting_6 : decode cX8_makeMeeting 6 = .ok (.iload_n 3, 1) := by decide +kernel
theorem dX8_makeMeeting_7 : decode cX8_makeMeeting 7 = .ok (.iaload, 1) := by decide +kernel
theorem dX8_makeMeeting_8 : decode cX8_makeMeeting 8 = .ok (.istore 5, 2) := by decide +kernel
theorem dX8_makeMeeting_10 : decode cX8_makeMeeting 10 = .ok (.iload 4, 2) := by decide +kernel
theorem dX8_makeMeeting_12 : decode cX8_makeMeeting 12 = .ok (.iload 5, 2) := by decide +kernel
theorem dX8_makeMeeting_14 : decode cX8_makeMeeting 14 = .ok (.invokestatic 134, 3) := by decide +kernel
theorem dX8_makeMeeting_17 : decode cX8_makeMeeting 17 = .ok (.istore 6, 2) := by decide +kernel
theorem dX8_makeMeeting_19 : decode cX8_makeMeeting 19 = .ok (.aload_n 0, 1) := by decide +kernel
theorem dX8_makeMeeting_20 : decode cX8_makeMeeting 20 = .ok (.iload_n 2, 1) := by decide +kernel
theorem dX8_makeMeeting_21 : decode cX8_makeMeeting 21 = .ok (.iload_n 1, 1) := by decide +kernel
theorem dX8_makeMeeting_22 : decode cX8_makeMeeting 22 = .ok (.iload 4, 2) := by decide +kernel
theorem dX8_makeMeeting_24 : decode cX8_makeMeeting 24 = .ok (.iload 5, 2) := by decide +kernel
theorem dX8_makeMeeting_26 : decode cX8_makeMeeting 26 = .ok (.iload 6, 2) := by decide +kernel
theorem dX8_makeMeeting_28 : decode cX8_makeMeeting 28 = .ok (.iconst 1, 1) := by decide +kernel
theorem dX8_makeMeeting_29 : decode cX8_makeMeeting 29 = .ok (.invokestatic 260, 3) := by decide +kernel
theorem dX8_makeMeeting_32 : decode cX8_makeMeeting 32 = .ok (.iastore, 1) := by decide +kernel
theorem dX8_makeMeeting_33 : decode cX8_makeMeeting 33 = .ok (.aload_n 0, 1) := by decide +kernel
theorem dX8_makeMeeting_34 : decode cX8_makeMeeting 34 = .ok (.iload_n 3, 1) := by decide +kernel
theorem dX8_makeMeeting_35 : decode cX8_makeMeeting 35 = .ok (.iload_n 1, 1) := by decide +kernel
theorem dX8_makeMeeting_36 : decode cX8_makeMeeting 36 = .ok (.iload 5, 2) := by decide +kernel
theorem dX8_makeMeeting_38 : decode cX8_makeMeeting 38 = .ok (.iload 4, 2) := by decide +kernel
theorem dX8_makeMeeting_40 : decode cX8_makeMeeting 40 = .ok (.iload 6, 2) := by decide +kernel
theorem dX8_makeMeeting_42 : decode cX8_makeMeeting 42 = .ok (.iconst 1, 1) := by decide +kernel
theorem dX8_makeMeeting_43 : decode cX8_makeMeeting 43 = .ok (.invokestatic 260, 3) := by decide +kernel
theorem dX8_makeMeeting_46 : decode cX8_makeMeeting 46 = .ok (.iastore, 1) := by decide +kernel
theorem dX8_makeMeeting_47 : decode cX8_makeMeeting 47 = .ok (.aload_n 0, 1) := by decide +kernel
theorem dX8_makeMeeting_48 : decode cX8_makeMeeting 48 = .ok (.iload_n 2, 1) := by decide +kernel
theorem dX8_makeMeeting_49 : decode cX8_makeMeeting 49 = .ok (.iaload, 1) := by decide +kernel
theorem dX8_makeMeeting_50 : decode cX8_makeMeeting 50 = .ok (.iload 4, 2) := by decide +kernel
theorem dX8_makeMeeting_52 : decode cX8_makeMeeting 52 = .ok (.if_icmp .ne 11, 3) := by decide +kernel
theorem dX8_makeMeeting_55 : decode cX8_makeMeeting 55 = .ok (.aload_n 0, 1) := by decide +kernel
theorem dX8_makeMeeting_56 : decode cX8_makeMeeting 56 = .ok (.iload_n 3, 1) := by decide +kernel
theorem dX8_makeMeeting_57 : decode cX8_makeMeeting 57 = .ok (.iaload, 1) := by decide +kernel
theorem dX8_makeMeeting_58 : decode cX8_makeMeeting 58 = .ok (.iload 5, 2) := by decide +kernel
theorem dX8_makeMeeting_60 : decode cX8_makeMeeting 60 = .ok (.if_icmp .eq 7, 3) := by decide +kernel
theorem dX8_makeMeeting_63 : decode cX8_makeMeeting 63 = .ok (.iconst 1, 1) := by decide +kernel
theorem dX8_makeMeeting_64 : decode cX8_makeMeeting 64 = .ok (.goto 4, 3) := by decide +kernel
theorem dX8_makeMeeting_67 : decode cX8_makeMeeting 67 = .ok (.iconst 0, 1) := by decide +kernel
theorem dX8_makeMeeting_68 : decode cX8_makeMeeting 68 = .ok (.ireturn, 1) := by decide +kernel
set_option maxRecDepth 20000 in
theorem ggX8_penniesToShareOne_X8_greatestDivisor : GoodIn wsX8_penniesToShareOne wsX8_greatestDivisor := goodIn_r _ [4, 5] (by decide +kernel) (by decide +kernel)
set_option maxRecDepth 20000 in
theorem gX8_penniesToShareOne_X8_greatestDivisor : GoodIn wsX8_penniesToShareOne (va_wsS RX8 228 yX8_greatestDivisor wsX8_greatestDivisor) := goodIn_app (goodIn_of _ (by decide +kernel)) ggX8_penniesToShareOne_X8_greatestDivisor
theorem dX8_penniesToShareOne_0 : decode cX8_penniesToShareOne 0 = .ok (.iconst 0, 1) := by decide +kernel
theorem dX8_penniesToShareOne_1 : decode cX8_penniesToShareOne 1 = .ok (.istore_n 2, 1) := by decide +kernel
theorem dX8_penniesToShareOne_2 : decode cX8_penniesToShareOne 2 = .ok (.iload_n 2, 1) := by decide +kernel
theorem dX8_penniesToShareOne_3 : decode cX8_penniesToShareOne 3 = .ok (.iload_n 0, 1) := by decide +kernel
theorem dX8_penniesToShareOne_4 : decode cX8_penniesToShareOne 4 = .ok (.iload_n 1, 1) := by decide +kernel
theorem dX8_penniesToShareOne_5 : decode cX8_penniesToShareOne 5 = .ok (.isub, 1) := by decide +kernel
theorem dX8_penniesToShareOne_6 : decode cX8_penniesToShareOne 6 = .ok (.if_icmp .ge 20, 3) := by decide +kernel
theorem dX8_penniesToShareOne_9 : decode cX8_penniesToShareOne 9 = .ok (.iload_n 0, 1) := by decide +kernel
theorem dX8_penniesToShareOne_10 : decode cX8_penniesToShareOne 10 = .ok (.iload_n 2, 1) := by decide +kernel
theorem dX8_penniesToShareOne_11 : decode cX8_penniesToShareOne 11 = .ok (.isub, 1) := by decide +kernel
theorem dX8_penniesToShareOne_12 : decode cX8_penniesToShareOne 12 = .ok (.iload_n 1, 1) := by decide +kernel
theorem dX8_penniesToShareOne_13 : decode cX8_penniesToShareOne 13 = .ok (.invokestatic 228, 3) := by decide +kernel
theorem dX8_penniesToShareOne_16 : decode cX8_penniesToShareOne 16 = .ok (.iconst 1, 1) := by decide +kernel
theorem dX8_penniesToShareOne_17 : decode cX8_penniesToShareOne 17 = .ok (.if_icmp .le 9, 3) := by decide +kernel
theorem dX8_penniesToShareOne_20 : decode cX8_penniesToShareOne 20 = .ok (.iinc 2 1, 3) := by decide +kernel
theorem dX8_penniesToShareOne_23 : decode cX8_penniesToShareOne 23 = .ok (.goto (-21), 3) := by decide +kernel
theorem dX8_penniesToShareOne_26 : decode cX8_penniesToShareOne 26 = .ok (.iload_n 2, 1) := by decide +kernel
theorem dX8_penniesToShareOne_27 : decode cX8_penniesToShareOne 27 = .ok (.ireturn, 1) := by decide +kernel
theorem dJ9_abs_0f7a4_0 : decode cJ9_abs_0f7a4 0 = .ok (.iload_n 0, 1) := by decide +kernel
theorem dJ9_abs_0f7a4_1 : decode cJ9_abs_0f7a4 1 = .ok (.ifCond .ge 8, 3) := by decide +kernel
theorem dJ9_abs_0f7a4_4 : decode cJ9_abs_0f7a4 4 = .ok (.iload_n 0, 1) := by decide +kernel
theorem dJ9_abs_0f7a4_5 : decode cJ9_abs_0f7a4 5 = .ok (.ineg, 1) := by decide +kernel
theorem dJ9_abs_0f7a4_6 : decode cJ9_abs_0f7a4 6 = .ok (.goto 4, 3) := by decide +kernel
theorem dJ9_abs_0f7a4_9 : decode cJ9_abs_0f7a4 9 = .ok (.iload_n 0, 1) := by decide +kernel
theorem dJ9_abs_0f7a4_10 : decode cJ9_abs_0f7a4 10 = .ok (.ireturn, 1) := by decide +kernel
theorem dJ9_max_7cf53_0 : decode cJ9_max_7cf53 0 = .ok (.iload_n 0, 1) := by decide +kernel
theorem dJ9_max_7cf53_1 : decode cJ9_max_7cf53 1 = .ok (.iload_n 1, 1) := by decide +kernel
theorem dJ9_max_7cf53_2 : decode cJ9_max_7cf53 2 = .ok (.if_icmp .lt 7, 3) := by decide +kernel
theorem dJ9_max_7cf53_5 : decode cJ9_max_7cf53 5 = .ok (.iload_n 0, 1) := by decide +kernel
theorem dJ9_max_7cf53_6 : decode cJ9_max_7cf53 6 = .ok (.goto 4, 3) := by decide +kernel
theorem dJ9_max_7cf53_9 : decode cJ9_max_7cf53 9 = .ok (.iload_n 1, 1) := by decide +kernel
theorem dJ9_max_7cf53_10 : decode cJ9_max_7cf53 10 = .ok (.ireturn, 1) := by decide +kernel
theorem dJ9_min_7cf53_0 : decode cJ9_min_7cf53 0 = .ok (.iload_n 0, 1) := by decide +kernel
theorem dJ9_min_7cf53_1 : decode cJ9_min_7cf53 1 = .ok (.iload_n 1, 1) := by decide +kernel
theorem dJ9_min_7cf53_2 : decode cJ9_min_7cf53 2 = .ok (.if_icmp .gt 7, 3) := by decide +kernel
theorem dJ9_min_7cf53_5 : decode cJ9_min_7cf53 5 = .ok (.iload_n 0, 1) := by decide +kernel
theorem dJ9_min_7cf53_6 : decode cJ9_min_7cf53 6 = .ok (.goto 4, 3) := by decide +kernel
theorem dJ9_min_7cf53_9 : decode cJ9_min_7cf53 9 = .ok (.iload_n 1, 1) := by decide +kernel
theorem dJ9_min_7cf53_10 : decode cJ9_min_7cf53 10 = .ok (.ireturn, 1) := by decide +kernel
theorem dJ7_fill_53178_0 : decode cJ7_fill_53178 0 = .ok (.iconst 0, 1) := by decide +kernel
theorem dJ7_fill_53178_1 : decode cJ7_fill_53178 1 = .ok (.istore_n 2, 1) := by decide +kernel
theorem dJ7_fill_53178_2 : decode cJ7_fill_53178 2 = .ok (.aload_n 0, 1) := by decide +kernel
theorem dJ7_fill_53178_3 : decode cJ7_fill_53178 3 = .ok (.arraylength, 1) := by decide +kernel
theorem dJ7_fill_53178_4 : decode cJ7_fill_53178 4 = .ok (.istore_n 3, 1) := by decide +kernel
theorem dJ7_fill_53178_5 : decode cJ7_fill_53178 5 = .ok (.iload_n 2, 1) := by decide +kernel
theorem dJ7_fill_53178_6 : decode cJ7_fill_53178 6 = .ok (.iload_n 3, 1) := by decide +kernel
theorem dJ7_fill_53178_7 : decode cJ7_fill_53178 7 = .ok (.if_icmp .ge 13, 3) := by decide +kernel
theorem dJ7_fill_53178_10 : decode cJ7_fill_53178 10 = .ok (.aload_n 0, 1) := by decide +kernel
theorem dJ7_fill_53178_11 : decode cJ7_fill_53178 11 = .ok (.iload_n 2, 1) := by decide +kernel
theorem dJ7_fill_53178_12 : decode cJ7_fill_53178 12 = .ok (.iload_n 1, 1) := by decide +kernel
theorem dJ7_fill_53178_13 : decode cJ7_fill_53178 13 = .ok (.iastore, 1) := by decide +kernel
theorem dJ7_fill_53178_14 : decode cJ7_fill_53178 14 = .ok (.iinc 2 1, 3) := by decide +kernel
theorem dJ7_fill_53178_17 : decode cJ7_fill_53178 17 = .ok (.goto (-12), 3) := by decide +kernel
theorem dJ7_fill_53178_20 : decode cJ7_fill_53178 20 = .ok (.return_, 1) := by decide +kernel
theorem dL_cell_0 : decode cL_cell 0 = .ok (.iload_n 1, 1) := by decide +kernel
theorem dL_cell_1 : decode cL_cell 1 = .ok (.aload_n 0, 1) := by decide +kernel
theorem dL_cell_2 : decode cL_cell 2 = .ok (.arraylength, 1) := by decide +kernel
theorem dL_cell_3 : decode cL_cell 3 = .ok (.if_icmp .ge 9, 3) := by decide +kernel
theorem dL_cell_6 : decode cL_cell 6 = .ok (.aload_n 0, 1) := by decide +kernel
theorem dL_cell_7 : decode cL_cell 7 = .ok (.iload_n 1, 1) := by decide +kernel
theorem dL_cell_8 : decode cL_cell 8 = .ok (.iaload, 1) := by decide +kernel
theorem dL_cell_9 : decode cL_cell 9 = .ok (.goto 11, 3) := by decide +kernel
theorem dL_cell_12 : decode cL_cell 12 = .ok (.ldc 7, 2) := by decide +kernel
theorem dL_cell_14 : decode cL_cell 14 = .ok (.iload_n 1, 1) := by decide +kernel
theorem dL_cell_15 : decode cL_cell 15 = .ok (.imul, 1) := by decide +kernel
theorem dL_cell_16 : decode cL_cell 16 = .ok (.sipush 3491, 3) := by decide +kernel
theorem dL_cell_19 : decode cL_cell 19 = .ok (.iadd, 1) := by decide +kernel
theorem dL_cell_20 : decode cL_cell 20 = .ok (.ldc 8, 2) := by decide +kernel
theorem dL_cell_22 : decode cL_cell 22 = .ok (.iand, 1) := by decide +kernel
theorem dL_cell_23 : decode cL_cell 23 = .ok (.ireturn, 1) := by decide +kernel
set_option maxRecDepth 20000 in
theorem ggL_refused_X8_count : GoodIn wsL_refused wsX8_count := goodIn_r _ [6, 7, 8, 9, 10, 11, 12, 13, 14, 15, 336, 337, 338, 339, 340, 341, 342, 343, 344, 345, 346, 347, 348, 349, 350, 351, 352, 353, 354, 355, 356, 357, 358, 359, 360, 361, 362, 363, 364, 365, 366, 367, 368] (by decide +kernel) (by decide +kernel)
set_option maxRecDepth 20000 in
theorem gL_refused_X8_count : GoodIn wsL_refused (wsV RL 9 RX8 yX8_count wsX8_count) := goodIn_app (goodIn_of _ (by decide +kernel)) ggL_refused_X8_count
set_option maxRecDepth 20000 in
theorem ggL_refused_X8_write : GoodIn wsL_refused wsX8_write := goodIn_r _ [19, 7, 20, 21, 22, 23, 24, 25, 336, 337, 338, 339, 340, 341, 342, 343, 344, 345, 346, 347, 348, 349, 350, 351, 352, 353] (by decide +kernel) (by decide +kernel)
set_option maxRecDepth 20000 in
theorem gL_refused_X8_write : GoodIn wsL_refused (wsV RL 15 RX8 yX8_write wsX8_write) := goodIn_app (goodIn_of _ (by decide +kernel)) ggL_refused_X8_write
set_option maxRecDepth 20000 in
theorem ggL_refused_X8_purse : GoodIn wsL_refused wsX8_purse := goodIn_r _ [29, 8, 30, 11, 31, 32, 14, 336, 337, 338, 339, 340, 341, 342, 343, 344, 345, 346, 354, 355, 356, 357, 358, 359, 360, 361, 362, 363, 364, 365] (by decide +kernel) (by decide +kernel)
set_option maxRecDepth 20000 in
theorem gL_refused_X8_purse : GoodIn wsL_refused (wsV RL 21 RX8 yX8_purse wsX8_purse) := goodIn_app (goodIn_of _ (by decide +kernel)) ggL_refused_X8_purse
set_option maxRecDepth 20000 in
theorem ggL_refused_X8_fill : GoodIn wsL_refused wsX8_fill := goodIn_r _ [36, 8, 30, 11, 31, 32, 14, 37, 38, 5, 39, 40, 336, 337, 338, 339, 340, 341, 342, 343, 344, 345, 346, 354, 355, 356, 357, 358, 359, 360, 361, 362, 363, 364, 365] (by decide +kernel) (by decide +kernel)
set_option maxRecDepth 20000 in
theorem gL_refused_X8_fill : GoodIn wsL_refused (wsV RL 24 RX8 yX8_fill wsX8_fill) := goodIn_app (goodIn_of _ (by decide +kernel)) ggL_refused_X8_fill
set_option maxRecDepth 20000 in
theorem ggL_refused_X8_law : GoodIn wsL_refused wsX8_law := goodIn_r _ [44, 8, 336, 337, 338, 339, 340, 341, 342, 343, 344, 345, 346, 354, 355, 356, 357, 358, 359, 360, 361, 362, 363, 364, 365] (by decide +kernel) (by decide +kernel)
set_option maxRecDepth 20000 in
theorem gL_refused_X8_law : GoodIn wsL_refused (wsV RL 29 RX8 yX8_law wsX8_law) := goodIn_app (goodIn_of _ (by decide +kernel)) ggL_refused_X8_law
set_option maxRecDepth 20000 in
theorem ggL_refused_X8_daily : GoodIn wsL_refused wsX8_daily := goodIn_r _ [48, 9, 49, 50, 51, 52, 53, 336, 337, 338, 339, 340, 341, 342, 343, 344, 345, 346, 366, 367, 368] (by decide +kernel) (by decide +kernel)
set_option maxRecDepth 20000 in
theorem gL_refused_X8_daily : GoodIn wsL_refused (wsV RL 32 RX8 yX8_daily wsX8_daily) := goodIn_app (goodIn_of _ (by decide +kernel)) ggL_refused_X8_daily
set_option maxRecDepth 20000 in
theorem ggL_refused_X8_shared : GoodIn wsL_refused wsX8_shared := goodIn_r _ [57, 8, 58, 59, 60, 5, 61, 30, 11, 31, 32, 14, 62, 63, 64, 65, 66, 67, 68, 336, 337, 338, 339, 340, 341, 342, 343, 344, 345, 346, 354, 355, 356, 357, 358, 359, 360, 361, 362, 363, 364, 365] (by decide +kernel) (by decide +kernel)
set_option maxRecDepth 20000 in
theorem gL_refused_X8_shared : GoodIn wsL_refused (wsV RL 35 RX8 yX8_shared wsX8_shared) := goodIn_app (goodIn_of _ (by decide +kernel)) ggL_refused_X8_shared
set_option maxRecDepth 20000 in
theorem ggL_refused_X8_meet : GoodIn wsL_refused wsX8_meet := goodIn_r _ [72, 8, 73, 58, 59, 60, 5, 61, 30, 11, 31, 32, 14, 74, 75, 76, 77, 78, 79, 80, 15, 81, 82, 83, 84, 62, 63, 64, 65, 66, 67, 68, 85, 86, 87, 88, 89, 90, 91, 40, 92, 93, 94, 95, 96, 97, 98, 99, 100, 336, 337, 338, 339, 340, 341, 342, 343, 344, 345, 346, 354, 355, 356, 357, 358, 359, 360, 361, 362, 363, 364, 365] (by decide +kernel) (by decide +kernel)
set_option maxRecDepth 20000 in
theorem gL_refused_X8_meet : GoodIn wsL_refused (wsV RL 38 RX8 yX8_meet wsX8_meet) := goodIn_app (goodIn_of _ (by decide +kernel)) ggL_refused_X8_meet
set_option maxRecDepth 20000 in
theorem ggL_refused_X8_after : GoodIn wsL_refused wsX8_after := goodIn_r _ [104, 8, 105, 106, 30, 11, 31, 32, 14, 107, 108, 109, 110, 111, 112, 113, 114, 63, 5, 64, 65, 66, 67, 68, 115, 116, 117, 118, 119, 93, 90, 94, 120, 121, 122, 123, 124, 125, 126, 127, 128, 89, 91, 129, 130, 131, 132, 133, 99, 100, 134, 135, 136, 137, 138, 139, 140, 141, 142, 143, 144, 145, 86, 87, 88, 40, 92, 95, 96, 97, 98, 336, 337, 338, 339, 340, 341, 342, 343, 344, 345, 346, 354, 355, 356, 357, 358, 359, 360, 361, 362, 363, 364, 365, 369, 370, 371, 372, 373] (by decide +kernel) (by decide +kernel)
set_option maxRecDepth 20000 in
theorem gL_refused_X8_after : GoodIn wsL_refused (wsV RL 41 RX8 yX8_after wsX8_after) := goodIn_app (goodIn_of _ (by decide +kernel)) ggL_refused_X8_after
set_option maxRecDepth 20000 in
theorem ggL_refused_X8_ring : GoodIn wsL_refused wsX8_ring := goodIn_r _ [149, 106, 8, 105, 58, 59, 60, 5, 61, 30, 11, 31, 32, 14, 107, 108, 109, 110, 111, 112, 113, 114, 63, 64, 65, 66, 67, 68, 115, 116, 117, 118, 119, 93, 90, 94, 120, 121, 122, 123, 124, 125, 126, 127, 128, 89, 91, 129, 130, 131, 132, 133, 99, 100, 134, 135, 136, 137, 138, 139, 140, 141, 142, 143, 144, 145, 86, 87, 88, 40, 92, 95, 96, 97, 98, 150, 151, 152, 336, 337, 338, 339, 340, 341, 342, 343, 344, 345, 346, 354, 355, 356, 357, 358, 359, 360, 361, 362, 363, 364, 365, 369, 370, 371, 372, 373] (by decide +kernel) (by decide +kernel)
set_option maxRecDepth 20000 in
theorem gL_refused_X8_ring : GoodIn wsL_refused (wsV RL 45 RX8 yX8_ring wsX8_ring) := goodIn_app (goodIn_of _ (by decide +kernel)) ggL_refused_X8_ring
set_option maxRecDepth 20000 in
theorem ggL_refused_X8_lead : GoodIn wsL_refused wsX8_lead := goodIn_r _ [156, 106, 8, 105, 58, 59, 60, 5, 61, 30, 11, 31, 32, 14, 107, 108, 109, 110, 111, 112, 113, 114, 63, 64, 65, 66, 67, 68, 115, 116, 117, 118, 119, 93, 90, 94, 120, 121, 122, 123, 124, 125, 126, 127, 128, 89, 91, 129, 130, 131, 132, 133, 99, 100, 134, 135, 136, 137, 138, 139, 140, 141, 142, 143, 144, 145, 86, 87, 88, 40, 92, 95, 96, 97, 98, 336, 337, 338, 339, 340, 341, 342, 343, 344, 345, 346, 354, 355, 356, 357, 358, 359, 360, 361, 362, 363, 364, 365, 369, 370, 371, 372, 373] (by decide +kernel) (by decide +kernel)
set_option maxRecDepth 20000 in
theorem gL_refused_X8_lead : GoodIn wsL_refused (wsV RL 48 RX8 yX8_lead wsX8_lead) := goodIn_app (goodIn_of _ (by decide +kernel)) ggL_refused_X8_lead
set_option maxRecDepth 20000 in
theorem ggL_refused_X8_later : GoodIn wsL_refused wsX8_later := goodIn_r _ [160, 8, 161, 162, 163, 164, 165, 9, 30, 11, 31, 32, 14, 166, 50, 167, 168, 53, 169, 170, 171, 172, 173, 174, 83, 5, 84, 62, 63, 64, 65, 66, 67, 68, 85, 86, 87, 88, 89, 90, 91, 40, 92, 93, 94, 95, 96, 97, 98, 99, 100, 336, 337, 338, 339, 340, 341, 342, 343, 344, 345, 346, 354, 355, 356, 357, 358, 359, 360, 361, 362, 363, 364, 365, 366, 367, 368] (by decide +kernel) (by decide +kernel)
set_option maxRecDepth 20000 in
theorem gL_refused_X8_later : GoodIn wsL_refused (wsV RL 51 RX8 yX8_later wsX8_later) := goodIn_app (goodIn_of _ (by decide +kernel)) ggL_refused_X8_later
set_option maxRecDepth 20000 in
theorem ggL_refused_X8_most : GoodIn wsL_refused wsX8_most := goodIn_r _ [178, 8, 9, 179, 30, 11, 31, 32, 14, 180, 181, 182, 183, 184, 185, 163, 164, 165, 186, 187, 188, 93, 90, 94, 189, 190, 191, 192, 193, 194, 195, 196, 197, 198, 199, 200, 201, 202, 203, 204, 205, 83, 5, 84, 62, 63, 64, 65, 66, 67, 68, 85, 86, 87, 88, 89, 91, 40, 92, 95, 96, 97, 98, 99, 100, 336, 337, 338, 339, 340, 341, 342, 343, 344, 345, 346, 366, 367, 368, 374, 375, 376, 377, 378, 379, 380, 381, 354, 355, 356, 357, 358, 359, 360, 361, 362, 363, 364, 365] (by decide +kernel) (by decide +kernel)
set_option maxRecDepth 20000 in
theorem gL_refused_X8_most : GoodIn wsL_refused (wsV RL 54 RX8 yX8_most wsX8_most) := goodIn_app (goodIn_of _ (by decide +kernel)) ggL_refused_X8_most
set_option maxRecDepth 20000 in
theorem ggL_refused_X8_mostAt : GoodIn wsL_refused wsX8_mostAt := goodIn_r _ [209, 8, 9, 179, 30, 11, 31, 32, 14, 49, 50, 51, 52, 53, 180, 181, 182, 183, 184, 185, 163, 164, 165, 186, 187, 188, 93, 90, 94, 189, 190, 191, 192, 193, 194, 195, 196, 197, 198, 199, 200, 201, 202, 203, 204, 205, 83, 5, 84, 62, 63, 64, 65, 66, 67, 68, 85, 86, 87, 88, 89, 91, 40, 92, 95, 96, 97, 98, 99, 100, 336, 337, 338, 339, 340, 341, 342, 343, 344, 345, 346, 366, 367, 368, 374, 375, 376, 377, 378, 379, 380, 381, 354, 355, 356, 357, 358, 359, 360, 361, 362, 363, 364, 365] (by decide +kernel) (by decide +kernel)
set_option maxRecDepth 20000 in
theorem gL_refused_X8_mostAt : GoodIn wsL_refused (wsV RL 57 RX8 yX8_mostAt wsX8_mostAt) := goodIn_app (goodIn_of _ (by decide +kernel)) ggL_refused_X8_mostAt
set_option maxRecDepth 20000 in
theorem ggL_refused_X8_pennies : GoodIn wsL_refused wsX8_pennies := goodIn_r _ [213, 8, 58, 59, 60, 5, 61, 30, 11, 31, 32, 14, 214, 215, 216, 65, 66, 67, 68, 336, 337, 338, 339, 340, 341, 342, 343, 344, 345, 346, 354, 355, 356, 357, 358, 359, 360, 361, 362, 363, 364, 365] (by decide +kernel) (by decide +kernel)
set_option maxRecDepth 20000 in
theorem gL_refused_X8_pennies : GoodIn wsL_refused (wsV RL 60 RX8 yX8_pennies wsX8_pennies) := goodIn_app (goodIn_of _ (by decide +kernel)) ggL_refused_X8_pennies
set_option maxRecDepth 20000 in
theorem ggL_refused_X8_see : GoodIn wsL_refused wsX8_see := goodIn_r _ [220, 40, 8, 37, 38, 5, 39, 221, 11, 222, 223, 224, 225, 226, 336, 337, 338, 339, 340, 341, 342, 343, 344, 345, 346, 354, 355, 356, 357, 358, 359, 360, 361, 362, 363, 364, 365] (by decide +kernel) (by decide +kernel)
set_option maxRecDepth 20000 in
theorem gL_refused_X8_see : GoodIn wsL_refused (wsV RL 63 RX8 yX8_see wsX8_see) := goodIn_app (goodIn_of _ (by decide +kernel)) ggL_refused_X8_see
set_option maxRecDepth 20000 in
theorem ggL_refused_X8_mayHold : GoodIn wsL_refused wsX8_mayHold := goodIn_r _ [230, 231, 8, 37, 38, 5, 39, 40, 232, 233, 234, 235, 236, 237, 238, 239, 240, 241, 242, 243, 244, 245, 246, 247, 248, 249, 250, 66, 67, 68, 251, 252, 253, 254, 255, 256, 140, 141, 257, 258, 259, 260, 261, 262, 263, 264, 265, 266, 267, 268, 269, 270, 271, 272, 336, 337, 338, 339, 340, 341, 342, 343, 344, 345, 346, 382, 383, 384, 385, 386, 387, 388, 354, 355, 356, 357, 358, 359, 360, 361, 362, 363, 364, 365] (by decide +kernel) (by decide +kernel)
set_option maxRecDepth 20000 in
theorem gL_refused_X8_mayHold : GoodIn wsL_refused (wsV RL 66 RX8 yX8_mayHold wsX8_mayHold) := goodIn_app (goodIn_of _ (by decide +kernel)) ggL_refused_X8_mayHold
set_option maxRecDepth 20000 in
theorem ggL_refused_X8_ruin : GoodIn wsL_refused wsX8_ruin := goodIn_r _ [276, 8, 277, 30, 11, 31, 32, 14, 37, 38, 5, 39, 40, 278, 279, 280, 281, 282, 283, 284, 285, 286, 287, 288, 289, 290, 291, 292, 293, 294, 295, 296, 163, 164, 165, 297, 298, 299, 300, 301, 302, 62, 63, 64, 65, 66, 67, 68, 85, 86, 87, 88, 89, 90, 91, 92, 93, 94, 95, 96, 97, 98, 99, 100, 303, 304, 305, 336, 337, 338, 339, 340, 341, 342, 343, 344, 345, 346, 389, 390, 391, 392, 393, 394, 354, 355, 356, 357, 358, 359, 360, 361, 362, 363, 364, 365] (by decide +kernel) (by decide +kernel)
set_option maxRecDepth 20000 in
theorem gL_refused_X8_ruin : GoodIn wsL_refused (wsV RL 69 RX8 yX8_ruin wsX8_ruin) := goodIn_app (goodIn_of _ (by decide +kernel)) ggL_refused_X8_ruin
set_option maxRecDepth 20000 in
theorem ggL_refused_X8_ruinAt : GoodIn wsL_refused wsX8_ruinAt := goodIn_r _ [309, 8, 277, 30, 11, 31, 32, 14, 37, 38, 5, 39, 40, 278, 279, 280, 281, 282, 283, 284, 285, 286, 287, 288, 289, 290, 291, 292, 293, 294, 295, 296, 163, 164, 165, 297, 298, 299, 300, 301, 302, 62, 63, 64, 65, 66, 67, 68, 85, 86, 87, 88, 89, 90, 91, 92, 93, 94, 95, 96, 97, 98, 99, 100, 303, 304, 305, 336, 337, 338, 339, 340, 341, 342, 343, 344, 345, 346, 389, 390, 391, 392, 393, 394, 354, 355, 356, 357, 358, 359, 360, 361, 362, 363, 364, 365] (by decide +kernel) (by decide +kernel)
set_option maxRecDepth 20000 in
theorem gL_refused_X8_ruinAt : GoodIn wsL_refused (wsV RL 72 RX8 yX8_ruinAt wsX8_ruinAt) := goodIn_app (goodIn_of _ (by decide +kernel)) ggL_refused_X8_ruinAt
set_option maxRecDepth 20000 in
theorem ggL_refused_X8_charm : GoodIn wsL_refused wsX8_charm := goodIn_r _ [313, 8, 68, 30, 11, 31, 32, 14, 314, 315, 5, 316, 336, 337, 338, 339, 340, 341, 342, 343, 344, 345, 346, 354, 355, 356, 357, 358, 359, 360, 361, 362, 363, 364, 365] (by decide +kernel) (by decide +kernel)
set_option maxRecDepth 20000 in
theorem gL_refused_X8_charm : GoodIn wsL_refused (wsV RL 75 RX8 yX8_charm wsX8_charm) := goodIn_app (goodIn_of _ (by decide +kernel)) ggL_refused_X8_charm
set_option maxRecDepth 20000 in
theorem ggL_refused_X8_keep : GoodIn wsL_refused wsX8_keep := goodIn_r _ [320, 8, 321, 322, 323, 5, 324, 325, 326, 327, 11, 328, 329, 330, 14, 82, 15, 331, 163, 164, 165, 77, 78, 79, 80, 81, 224, 225, 226, 336, 337, 338, 339, 340, 341, 342, 343, 344, 345, 346, 354, 355, 356, 357, 358, 359, 360, 361, 362, 363, 364, 365] (by decide +kernel) (by decide +kernel)
set_option maxRecDepth 20000 in
theorem gL_refused_X8_keep : GoodIn wsL_refused (wsV RL 78 RX8 yX8_keep wsX8_keep) := goodIn_app (goodIn_of _ (by decide +kernel)) ggL_refused_X8_keep
set_option maxRecDepth 20000 in
theorem ggL_refused_X8_again : GoodIn wsL_refused wsX8_again := goodIn_r _ [335, 8, 321, 322, 323, 5, 324, 325, 326, 327, 11, 328, 329, 330, 14, 82, 15, 331, 163, 164, 165, 77, 78, 79, 80, 81, 224, 225, 226, 354, 355, 356, 357, 358, 359, 360, 361, 362, 363, 364, 365, 336, 337, 338, 339, 340, 341, 342, 343, 344, 345, 346] (by decide +kernel) (by decide +kernel)
set_option maxRecDepth 20000 in
theorem gL_refused_X8_again : GoodIn wsL_refused (wsV RL 81 RX8 yX8_again wsX8_again) := goodIn_app (goodIn_of _ (by decide +kernel)) ggL_refused_X8_again
theorem dL_refused_0 : decode cL_refused 0 = .ok (.aload_n 0, 1) := by decide +kernel
theorem dL_refused_1 : decode cL_refused 1 = .ok (.iconst 1, 1) := by decide +kernel
theorem dL_refused_2 : decode cL_refused 2 = .ok (.invokevirtual 9, 3) := by decide +kernel
theorem dL_refused_5 : decode cL_refused 5 = .ok (.istore_n 1, 1) := by decide +kernel
theorem dL_refused_6 : decode cL_refused 6 = .ok (.aload_n 0, 1) := by decide +kernel
theorem dL_refused_7 : decode cL_refused 7 = .ok (.iconst 0, 1) := by decide +kernel
theorem dL_refused_8 : decode cL_refused 8 = .ok (.lconst 0, 1) := by decide +kernel
theorem dL_refused_9 : decode cL_refused 9 = .ok (.invokevirtual 15, 3) := by decide +kernel
theorem dL_refused_12 : decode cL_refused 12 = .ok (.bipush (-2), 2) := by decide +kernel
theorem dL_refused_14 : decode cL_refused 14 = .ok (.if_icmp .ne 248, 3) := by decide +kernel
theorem dL_refused_17 : decode cL_refused 17 = .ok (.aload_n 0, 1) := by decide +kernel
theorem dL_refused_18 : decode cL_refused 18 = .ok (.iload_n 1, 1) := by decide +kernel
theorem dL_refused_19 : decode cL_refused 19 = .ok (.invokevirtual 21, 3) := by decide +kernel
theorem dL_refused_22 : decode cL_refused 22 = .ok (.iconst (-1), 1) := by decide +kernel
theorem dL_refused_23 : decode cL_refused 23 = .ok (.if_icmp .ne 239, 3) := by decide +kernel
theorem dL_refused_26 : decode cL_refused 26 = .ok (.aload_n 0, 1) := by decide +kernel
theorem dL_refused_27 : decode cL_refused 27 = .ok (.iload_n 1, 1) := by decide +kernel
theorem dL_refused_28 : decode cL_refused 28 = .ok (.iconst 0, 1) := by decide +kernel
theorem dL_refused_29 : decode cL_refused 29 = .ok (.invokevirtual 24, 3) := by decide +kernel
theorem dL_refused_32 : decode cL_refused 32 = .ok (.iconst (-1), 1) := by decide +kernel
theorem dL_refused_33 : decode cL_refused 33 = .ok (.if_icmp .ne 229, 3) := by decide +kernel
theorem dL_refused_36 : decode cL_refused 36 = .ok (.aload_n 0, 1) := by decide +kernel
theorem dL_refused_37 : decode cL_refused 37 = .ok (.iconst 0, 1) := by decide +kernel
theorem dL_refused_38 : decode cL_refused 38 = .ok (.ldc 28, 2) := by decide +kernel
theorem dL_refused_40 : decode cL_refused 40 = .ok (.invokevirtual 24, 3) := by decide +kernel
theorem dL_refused_43 : decode cL_refused 43 = .ok (.bipush (-2), 2) := by decide +kernel
theorem dL_refused_45 : decode cL_refused 45 = .ok (.if_icmp .ne 217, 3) := by decide +kernel
theorem dL_refused_48 : decode cL_refused 48 = .ok (.aload_n 0, 1) := by decide +kernel
theorem dL_refused_49 : decode cL_refused 49 = .ok (.iconst 4, 1) := by decide +kernel
theorem dL_refused_50 : decode cL_refused 50 = .ok (.invokevirtual 29, 3) := by decide +kernel
theorem dL_refused_53 : decode cL_refused 53 = .ok (.bipush (-2), 2) := by decide +kernel
theorem dL_refused_55 : decode cL_refused 55 = .ok (.if_icmp .ne 207, 3) := by decide +kernel
theorem dL_refused_58 : decode cL_refused 58 = .ok (.aload_n 0, 1) := by decide +kernel
theorem dL_refused_59 : decode cL_refused 59 = .ok (.iconst 0, 1) := by decide +kernel
theorem dL_refused_60 : decode cL_refused 60 = .ok (.iconst (-1), 1) := by decide +kernel
theorem dL_refused_61 : decode cL_refused 61 = .ok (.invokevirtual 32, 3) := by decide +kernel
theorem dL_refused_64 : decode cL_refused 64 = .ok (.bipush (-2), 2) := by decide +kernel
theorem dL_refused_66 : decode cL_refused 66 = .ok (.if_icmp .ne 196, 3) := by decide +kernel
theorem dL_refused_69 : decode cL_refused 69 = .ok (.aload_n 0, 1) := by decide +kernel
theorem dL_refused_70 : decode cL_refused 70 = .ok (.iconst 0, 1) := by decide +kernel
theorem dL_refused_71 : decode cL_refused 71 = .ok (.iload_n 1, 1) := by decide +kernel
theorem dL_refused_72 : decode cL_refused 72 = .ok (.invokevirtual 35, 3) := by decide +kernel
theorem dL_refused_75 : decode cL_refused 75 = .ok (.iconst (-1), 1) := by decide +kernel
theorem dL_refused_76 : decode cL_refused 76 = .ok (.if_icmp .ne 186, 3) := by decide +kernel
theorem dL_refused_79 : decode cL_refused 79 = .ok (.aload_n 0, 1) := by decide +kernel
theorem dL_refused_80 : decode cL_refused 80 = .ok (.iconst 0, 1) := by decide +kernel
theorem dL_refused_81 : decode cL_refused 81 = .ok (.iconst 0, 1) := by decide +kernel
theorem dL_refused_82 : decode cL_refused 82 = .ok (.invokevirtual 38, 3) := by decide +kernel
theorem dL_refused_85 : decode cL_refused 85 = .ok (.bipush (-3), 2) := by decide +kernel
theorem dL_refused_87 : decode cL_refused 87 = .ok (.if_icmp .ne 175, 3) := by decide +kernel
theorem dL_refused_90 : decode cL_refused 90 = .ok (.aload_n 0, 1) := by decide +kernel
theorem dL_refused_91 : decode cL_refused 91 = .ok (.iload_n 1, 1) := by decide +kernel
theorem dL_refused_92 : decode cL_refused 92 = .ok (.iconst 0, 1) := by decide +kernel
theorem dL_refused_93 : decode cL_refused 93 = .ok (.invokevirtual 38, 3) := by decide +kernel
theorem dL_refused_96 : decode cL_refused 96 = .ok (.iconst (-1), 1) := by decide +kernel
theorem dL_refused_97 : decode cL_refused 97 = .ok (.if_icmp .ne 165, 3) := by decide +kernel
theorem dL_refused_100 : decode cL_refused 100 = .ok (.aload_n 0, 1) := by decide +kernel
theorem dL_refused_101 : decode cL_refused 101 = .ok (.iconst 0, 1) := by decide +kernel
theorem dL_refused_102 : decode cL_refused 102 = .ok (.iconst 1, 1) := by decide +kernel
theorem dL_refused_103 : decode cL_refused 103 = .ok (.iconst (-1), 1) := by decide +kernel
theorem dL_refused_104 : decode cL_refused 104 = .ok (.invokevirtual 41, 3) := by decide +kernel
theorem dL_refused_107 : decode cL_refused 107 = .ok (.bipush (-2), 2) := by decide +kernel
theorem dL_refused_109 : decode cL_refused 109 = .ok (.if_icmp .ne 153, 3) := by decide +kernel
theorem dL_refused_112 : decode cL_refused 112 = .ok (.aload_n 0, 1) := by decide +kernel
theorem dL_refused_113 : decode cL_refused 113 = .ok (.iconst 0, 1) := by decide +kernel
theorem dL_refused_114 : decode cL_refused 114 = .ok (.iconst 0, 1) := by decide +kernel
theorem dL_refused_115 : decode cL_refused 115 = .ok (.invokevirtual 45, 3) := by decide +kernel
theorem dL_refused_118 : decode cL_refused 118 = .ok (.bipush (-3), 2) := by decide +kernel
theorem dL_refused_120 : decode cL_refused 120 = .ok (.if_icmp .ne 142, 3) := by decide +kernel
theorem dL_refused_123 : decode cL_refused 123 = .ok (.aload_n 0, 1) := by decide +kernel
theorem dL_refused_124 : decode cL_refused 124 = .ok (.iload_n 1, 1) := by decide +kernel
theorem dL_refused_125 : decode cL_refused 125 = .ok (.iconst 0, 1) := by decide +kernel
theorem dL_refused_126 : decode cL_refused 126 = .ok (.invokevirtual 48, 3) := by decide +kernel
theorem dL_refused_129 : decode cL_refused 129 = .ok (.iconst (-1), 1) := by decide +kernel
theorem dL_refused_130 : decode cL_refused 130 = .ok (.if_icmp .ne 132, 3) := by decide +kernel
theorem dL_refused_133 : decode cL_refused 133 = .ok (.aload_n 0, 1) := by decide +kernel
theorem dL_refused_134 : decode cL_refused 134 = .ok (.iconst 0, 1) := by decide +kernel
theorem dL_refused_135 : decode cL_refused 135 = .ok (.sipush 301, 3) := by decide +kernel
theorem dL_refused_138 : decode cL_refused 138 = .ok (.invokevirtual 51, 3) := by decide +kernel
theorem dL_refused_141 : decode cL_refused 141 = .ok (.bipush (-2), 2) := by decide +kernel
theorem dL_refused_143 : decode cL_refused 143 = .ok (.if_icmp .ne 119, 3) := by decide +kernel
theorem dL_refused_146 : decode cL_refused 146 = .ok (.aload_n 0, 1) := by decide +kernel
theorem dL_refused_147 : decode cL_refused 147 = .ok (.iload_n 1, 1) := by decide +kernel
theorem dL_refused_148 : decode cL_refused 148 = .ok (.invokevirtual 54, 3) := by decide +kernel
theorem dL_refused_151 : decode cL_refused 151 = .ok (.iconst (-1), 1) := by decide +kernel
theorem dL_refused_152 : decode cL_refused 152 = .ok (.if_icmp .ne 110, 3) := by decide +kernel
theorem dL_refused_155 : decode cL_refused 155 = .ok (.aload_n 0, 1) := by decide +kernel
theorem dL_refused_156 : decode cL_refused 156 = .ok (.iconst (-1), 1) := by decide +kernel
theorem dL_refused_157 : decode cL_refused 157 = .ok (.iconst 0, 1) := by decide +kernel
theorem dL_refused_158 : decode cL_refused 158 = .ok (.invokevirtual 57, 3) := by decide +kernel
theorem dL_refused_161 : decode cL_refused 161 = .ok (.iconst (-1), 1) := by decide +kernel
theorem dL_refused_162 : decode cL_refused 162 = .ok (.if_icmp .ne 100, 3) := by decide +kernel
theorem dL_refused_165 : decode cL_refused 165 = .ok (.aload_n 0, 1) := by decide +kernel
theorem dL_refused_166 : decode cL_refused 166 = .ok (.iconst 0, 1) := by decide +kernel
theorem dL_refused_167 : decode cL_refused 167 = .ok (.iconst 0, 1) := by decide +kernel
theorem dL_refused_168 : decode cL_refused 168 = .ok (.invokevirtual 60, 3) := by decide +kernel
theorem dL_refused_171 : decode cL_refused 171 = .ok (.bipush (-3), 2) := by decide +kernel
theorem dL_refused_173 : decode cL_refused 173 = .ok (.if_icmp .ne 89, 3) := by decide +kernel
theorem dL_refused_176 : decode cL_refused 176 = .ok (.aload_n 0, 1) := by decide +kernel
theorem dL_refused_177 : decode cL_refused 177 = .ok (.iconst 0, 1) := by decide +kernel
theorem dL_refused_178 : decode cL_refused 178 = .ok (.iconst 1, 1) := by decide +kernel
theorem dL_refused_179 : decode cL_refused 179 = .ok (.invokevirtual 63, 3) := by decide +kernel
theorem dL_refused_182 : decode cL_refused 182 = .ok (.bipush (-2), 2) := by decide +kernel
theorem dL_refused_184 : decode cL_refused 184 = .ok (.if_icmp .ne 78, 3) := by decide +kernel
theorem dL_refused_187 : decode cL_refused 187 = .ok (.aload_n 0, 1) := by decide +kernel
theorem dL_refused_188 : decode cL_refused 188 = .ok (.iconst (-1), 1) := by decide +kernel
theorem dL_refused_189 : decode cL_refused 189 = .ok (.iconst 0, 1) := by decide +kernel
theorem dL_refused_190 : decode cL_refused 190 = .ok (.invokevirtual 66, 3) := by decide +kernel
theorem dL_refused_193 : decode cL_refused 193 = .ok (.bipush (-2), 2) := by decide +kernel
theorem dL_refused_195 : decode cL_refused 195 = .ok (.if_icmp .ne 67, 3) := by decide +kernel
theorem dL_refused_198 : decode cL_refused 198 = .ok (.aload_n 0, 1) := by decide +kernel
theorem dL_refused_199 : decode cL_refused 199 = .ok (.iconst 0, 1) := by decide +kernel
theorem dL_refused_200 : decode cL_refused 200 = .ok (.iconst (-1), 1) := by decide +kernel
theorem dL_refused_201 : decode cL_refused 201 = .ok (.invokevirtual 69, 3) := by decide +kernel
theorem dL_refused_204 : decode cL_refused 204 = .ok (.bipush (-2), 2) := by decide +kernel
theorem dL_refused_206 : decode cL_refused 206 = .ok (.if_icmp .ne 56, 3) := by decide +kernel
theorem dL_refused_209 : decode cL_refused 209 = .ok (.aload_n 0, 1) := by decide +kernel
theorem dL_refused_210 : decode cL_refused 210 = .ok (.iload_n 1, 1) := by decide +kernel
theorem dL_refused_211 : decode cL_refused 211 = .ok (.iconst 0, 1) := by decide +kernel
theorem dL_refused_212 : decode cL_refused 212 = .ok (.iconst 0, 1) := by decide +kernel
theorem dL_refused_213 : decode cL_refused 213 = .ok (.invokevirtual 72, 3) := by decide +kernel
theorem dL_refused_216 : decode cL_refused 216 = .ok (.iconst (-1), 1) := by decide +kernel
theorem dL_refused_217 : decode cL_refused 217 = .ok (.if_icmp .ne 45, 3) := by decide +kernel
theorem dL_refused_220 : decode cL_refused 220 = .ok (.aload_n 0, 1) := by decide +kernel
theorem dL_refused_221 : decode cL_refused 221 = .ok (.iload_n 1, 1) := by decide +kernel
theorem dL_refused_222 : decode cL_refused 222 = .ok (.invokevirtual 75, 3) := by decide +kernel
theorem dL_refused_225 : decode cL_refused 225 = .ok (.iconst (-1), 1) := by decide +kernel
theorem dL_refused_226 : decode cL_refused 226 = .ok (.if_icmp .ne 36, 3) := by decide +kernel
theorem dL_refused_229 : decode cL_refused 229 = .ok (.aload_n 0, 1) := by decide +kernel
theorem dL_refused_230 : decode cL_refused 230 = .ok (.iconst 2, 1) := by decide +kernel
theorem dL_refused_231 : decode cL_refused 231 = .ok (.invokevirtual 78, 3) := by decide +kernel
theorem dL_refused_234 : decode cL_refused 234 = .ok (.iconst (-1), 1) := by decide +kernel
theorem dL_refused_235 : decode cL_refused 235 = .ok (.if_icmp .ne 27, 3) := by decide +kernel
theorem dL_refused_238 : decode cL_refused 238 = .ok (.aload_n 0, 1) := by decide +kernel
theorem dL_refused_239 : decode cL_refused 239 = .ok (.iconst (-1), 1) := by decide +kernel
theorem dL_refused_240 : decode cL_refused 240 = .ok (.invokevirtual 81, 3) := by decide +kernel
theorem dL_refused_243 : decode cL_refused 243 = .ok (.iconst (-1), 1) := by decide +kernel
theorem dL_refused_244 : decode cL_refused 244 = .ok (.if_icmp .ne 18, 3) := by decide +kernel
theorem dL_refused_247 : decode cL_refused 247 = .ok (.aload_n 0, 1) := by decide +kernel
theorem dL_refused_248 : decode cL_refused 248 = .ok (.bipush 7, 2) := by decide +kernel
theorem dL_refused_250 : decode cL_refused 250 = .ok (.invokevirtual 9, 3) := by decide +kernel
theorem dL_refused_253 : decode cL_refused 253 = .ok (.bipush (-2), 2) := by decide +kernel
theorem dL_refused_255 : decode cL_refused 255 = .ok (.if_icmp .ne 7, 3) := by decide +kernel
theorem dL_refused_258 : decode cL_refused 258 = .ok (.iconst 1, 1) := by decide +kernel
theorem dL_refused_259 : decode cL_refused 259 = .ok (.goto 4, 3) := by decide +kernel
theorem dL_refused_262 : decode cL_refused 262 = .ok (.iconst 0, 1) := by decide +kernel
theorem dL_refused_263 : decode cL_refused 263 = .ok (.ireturn, 1) := by decide +kernel
set_option maxRecDepth 20000 in
theorem ggL_act_X8_count : GoodIn wsL_act wsX8_count := goodIn_r _ [10, 11, 12, 13, 14, 15, 16, 17, 18, 19, 196, 197, 198, 199, 200, 201, 202, 203, 204, 205, 206, 207, 208, 209, 210, 211, 212, 213, 214, 215, 216, 217, 218, 219, 220, 221, 222, 223, 224, 225, 226, 227, 228] (by decide +kernel) (by decide +kernel)
set_option maxRecDepth 20000 in
theorem gL_act_X8_count : GoodIn wsL_act (wsV RL 9 RX8 yX8_count wsX8_count) := goodIn_app (goodIn_of _ (by decide +kernel)) ggL_act_X8_count
set_option maxRecDepth 20000 in
theorem ggL_act_X8_wipe : GoodIn wsL_act wsX8_wipe := goodIn_r _ [23, 11, 196, 197, 198, 199, 200, 201, 202, 203, 204, 205, 206, 207, 208, 209, 210, 211, 212, 213] (by decide +kernel) (by decide +kernel)
set_option maxRecDepth 20000 in
theorem gL_act_X8_wipe : GoodIn wsL_act (wsV RL 84 RX8 yX8_wipe wsX8_wipe) := goodIn_app (goodIn_of _ (by decide +kernel)) ggL_act_X8_wipe
set_option maxRecDepth 20000 in
theorem ggL_act_X8_write : GoodIn wsL_act wsX8_write := goodIn_r _ [27, 11, 28, 29, 30, 31, 32, 33, 196, 197, 198, 199, 200, 201, 202, 203, 204, 205, 206, 207, 208, 209, 210, 211, 212, 213] (by decide +kernel) (by decide +kernel)
set_option maxRecDepth 20000 in
theorem gL_act_X8_write : GoodIn wsL_act (wsV RL 15 RX8 yX8_write wsX8_write) := goodIn_app (goodIn_of _ (by decide +kernel)) ggL_act_X8_write
set_option maxRecDepth 20000 in
theorem ggL_act_X8_town : GoodIn wsL_act wsX8_town := goodIn_r _ [37, 11, 12, 13, 38, 39, 40, 29, 41, 42, 43, 44, 45, 32, 46, 47, 48, 49, 50, 51, 52, 53, 54, 33, 55, 56, 57, 58, 59, 60, 61, 62, 63, 64, 65, 66, 67, 68, 69, 70, 71, 72, 73, 74, 75, 76, 77, 78, 79, 15, 80, 81, 18, 82, 19, 83, 84, 85, 86, 87, 88, 89, 90, 91, 92, 196, 197, 198, 199, 200, 201, 202, 203, 204, 205, 206, 207, 208, 209, 210, 211, 212, 213, 214, 215, 216, 217, 218, 219, 220, 221, 222, 223, 224, 225, 226, 227, 228] (by decide +kernel) (by decide +kernel)
set_option maxRecDepth 20000 in
theorem gL_act_X8_town : GoodIn wsL_act (wsV RL 98 RX8 yX8_town wsX8_town) := goodIn_app (goodIn_of _ (by decide +kernel)) ggL_act_X8_town
set_option maxRecDepth 20000 in
theorem ggL_act_X8_fill : GoodIn wsL_act wsX8_fill := goodIn_r _ [96, 12, 97, 15, 98, 99, 18, 100, 101, 9, 102, 103, 196, 197, 198, 199, 200, 201, 202, 203, 204, 205, 206, 214, 215, 216, 217, 218, 219, 220, 221, 222, 223, 224, 225] (by decide +kernel) (by decide +kernel)
set_option maxRecDepth 20000 in
theorem gL_act_X8_fill : GoodIn wsL_act (wsV RL 24 RX8 yX8_fill wsX8_fill) := goodIn_app (goodIn_of _ (by decide +kernel)) ggL_act_X8_fill
set_option maxRecDepth 20000 in
theorem ggL_act_X8_law : GoodIn wsL_act wsX8_law := goodIn_r _ [107, 12, 196, 197, 198, 199, 200, 201, 202, 203, 204, 205, 206, 214, 215, 216, 217, 218, 219, 220, 221, 222, 223, 224, 225] (by decide +kernel) (by decide +kernel)
set_option maxRecDepth 20000 in
theorem gL_act_X8_law : GoodIn wsL_act (wsV RL 29 RX8 yX8_law wsX8_law) := goodIn_app (goodIn_of _ (by decide +kernel)) ggL_act_X8_law
set_option maxRecDepth 20000 in
theorem ggL_act_X8_meet : GoodIn wsL_act wsX8_meet := goodIn_r _ [111, 12, 112, 113, 114, 115, 9, 116, 97, 15, 98, 99, 18, 117, 118, 119, 87, 120, 121, 122, 19, 123, 82, 124, 125, 126, 127, 128, 129, 130, 131, 132, 133, 134, 135, 136, 137, 138, 139, 103, 140, 141, 142, 143, 144, 145, 146, 147, 148, 196, 197, 198, 199, 200, 201, 202, 203, 204, 205, 206, 214, 215, 216, 217, 218, 219, 220, 221, 222, 223, 224, 225] (by decide +kernel) (by decide +kernel)
set_option maxRecDepth 20000 in
theorem gL_act_X8_meet : GoodIn wsL_act (wsV RL 38 RX8 yX8_meet wsX8_meet) := goodIn_app (goodIn_of _ (by decide +kernel)) ggL_act_X8_meet
set_option maxRecDepth 20000 in
theorem ggL_act_X8_back : GoodIn wsL_act wsX8_back := goodIn_r _ [152, 12, 153, 15, 154, 155, 87, 19, 120, 122, 121, 123, 196, 197, 198, 199, 200, 201, 202, 203, 204, 205, 206, 214, 215, 216, 217, 218, 219, 220, 221, 222, 223, 224, 225] (by decide +kernel) (by decide +kernel)
set_option maxRecDepth 20000 in
theorem gL_act_X8_back : GoodIn wsL_act (wsV RL 101 RX8 yX8_back wsX8_back) := goodIn_app (goodIn_of _ (by decide +kernel)) ggL_act_X8_back
set_option maxRecDepth 20000 in
theorem ggL_act_X8_day : GoodIn wsL_act wsX8_day := goodIn_r _ [159, 12, 13, 160, 73, 161, 162, 76, 163, 164, 165, 166, 77, 78, 124, 9, 125, 126, 127, 128, 129, 130, 131, 132, 133, 134, 135, 136, 137, 138, 139, 103, 140, 141, 142, 143, 144, 145, 146, 147, 148, 196, 197, 198, 199, 200, 201, 202, 203, 204, 205, 206, 214, 215, 216, 217, 218, 219, 220, 221, 222, 223, 224, 225, 226, 227, 228] (by decide +kernel) (by decide +kernel)
set_option maxRecDepth 20000 in
theorem gL_act_X8_day : GoodIn wsL_act (wsV RL 104 RX8 yX8_day wsX8_day) := goodIn_app (goodIn_of _ (by decide +kernel)) ggL_act_X8_day
set_option maxRecDepth 20000 in
theorem ggL_act_X8_see : GoodIn wsL_act wsX8_see := goodIn_r _ [170, 103, 12, 100, 101, 9, 102, 171, 15, 172, 173, 88, 174, 175, 196, 197, 198, 199, 200, 201, 202, 203, 204, 205, 206, 214, 215, 216, 217, 218, 219, 220, 221, 222, 223, 224, 225] (by decide +kernel) (by decide +kernel)
set_option maxRecDepth 20000 in
theorem gL_act_X8_see : GoodIn wsL_act (wsV RL 63 RX8 yX8_see wsX8_see) := goodIn_app (goodIn_of _ (by decide +kernel)) ggL_act_X8_see
set_option maxRecDepth 20000 in
theorem ggL_act_X8_unsee : GoodIn wsL_act wsX8_unsee := goodIn_r _ [179, 12, 196, 197, 198, 199, 200, 201, 202, 203, 204, 205, 206, 214, 215, 216, 217, 218, 219, 220, 221, 222, 223, 224, 225] (by decide +kernel) (by decide +kernel)
set_option maxRecDepth 20000 in
theorem gL_act_X8_unsee : GoodIn wsL_act (wsV RL 107 RX8 yX8_unsee wsX8_unsee) := goodIn_app (goodIn_of _ (by decide +kernel)) ggL_act_X8_unsee
set_option maxRecDepth 20000 in
theorem ggL_act_X8_keep : GoodIn wsL_act wsX8_keep := goodIn_r _ [183, 12, 184, 185, 186, 9, 187, 38, 39, 188, 15, 189, 190, 191, 18, 82, 19, 83, 84, 85, 86, 87, 120, 121, 122, 123, 88, 174, 175, 196, 197, 198, 199, 200, 201, 202, 203, 204, 205, 206, 214, 215, 216, 217, 218, 219, 220, 221, 222, 223, 224, 225] (by decide +kernel) (by decide +kernel)
set_option maxRecDepth 20000 in
theorem gL_act_X8_keep : GoodIn wsL_act (wsV RL 78 RX8 yX8_keep wsX8_keep) := goodIn_app (goodIn_of _ (by decide +kernel)) ggL_act_X8_keep
set_option maxRecDepth 20000 in
theorem ggL_act_X8_again : GoodIn wsL_act wsX8_again := goodIn_r _ [195, 12, 184, 185, 186, 9, 187, 38, 39, 188, 15, 189, 190, 191, 18, 82, 19, 83, 84, 85, 86, 87, 120, 121, 122, 123, 88, 174, 175, 214, 215, 216, 217, 218, 219, 220, 221, 222, 223, 224, 225, 196, 197, 198, 199, 200, 201, 202, 203, 204, 205, 206] (by decide +kernel) (by decide +kernel)
set_option maxRecDepth 20000 in
theorem gL_act_X8_again : GoodIn wsL_act (wsV RL 81 RX8 yX8_again wsX8_again) := goodIn_app (goodIn_of _ (by decide +kernel)) ggL_act_X8_again
theorem dL_act_0 : decode cL_act 0 = .ok (.aload_n 0, 1) := by decide +kernel
theorem dL_act_1 : decode cL_act 1 = .ok (.iconst 1, 1) := by decide +kernel
theorem dL_act_2 : decode cL_act 2 = .ok (.invokevirtual 9, 3) := by decide +kernel
theorem dL_act_5 : decode cL_act 5 = .ok (.istore_n 2, 1) := by decide +kernel
theorem dL_act_6 : decode cL_act 6 = .ok (.iload_n 1, 1) := by decide +kernel
theorem dL_act_7 : decode cL_act 7 = .ok (.bipush 15, 2) := by decide +kernel
theorem dL_act_9 : decode cL_act 9 = .ok (.iand, 1) := by decide +kernel
theorem dL_act_10 : decode cL_act 10 = .ok (.tableswitch 380 0 14 #[74, 254, 285, 285, 295, 295, 295, 295, 295, 311, 316, 321, 321, 341, 370], 74) := by decide +kernel
theorem dL_act_84 : decode cL_act 84 = .ok (.aload_n 0, 1) := by decide +kernel
theorem dL_act_85 : decode cL_act 85 = .ok (.invokevirtual 84, 3) := by decide +kernel
theorem dL_act_88 : decode cL_act 88 = .ok (.aload_n 0, 1) := by decide +kernel
theorem dL_act_89 : decode cL_act 89 = .ok (.iconst 2, 1) := by decide +kernel
theorem dL_act_90 : decode cL_act 90 = .ok (.ldc2_w 88, 3) := by decide +kernel
theorem dL_act_93 : decode cL_act 93 = .ok (.iload_n 1, 1) := by decide +kernel
theorem dL_act_94 : decode cL_act 94 = .ok (.iconst 4, 1) := by decide +kernel
theorem dL_act_95 : decode cL_act 95 = .ok (.ishr, 1) := by decide +kernel
theorem dL_act_96 : decode cL_act 96 = .ok (.iconst 4, 1) := by decide +kernel
theorem dL_act_97 : decode cL_act 97 = .ok (.irem, 1) := by decide +kernel
theorem dL_act_98 : decode cL_act 98 = .ok (.i2l, 1) := by decide +kernel
theorem dL_act_99 : decode cL_act 99 = .ok (.ladd, 1) := by decide +kernel
theorem dL_act_100 : decode cL_act 100 = .ok (.invokevirtual 15, 3) := by decide +kernel
theorem dL_act_103 : decode cL_act 103 = .ok (.iadd, 1) := by decide +kernel
theorem dL_act_104 : decode cL_act 104 = .ok (.istore_n 3, 1) := by decide +kernel
theorem dL_act_105 : decode cL_act 105 = .ok (.iconst 2, 1) := by decide +kernel
theorem dL_act_106 : decode cL_act 106 = .ok (.iload_n 1, 1) := by decide +kernel
theorem dL_act_107 : decode cL_act 107 = .ok (.bipush 6, 2) := by decide +kernel
theorem dL_act_109 : decode cL_act 109 = .ok (.ishr, 1) := by decide +kernel
theorem dL_act_110 : decode cL_act 110 = .ok (.iconst 4, 1) := by decide +kernel
theorem dL_act_111 : decode cL_act 111 = .ok (.irem, 1) := by decide +kernel
theorem dL_act_112 : decode cL_act 112 = .ok (.iadd, 1) := by decide +kernel
theorem dL_act_113 : decode cL_act 113 = .ok (.istore 4, 2) := by decide +kernel
theorem dL_act_115 : decode cL_act 115 = .ok (.iconst 0, 1) := by decide +kernel
theorem dL_act_116 : decode cL_act 116 = .ok (.istore 5, 2) := by decide +kernel
theorem dL_act_118 : decode cL_act 118 = .ok (.iload 5, 2) := by decide +kernel
theorem dL_act_120 : decode cL_act 120 = .ok (.iload 4, 2) := by decide +kernel
theorem dL_act_122 : decode cL_act 122 = .ok (.if_icmp .ge 62, 3) := by decide +kernel
theorem dL_act_125 : decode cL_act 125 = .ok (.iload_n 3, 1) := by decide +kernel
theorem dL_act_126 : decode cL_act 126 = .ok (.aload_n 0, 1) := by decide +kernel
theorem dL_act_127 : decode cL_act 127 = .ok (.iconst 5, 1) := by decide +kernel
theorem dL_act_128 : decode cL_act 128 = .ok (.ldc2_w 90, 3) := by decide +kernel
theorem dL_act_131 : decode cL_act 131 = .ok (.ldc2_w 92, 3) := by decide +kernel
theorem dL_act_134 : decode cL_act 134 = .ok (.iload_n 1, 1) := by decide +kernel
theorem dL_act_135 : decode cL_act 135 = .ok (.bipush 7, 2) := by decide +kernel
theorem dL_act_137 : decode cL_act 137 = .ok (.iload 5, 2) := by decide +kernel
theorem dL_act_139 : decode cL_act 139 = .ok (.iadd, 1) := by decide +kernel
theorem dL_act_140 : decode cL_act 140 = .ok (.ishr, 1) := by decide +kernel
theorem dL_act_141 : decode cL_act 141 = .ok (.iconst 3, 1) := by decide +kernel
theorem dL_act_142 : decode cL_act 142 = .ok (.irem, 1) := by decide +kernel
theorem dL_act_143 : decode cL_act 143 = .ok (.i2l, 1) := by decide +kernel
theorem dL_act_144 : decode cL_act 144 = .ok (.lmul, 1) := by decide +kernel
theorem dL_act_145 : decode cL_act 145 = .ok (.ladd, 1) := by decide +kernel
theorem dL_act_146 : decode cL_act 146 = .ok (.ldc2_w 94, 3) := by decide +kernel
theorem dL_act_149 : decode cL_act 149 = .ok (.iload_n 1, 1) := by decide +kernel
theorem dL_act_150 : decode cL_act 150 = .ok (.iconst 5, 1) := by decide +kernel
theorem dL_act_151 : decode cL_act 151 = .ok (.iload 5, 2) := by decide +kernel
theorem dL_act_153 : decode cL_act 153 = .ok (.iadd, 1) := by decide +kernel
theorem dL_act_154 : decode cL_act 154 = .ok (.ishr, 1) := by decide +kernel
theorem dL_act_155 : decode cL_act 155 = .ok (.bipush 10, 2) := by decide +kernel
theorem dL_act_157 : decode cL_act 157 = .ok (.irem, 1) := by decide +kernel
theorem dL_act_158 : decode cL_act 158 = .ok (.i2l, 1) := by decide +kernel
theorem dL_act_159 : decode cL_act 159 = .ok (.lmul, 1) := by decide +kernel
theorem dL_act_160 : decode cL_act 160 = .ok (.ladd, 1) := by decide +kernel
theorem dL_act_161 : decode cL_act 161 = .ok (.iload_n 1, 1) := by decide +kernel
theorem dL_act_162 : decode cL_act 162 = .ok (.bipush 9, 2) := by decide +kernel
theorem dL_act_164 : decode cL_act 164 = .ok (.iload 5, 2) := by decide +kernel
theorem dL_act_166 : decode cL_act 166 = .ok (.iadd, 1) := by decide +kernel
theorem dL_act_167 : decode cL_act 167 = .ok (.ishr, 1) := by decide +kernel
theorem dL_act_168 : decode cL_act 168 = .ok (.bipush 10, 2) := by decide +kernel
theorem dL_act_170 : decode cL_act 170 = .ok (.irem, 1) := by decide +kernel
theorem dL_act_171 : decode cL_act 171 = .ok (.i2l, 1) := by decide +kernel
theorem dL_act_172 : decode cL_act 172 = .ok (.ladd, 1) := by decide +kernel
theorem dL_act_173 : decode cL_act 173 = .ok (.invokevirtual 15, 3) := by decide +kernel
theorem dL_act_176 : decode cL_act 176 = .ok (.iadd, 1) := by decide +kernel
theorem dL_act_177 : decode cL_act 177 = .ok (.istore_n 3, 1) := by decide +kernel
theorem dL_act_178 : decode cL_act 178 = .ok (.iinc 5 1, 3) := by decide +kernel
theorem dL_act_181 : decode cL_act 181 = .ok (.goto (-63), 3) := by decide +kernel
theorem dL_act_184 : decode cL_act 184 = .ok (.iconst 0, 1) := by decide +kernel
theorem dL_act_185 : decode cL_act 185 = .ok (.istore 5, 2) := by decide +kernel
theorem dL_act_187 : decode cL_act 187 = .ok (.iload 5, 2) := by decide +kernel
theorem dL_act_189 : decode cL_act 189 = .ok (.iload_n 1, 1) := by decide +kernel
theorem dL_act_190 : decode cL_act 190 = .ok (.bipush 10, 2) := by decide +kernel
theorem dL_act_192 : decode cL_act 192 = .ok (.ishr, 1) := by decide +kernel
theorem dL_act_193 : decode cL_act 193 = .ok (.bipush 6, 2) := by decide +kernel
theorem dL_act_195 : decode cL_act 195 = .ok (.irem, 1) := by decide +kernel
theorem dL_act_196 : decode cL_act 196 = .ok (.if_icmp .ge 61, 3) := by decide +kernel
theorem dL_act_199 : decode cL_act 199 = .ok (.iload_n 1, 1) := by decide +kernel
theorem dL_act_200 : decode cL_act 200 = .ok (.iconst 4, 1) := by decide +kernel
theorem dL_act_201 : decode cL_act 201 = .ok (.iload 5, 2) := by decide +kernel
theorem dL_act_203 : decode cL_act 203 = .ok (.iadd, 1) := by decide +kernel
theorem dL_act_204 : decode cL_act 204 = .ok (.ishr, 1) := by decide +kernel
theorem dL_act_205 : decode cL_act 205 = .ok (.iload 4, 2) := by decide +kernel
theorem dL_act_207 : decode cL_act 207 = .ok (.irem, 1) := by decide +kernel
theorem dL_act_208 : decode cL_act 208 = .ok (.istore 6, 2) := by decide +kernel
theorem dL_act_210 : decode cL_act 210 = .ok (.iload_n 3, 1) := by decide +kernel
theorem dL_act_211 : decode cL_act 211 = .ok (.aload_n 0, 1) := by decide +kernel
theorem dL_act_212 : decode cL_act 212 = .ok (.iconst 3, 1) := by decide +kernel
theorem dL_act_213 : decode cL_act 213 = .ok (.ldc2_w 96, 3) := by decide +kernel
theorem dL_act_216 : decode cL_act 216 = .ok (.ldc2_w 94, 3) := by decide +kernel
theorem dL_act_219 : decode cL_act 219 = .ok (.iload 6, 2) := by decide +kernel
theorem dL_act_221 : decode cL_act 221 = .ok (.i2l, 1) := by decide +kernel
theorem dL_act_222 : decode cL_act 222 = .ok (.lmul, 1) := by decide +kernel
theorem dL_act_223 : decode cL_act 223 = .ok (.ladd, 1) := by decide +kernel
theorem dL_act_224 : decode cL_act 224 = .ok (.iload 6, 2) := by decide +kernel
theorem dL_act_226 : decode cL_act 226 = .ok (.iconst 1, 1) := by decide +kernel
theorem dL_act_227 : decode cL_act 227 = .ok (.iadd, 1) := by decide +kernel
theorem dL_act_228 : decode cL_act 228 = .ok (.iload_n 1, 1) := by decide +kernel
theorem dL_act_229 : decode cL_act 229 = .ok (.bipush 8, 2) := by decide +kernel
theorem dL_act_231 : decode cL_act 231 = .ok (.iload 5, 2) := by decide +kernel
theorem dL_act_233 : decode cL_act 233 = .ok (.iadd, 1) := by decide +kernel
theorem dL_act_234 : decode cL_act 234 = .ok (.ishr, 1) := by decide +kernel
theorem dL_act_235 : decode cL_act 235 = .ok (.iload 4, 2) := by decide +kernel
theorem dL_act_237 : decode cL_act 237 = .ok (.iconst 1, 1) := by decide +kernel
theorem dL_act_238 : decode cL_act 238 = .ok (.isub, 1) := by decide +kernel
theorem dL_act_239 : decode cL_act 239 = .ok (.irem, 1) := by decide +kernel
theorem dL_act_240 : decode cL_act 240 = .ok (.iadd, 1) := by decide +kernel
theorem dL_act_241 : decode cL_act 241 = .ok (.iload 4, 2) := by decide +kernel
theorem dL_act_243 : decode cL_act 243 = .ok (.irem, 1) := by decide +kernel
theorem dL_act_244 : decode cL_act 244 = .ok (.i2l, 1) := by decide +kernel
theorem dL_act_245 : decode cL_act 245 = .ok (.ladd, 1) := by decide +kernel
theorem dL_act_246 : decode cL_act 246 = .ok (.invokevirtual 15, 3) := by decide +kernel
theorem dL_act_249 : decode cL_act 249 = .ok (.iadd, 1) := by decide +kernel
theorem dL_act_250 : decode cL_act 250 = .ok (.istore_n 3, 1) := by decide +kernel
theorem dL_act_251 : decode cL_act 251 = .ok (.iinc 5 1, 3) := by decide +kernel
theorem dL_act_254 : decode cL_act 254 = .ok (.goto (-67), 3) := by decide +kernel
theorem dL_act_257 : decode cL_act 257 = .ok (.iload_n 3, 1) := by decide +kernel
theorem dL_act_258 : decode cL_act 258 = .ok (.aload_n 0, 1) := by decide +kernel
theorem dL_act_259 : decode cL_act 259 = .ok (.invokevirtual 98, 3) := by decide +kernel
theorem dL_act_262 : decode cL_act 262 = .ok (.iadd, 1) := by decide +kernel
theorem dL_act_263 : decode cL_act 263 = .ok (.ireturn, 1) := by decide +kernel
theorem dL_act_264 : decode cL_act 264 = .ok (.aload_n 0, 1) := by decide +kernel
theorem dL_act_265 : decode cL_act 265 = .ok (.iload_n 1, 1) := by decide +kernel
theorem dL_act_266 : decode cL_act 266 = .ok (.iconst 4, 1) := by decide +kernel
theorem dL_act_267 : decode cL_act 267 = .ok (.ishr, 1) := by decide +kernel
theorem dL_act_268 : decode cL_act 268 = .ok (.iload_n 2, 1) := by decide +kernel
theorem dL_act_269 : decode cL_act 269 = .ok (.irem, 1) := by decide +kernel
theorem dL_act_270 : decode cL_act 270 = .ok (.iload_n 1, 1) := by decide +kernel
theorem dL_act_271 : decode cL_act 271 = .ok (.bipush 7, 2) := by decide +kernel
theorem dL_act_273 : decode cL_act 273 = .ok (.ishr, 1) := by decide +kernel
theorem dL_act_274 : decode cL_act 274 = .ok (.iload_n 1, 1) := by decide +kernel
theorem dL_act_275 : decode cL_act 275 = .ok (.sipush 2048, 3) := by decide +kernel
theorem dL_act_278 : decode cL_act 278 = .ok (.iand, 1) := by decide +kernel
theorem dL_act_279 : decode cL_act 279 = .ok (.ifCond .ne 8, 3) := by decide +kernel
theorem dL_act_282 : decode cL_act 282 = .ok (.bipush 100, 2) := by decide +kernel
theorem dL_act_284 : decode cL_act 284 = .ok (.goto 6, 3) := by decide +kernel
theorem dL_act_287 : decode cL_act 287 = .ok (.sipush 3000, 3) := by decide +kernel
theorem dL_act_290 : decode cL_act 290 = .ok (.irem, 1) := by decide +kernel
theorem dL_act_291 : decode cL_act 291 = .ok (.invokevirtual 24, 3) := by decide +kernel
theorem dL_act_294 : decode cL_act 294 = .ok (.ireturn, 1) := by decide +kernel
theorem dL_act_295 : decode cL_act 295 = .ok (.aload_n 0, 1) := by decide +kernel
theorem dL_act_296 : decode cL_act 296 = .ok (.iload_n 1, 1) := by decide +kernel
theorem dL_act_297 : decode cL_act 297 = .ok (.iconst 4, 1) := by decide +kernel
theorem dL_act_298 : decode cL_act 298 = .ok (.ishr, 1) := by decide +kernel
theorem dL_act_299 : decode cL_act 299 = .ok (.iconst 4, 1) := by decide +kernel
theorem dL_act_300 : decode cL_act 300 = .ok (.irem, 1) := by decide +kernel
theorem dL_act_301 : decode cL_act 301 = .ok (.invokevirtual 29, 3) := by decide +kernel
theorem dL_act_304 : decode cL_act 304 = .ok (.ireturn, 1) := by decide +kernel
theorem dL_act_305 : decode cL_act 305 = .ok (.aload_n 0, 1) := by decide +kernel
theorem dL_act_306 : decode cL_act 306 = .ok (.iload_n 1, 1) := by decide +kernel
theorem dL_act_307 : decode cL_act 307 = .ok (.iconst 4, 1) := by decide +kernel
theorem dL_act_308 : decode cL_act 308 = .ok (.ishr, 1) := by decide +kernel
theorem dL_act_309 : decode cL_act 309 = .ok (.iload_n 2, 1) := by decide +kernel
theorem dL_act_310 : decode cL_act 310 = .ok (.irem, 1) := by decide +kernel
theorem dL_act_311 : decode cL_act 311 = .ok (.iload_n 1, 1) := by decide +kernel
theorem dL_act_312 : decode cL_act 312 = .ok (.bipush 8, 2) := by decide +kernel
theorem dL_act_314 : decode cL_act 314 = .ok (.ishr, 1) := by decide +kernel
theorem dL_act_315 : decode cL_act 315 = .ok (.iload_n 2, 1) := by decide +kernel
theorem dL_act_316 : decode cL_act 316 = .ok (.irem, 1) := by decide +kernel
theorem dL_act_317 : decode cL_act 317 = .ok (.invokevirtual 38, 3) := by decide +kernel
theorem dL_act_320 : decode cL_act 320 = .ok (.ireturn, 1) := by decide +kernel
theorem dL_act_321 : decode cL_act 321 = .ok (.aload_n 0, 1) := by decide +kernel
theorem dL_act_322 : decode cL_act 322 = .ok (.invokevirtual 101, 3) := by decide +kernel
theorem dL_act_325 : decode cL_act 325 = .ok (.ireturn, 1) := by decide +kernel
theorem dL_act_326 : decode cL_act 326 = .ok (.aload_n 0, 1) := by decide +kernel
theorem dL_act_327 : decode cL_act 327 = .ok (.invokevirtual 104, 3) := by decide +kernel
theorem dL_act_330 : decode cL_act 330 = .ok (.ireturn, 1) := by decide +kernel
theorem dL_act_331 : decode cL_act 331 = .ok (.aload_n 0, 1) := by decide +kernel
theorem dL_act_332 : decode cL_act 332 = .ok (.iconst 1, 1) := by decide +kernel
theorem dL_act_333 : decode cL_act 333 = .ok (.iload_n 1, 1) := by decide +kernel
theorem dL_act_334 : decode cL_act 334 = .ok (.iconst 4, 1) := by decide +kernel
theorem dL_act_335 : decode cL_act 335 = .ok (.ishr, 1) := by decide +kernel
theorem dL_act_336 : decode cL_act 336 = .ok (.bipush 90, 2) := by decide +kernel
theorem dL_act_338 : decode cL_act 338 = .ok (.irem, 1) := by decide +kernel
theorem dL_act_339 : decode cL_act 339 = .ok (.iadd, 1) := by decide +kernel
theorem dL_act_340 : decode cL_act 340 = .ok (.iload_n 1, 1) := by decide +kernel
theorem dL_act_341 : decode cL_act 341 = .ok (.bipush 11, 2) := by decide +kernel
theorem dL_act_343 : decode cL_act 343 = .ok (.ishr, 1) := by decide +kernel
theorem dL_act_344 : decode cL_act 344 = .ok (.bipush 6, 2) := by decide +kernel
theorem dL_act_346 : decode cL_act 346 = .ok (.irem, 1) := by decide +kernel
theorem dL_act_347 : decode cL_act 347 = .ok (.invokevirtual 63, 3) := by decide +kernel
theorem dL_act_350 : decode cL_act 350 = .ok (.ireturn, 1) := by decide +kernel
theorem dL_act_351 : decode cL_act 351 = .ok (.iload_n 1, 1) := by decide +kernel
theorem dL_act_352 : decode cL_act 352 = .ok (.bipush 48, 2) := by decide +kernel
theorem dL_act_354 : decode cL_act 354 = .ok (.iand, 1) := by decide +kernel
theorem dL_act_355 : decode cL_act 355 = .ok (.ifCond .ne 10, 3) := by decide +kernel
theorem dL_act_358 : decode cL_act 358 = .ok (.aload_n 0, 1) := by decide +kernel
theorem dL_act_359 : decode cL_act 359 = .ok (.invokevirtual 107, 3) := by decide +kernel
theorem dL_act_362 : decode cL_act 362 = .ok (.goto 17, 3) := by decide +kernel
theorem dL_act_365 : decode cL_act 365 = .ok (.aload_n 0, 1) := by decide +kernel
theorem dL_act_366 : decode cL_act 366 = .ok (.iconst 1, 1) := by decide +kernel
theorem dL_act_367 : decode cL_act 367 = .ok (.iload_n 1, 1) := by decide +kernel
theorem dL_act_368 : decode cL_act 368 = .ok (.bipush 6, 2) := by decide +kernel
theorem dL_act_370 : decode cL_act 370 = .ok (.ishr, 1) := by decide +kernel
theorem dL_act_371 : decode cL_act 371 = .ok (.bipush 30, 2) := by decide +kernel
theorem dL_act_373 : decode cL_act 373 = .ok (.irem, 1) := by decide +kernel
theorem dL_act_374 : decode cL_act 374 = .ok (.iadd, 1) := by decide +kernel
theorem dL_act_375 : decode cL_act 375 = .ok (.iconst 1, 1) := by decide +kernel
theorem dL_act_376 : decode cL_act 376 = .ok (.invokevirtual 63, 3) := by decide +kernel
theorem dL_act_379 : decode cL_act 379 = .ok (.ireturn, 1) := by decide +kernel
theorem dL_act_380 : decode cL_act 380 = .ok (.aload_n 0, 1) := by decide +kernel
theorem dL_act_381 : decode cL_act 381 = .ok (.iload_n 1, 1) := by decide +kernel
theorem dL_act_382 : decode cL_act 382 = .ok (.iconst 4, 1) := by decide +kernel
theorem dL_act_383 : decode cL_act 383 = .ok (.ishr, 1) := by decide +kernel
theorem dL_act_384 : decode cL_act 384 = .ok (.iconst 1, 1) := by decide +kernel
theorem dL_act_385 : decode cL_act 385 = .ok (.iand, 1) := by decide +kernel
theorem dL_act_386 : decode cL_act 386 = .ok (.invokevirtual 78, 3) := by decide +kernel
theorem dL_act_389 : decode cL_act 389 = .ok (.ireturn, 1) := by decide +kernel
theorem dL_act_390 : decode cL_act 390 = .ok (.aload_n 0, 1) := by decide +kernel
theorem dL_act_391 : decode cL_act 391 = .ok (.iload_n 1, 1) := by decide +kernel
theorem dL_act_392 : decode cL_act 392 = .ok (.iconst 4, 1) := by decide +kernel
theorem dL_act_393 : decode cL_act 393 = .ok (.ishr, 1) := by decide +kernel
theorem dL_act_394 : decode cL_act 394 = .ok (.iconst 1, 1) := by decide +kernel
theorem dL_act_395 : decode cL_act 395 = .ok (.iand, 1) := by decide +kernel
theorem dL_act_396 : decode cL_act 396 = .ok (.invokevirtual 81, 3) := by decide +kernel
theorem dL_act_399 : decode cL_act 399 = .ok (.ireturn, 1) := by decide +kernel
