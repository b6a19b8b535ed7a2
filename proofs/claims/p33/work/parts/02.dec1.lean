theorem dX5_findUnit_26 : decode cX5_findUnit 26 = .ok (.if_icmp .lt 15, 3) := by decide +kernel
theorem dX5_findUnit_29 : decode cX5_findUnit 29 = .ok (.aload_n 1, 1) := by decide +kernel
theorem dX5_findUnit_30 : decode cX5_findUnit 30 = .ok (.getfield 58, 3) := by decide +kernel
theorem dX5_findUnit_33 : decode cX5_findUnit 33 = .ok (.iload_n 3, 1) := by decide +kernel
theorem dX5_findUnit_34 : decode cX5_findUnit 34 = .ok (.iaload, 1) := by decide +kernel
theorem dX5_findUnit_35 : decode cX5_findUnit 35 = .ok (.iload 4, 2) := by decide +kernel
theorem dX5_findUnit_37 : decode cX5_findUnit 37 = .ok (.irem, 1) := by decide +kernel
theorem dX5_findUnit_38 : decode cX5_findUnit 38 = .ok (.ifCond .eq 5, 3) := by decide +kernel
theorem dX5_findUnit_41 : decode cX5_findUnit 41 = .ok (.iconst 0, 1) := by decide +kernel
theorem dX5_findUnit_42 : decode cX5_findUnit 42 = .ok (.ireturn, 1) := by decide +kernel
theorem dX5_findUnit_43 : decode cX5_findUnit 43 = .ok (.aload_n 0, 1) := by decide +kernel
theorem dX5_findUnit_44 : decode cX5_findUnit 44 = .ok (.getfield 49, 3) := by decide +kernel
theorem dX5_findUnit_47 : decode cX5_findUnit 47 = .ok (.iload 4, 2) := by decide +kernel
theorem dX5_findUnit_49 : decode cX5_findUnit 49 = .ok (.invokestatic 61, 3) := by decide +kernel
theorem dX5_findUnit_52 : decode cX5_findUnit 52 = .ok (.istore 5, 2) := by decide +kernel
theorem dX5_findUnit_54 : decode cX5_findUnit 54 = .ok (.iload 5, 2) := by decide +kernel
theorem dX5_findUnit_56 : decode cX5_findUnit 56 = .ok (.iconst 1, 1) := by decide +kernel
theorem dX5_findUnit_57 : decode cX5_findUnit 57 = .ok (.if_icmp .ge 5, 3) := by decide +kernel
theorem dX5_findUnit_60 : decode cX5_findUnit 60 = .ok (.iconst 0, 1) := by decide +kernel
theorem dX5_findUnit_61 : decode cX5_findUnit 61 = .ok (.ireturn, 1) := by decide +kernel
theorem dX5_findUnit_62 : decode cX5_findUnit 62 = .ok (.aload_n 0, 1) := by decide +kernel
theorem dX5_findUnit_63 : decode cX5_findUnit 63 = .ok (.getfield 49, 3) := by decide +kernel
theorem dX5_findUnit_66 : decode cX5_findUnit 66 = .ok (.i2l, 1) := by decide +kernel
theorem dX5_findUnit_67 : decode cX5_findUnit 67 = .ok (.iload 5, 2) := by decide +kernel
theorem dX5_findUnit_69 : decode cX5_findUnit 69 = .ok (.i2l, 1) := by decide +kernel
theorem dX5_findUnit_70 : decode cX5_findUnit 70 = .ok (.ldiv, 1) := by decide +kernel
theorem dX5_findUnit_71 : decode cX5_findUnit 71 = .ok (.iload 4, 2) := by decide +kernel
theorem dX5_findUnit_73 : decode cX5_findUnit 73 = .ok (.i2l, 1) := by decide +kernel
theorem dX5_findUnit_74 : decode cX5_findUnit 74 = .ok (.lmul, 1) := by decide +kernel
theorem dX5_findUnit_75 : decode cX5_findUnit 75 = .ok (.lstore 6, 2) := by decide +kernel
theorem dX5_findUnit_77 : decode cX5_findUnit 77 = .ok (.lload 6, 2) := by decide +kernel
theorem dX5_findUnit_79 : decode cX5_findUnit 79 = .ok (.iload_n 2, 1) := by decide +kernel
theorem dX5_findUnit_80 : decode cX5_findUnit 80 = .ok (.i2l, 1) := by decide +kernel
theorem dX5_findUnit_81 : decode cX5_findUnit 81 = .ok (.lcmp, 1) := by decide +kernel
theorem dX5_findUnit_82 : decode cX5_findUnit 82 = .ok (.ifCond .le 5, 3) := by decide +kernel
theorem dX5_findUnit_85 : decode cX5_findUnit 85 = .ok (.iconst 0, 1) := by decide +kernel
theorem dX5_findUnit_86 : decode cX5_findUnit 86 = .ok (.ireturn, 1) := by decide +kernel
theorem dX5_findUnit_87 : decode cX5_findUnit 87 = .ok (.aload_n 0, 1) := by decide +kernel
theorem dX5_findUnit_88 : decode cX5_findUnit 88 = .ok (.lload 6, 2) := by decide +kernel
theorem dX5_findUnit_90 : decode cX5_findUnit 90 = .ok (.l2i, 1) := by decide +kernel
theorem dX5_findUnit_91 : decode cX5_findUnit 91 = .ok (.putfield 49, 3) := by decide +kernel
theorem dX5_findUnit_94 : decode cX5_findUnit 94 = .ok (.iinc 3 1, 3) := by decide +kernel
theorem dX5_findUnit_97 : decode cX5_findUnit 97 = .ok (.goto (-90), 3) := by decide +kernel
theorem dX5_findUnit_100 : decode cX5_findUnit 100 = .ok (.aload_n 0, 1) := by decide +kernel
theorem dX5_findUnit_101 : decode cX5_findUnit 101 = .ok (.getfield 49, 3) := by decide +kernel
theorem dX5_findUnit_104 : decode cX5_findUnit 104 = .ok (.ifCond .le 7, 3) := by decide +kernel
theorem dX5_findUnit_107 : decode cX5_findUnit 107 = .ok (.iconst 1, 1) := by decide +kernel
theorem dX5_findUnit_108 : decode cX5_findUnit 108 = .ok (.goto 4, 3) := by decide +kernel
theorem dX5_findUnit_111 : decode cX5_findUnit 111 = .ok (.iconst 0, 1) := by decide +kernel
theorem dX5_findUnit_112 : decode cX5_findUnit 112 = .ok (.ireturn, 1) := by decide +kernel
set_option maxRecDepth 20000 in
theorem ggX5_findPrimes_X8_takeApart : GoodIn wsX5_findPrimes wsX8_takeApart := goodIn_r _ [6, 7] (by decide +kernel) (by decide +kernel)
set_option maxRecDepth 20000 in
theorem gX5_findPrimes_X8_takeApart_n68 : GoodIn wsX5_findPrimes (wsX8_takeApart) := ggX5_findPrimes_X8_takeApart
set_option maxRecDepth 20000 in
theorem ggX5_findPrimes_X5_addPrime : GoodIn wsX5_findPrimes wsX5_addPrime := goodIn_r _ [12, 1, 13, 14, 15, 16, 17, 18, 19, 20] (by decide +kernel) (by decide +kernel)
set_option maxRecDepth 20000 in
theorem gX5_findPrimes_X5_addPrime : GoodIn wsX5_findPrimes (wsV RX5 72 RX5 yX5_addPrime wsX5_addPrime) := goodIn_app (goodIn_of _ (by decide +kernel)) ggX5_findPrimes_X5_addPrime
theorem dX5_findPrimes_0 : decode cX5_findPrimes 0 = .ok (.aload_n 0, 1) := by decide +kernel
theorem dX5_findPrimes_1 : decode cX5_findPrimes 1 = .ok (.iconst 0, 1) := by decide +kernel
theorem dX5_findPrimes_2 : decode cX5_findPrimes 2 = .ok (.putfield 65, 3) := by decide +kernel
theorem dX5_findPrimes_5 : decode cX5_findPrimes 5 = .ok (.iconst 0, 1) := by decide +kernel
theorem dX5_findPrimes_6 : decode cX5_findPrimes 6 = .ok (.istore_n 2, 1) := by decide +kernel
theorem dX5_findPrimes_7 : decode cX5_findPrimes 7 = .ok (.iload_n 2, 1) := by decide +kernel
theorem dX5_findPrimes_8 : decode cX5_findPrimes 8 = .ok (.aload_n 1, 1) := by decide +kernel
theorem dX5_findPrimes_9 : decode cX5_findPrimes 9 = .ok (.getfield 32, 3) := by decide +kernel
theorem dX5_findPrimes_12 : decode cX5_findPrimes 12 = .ok (.if_icmp .ge 97, 3) := by decide +kernel
theorem dX5_findPrimes_15 : decode cX5_findPrimes 15 = .ok (.aload_n 1, 1) := by decide +kernel
theorem dX5_findPrimes_16 : decode cX5_findPrimes 16 = .ok (.getfield 55, 3) := by decide +kernel
theorem dX5_findPrimes_19 : decode cX5_findPrimes 19 = .ok (.iload_n 2, 1) := by decide +kernel
theorem dX5_findPrimes_20 : decode cX5_findPrimes 20 = .ok (.iaload, 1) := by decide +kernel
theorem dX5_findPrimes_21 : decode cX5_findPrimes 21 = .ok (.istore_n 3, 1) := by decide +kernel
theorem dX5_findPrimes_22 : decode cX5_findPrimes 22 = .ok (.iload_n 3, 1) := by decide +kernel
theorem dX5_findPrimes_23 : decode cX5_findPrimes 23 = .ok (.iconst 1, 1) := by decide +kernel
theorem dX5_findPrimes_24 : decode cX5_findPrimes 24 = .ok (.if_icmp .ge 5, 3) := by decide +kernel
theorem dX5_findPrimes_27 : decode cX5_findPrimes 27 = .ok (.iconst 0, 1) := by decide +kernel
theorem dX5_findPrimes_28 : decode cX5_findPrimes 28 = .ok (.ireturn, 1) := by decide +kernel
theorem dX5_findPrimes_29 : decode cX5_findPrimes 29 = .ok (.aload_n 1, 1) := by decide +kernel
theorem dX5_findPrimes_30 : decode cX5_findPrimes 30 = .ok (.getfield 58, 3) := by decide +kernel
theorem dX5_findPrimes_33 : decode cX5_findPrimes 33 = .ok (.iload_n 2, 1) := by decide +kernel
theorem dX5_findPrimes_34 : decode cX5_findPrimes 34 = .ok (.iaload, 1) := by decide +kernel
theorem dX5_findPrimes_35 : decode cX5_findPrimes 35 = .ok (.iload_n 3, 1) := by decide +kernel
theorem dX5_findPrimes_36 : decode cX5_findPrimes 36 = .ok (.idiv, 1) := by decide +kernel
theorem dX5_findPrimes_37 : decode cX5_findPrimes 37 = .ok (.aload_n 0, 1) := by decide +kernel
theorem dX5_findPrimes_38 : decode cX5_findPrimes 38 = .ok (.getfield 15, 3) := by decide +kernel
theorem dX5_findPrimes_41 : decode cX5_findPrimes 41 = .ok (.invokestatic 68, 3) := by decide +kernel
theorem dX5_findPrimes_44 : decode cX5_findPrimes 44 = .ok (.istore 4, 2) := by decide +kernel
theorem dX5_findPrimes_46 : decode cX5_findPrimes 46 = .ok (.iconst 0, 1) := by decide +kernel
theorem dX5_findPrimes_47 : decode cX5_findPrimes 47 = .ok (.istore 5, 2) := by decide +kernel
theorem dX5_findPrimes_49 : decode cX5_findPrimes 49 = .ok (.iload 5, 2) := by decide +kernel
theorem dX5_findPrimes_51 : decode cX5_findPrimes 51 = .ok (.iload 4, 2) := by decide +kernel
theorem dX5_findPrimes_53 : decode cX5_findPrimes 53 = .ok (.if_icmp .ge 50, 3) := by decide +kernel
theorem dX5_findPrimes_56 : decode cX5_findPrimes 56 = .ok (.aload_n 0, 1) := by decide +kernel
theorem dX5_findPrimes_57 : decode cX5_findPrimes 57 = .ok (.getfield 15, 3) := by decide +kernel
theorem dX5_findPrimes_60 : decode cX5_findPrimes 60 = .ok (.iload 5, 2) := by decide +kernel
theorem dX5_findPrimes_62 : decode cX5_findPrimes 62 = .ok (.iaload, 1) := by decide +kernel
theorem dX5_findPrimes_63 : decode cX5_findPrimes 63 = .ok (.iconst 2, 1) := by decide +kernel
theorem dX5_findPrimes_64 : decode cX5_findPrimes 64 = .ok (.if_icmp .lt 20, 3) := by decide +kernel
theorem dX5_findPrimes_67 : decode cX5_findPrimes 67 = .ok (.aload_n 0, 1) := by decide +kernel
theorem dX5_findPrimes_68 : decode cX5_findPrimes 68 = .ok (.getfield 49, 3) := by decide +kernel
theorem dX5_findPrimes_71 : decode cX5_findPrimes 71 = .ok (.iload_n 3, 1) := by decide +kernel
theorem dX5_findPrimes_72 : decode cX5_findPrimes 72 = .ok (.idiv, 1) := by decide +kernel
theorem dX5_findPrimes_73 : decode cX5_findPrimes 73 = .ok (.aload_n 0, 1) := by decide +kernel
theorem dX5_findPrimes_74 : decode cX5_findPrimes 74 = .ok (.getfield 15, 3) := by decide +kernel
theorem dX5_findPrimes_77 : decode cX5_findPrimes 77 = .ok (.iload 5, 2) := by decide +kernel
theorem dX5_findPrimes_79 : decode cX5_findPrimes 79 = .ok (.iaload, 1) := by decide +kernel
theorem dX5_findPrimes_80 : decode cX5_findPrimes 80 = .ok (.irem, 1) := by decide +kernel
theorem dX5_findPrimes_81 : decode cX5_findPrimes 81 = .ok (.ifCond .ne 5, 3) := by decide +kernel
theorem dX5_findPrimes_84 : decode cX5_findPrimes 84 = .ok (.iconst 0, 1) := by decide +kernel
theorem dX5_findPrimes_85 : decode cX5_findPrimes 85 = .ok (.ireturn, 1) := by decide +kernel
theorem dX5_findPrimes_86 : decode cX5_findPrimes 86 = .ok (.aload_n 0, 1) := by decide +kernel
theorem dX5_findPrimes_87 : decode cX5_findPrimes 87 = .ok (.aload_n 0, 1) := by decide +kernel
theorem dX5_findPrimes_88 : decode cX5_findPrimes 88 = .ok (.getfield 15, 3) := by decide +kernel
theorem dX5_findPrimes_91 : decode cX5_findPrimes 91 = .ok (.iload 5, 2) := by decide +kernel
theorem dX5_findPrimes_93 : decode cX5_findPrimes 93 = .ok (.iaload, 1) := by decide +kernel
theorem dX5_findPrimes_94 : decode cX5_findPrimes 94 = .ok (.invokevirtual 72, 3) := by decide +kernel
theorem dX5_findPrimes_97 : decode cX5_findPrimes 97 = .ok (.iinc 5 1, 3) := by decide +kernel
theorem dX5_findPrimes_100 : decode cX5_findPrimes 100 = .ok (.goto (-51), 3) := by decide +kernel
theorem dX5_findPrimes_103 : decode cX5_findPrimes 103 = .ok (.iinc 2 1, 3) := by decide +kernel
theorem dX5_findPrimes_106 : decode cX5_findPrimes 106 = .ok (.goto (-99), 3) := by decide +kernel
theorem dX5_findPrimes_109 : decode cX5_findPrimes 109 = .ok (.iconst 1, 1) := by decide +kernel
theorem dX5_findPrimes_110 : decode cX5_findPrimes 110 = .ok (.ireturn, 1) := by decide +kernel
theorem dX5_addPrime_0 : decode cX5_addPrime 0 = .ok (.iconst 0, 1) := by decide +kernel
theorem dX5_addPrime_1 : decode cX5_addPrime 1 = .ok (.istore_n 2, 1) := by decide +kernel
theorem dX5_addPrime_2 : decode cX5_addPrime 2 = .ok (.iload_n 2, 1) := by decide +kernel
theorem dX5_addPrime_3 : decode cX5_addPrime 3 = .ok (.aload_n 0, 1) := by decide +kernel
theorem dX5_addPrime_4 : decode cX5_addPrime 4 = .ok (.getfield 65, 3) := by decide +kernel
theorem dX5_addPrime_7 : decode cX5_addPrime 7 = .ok (.if_icmp .ge 20, 3) := by decide +kernel
theorem dX5_addPrime_10 : decode cX5_addPrime 10 = .ok (.aload_n 0, 1) := by decide +kernel
theorem dX5_addPrime_11 : decode cX5_addPrime 11 = .ok (.getfield 9, 3) := by decide +kernel
theorem dX5_addPrime_14 : decode cX5_addPrime 14 = .ok (.iload_n 2, 1) := by decide +kernel
theorem dX5_addPrime_15 : decode cX5_addPrime 15 = .ok (.iaload, 1) := by decide +kernel
theorem dX5_addPrime_16 : decode cX5_addPrime 16 = .ok (.iload_n 1, 1) := by decide +kernel
theorem dX5_addPrime_17 : decode cX5_addPrime 17 = .ok (.if_icmp .ne 4, 3) := by decide +kernel
theorem dX5_addPrime_20 : decode cX5_addPrime 20 = .ok (.return_, 1) := by decide +kernel
theorem dX5_addPrime_21 : decode cX5_addPrime 21 = .ok (.iinc 2 1, 3) := by decide +kernel
theorem dX5_addPrime_24 : decode cX5_addPrime 24 = .ok (.goto (-22), 3) := by decide +kernel
theorem dX5_addPrime_27 : decode cX5_addPrime 27 = .ok (.aload_n 0, 1) := by decide +kernel
theorem dX5_addPrime_28 : decode cX5_addPrime 28 = .ok (.getfield 65, 3) := by decide +kernel
theorem dX5_addPrime_31 : decode cX5_addPrime 31 = .ok (.aload_n 0, 1) := by decide +kernel
theorem dX5_addPrime_32 : decode cX5_addPrime 32 = .ok (.getfield 9, 3) := by decide +kernel
theorem dX5_addPrime_35 : decode cX5_addPrime 35 = .ok (.arraylength, 1) := by decide +kernel
theorem dX5_addPrime_36 : decode cX5_addPrime 36 = .ok (.if_icmp .ge 20, 3) := by decide +kernel
theorem dX5_addPrime_39 : decode cX5_addPrime 39 = .ok (.aload_n 0, 1) := by decide +kernel
theorem dX5_addPrime_40 : decode cX5_addPrime 40 = .ok (.getfield 9, 3) := by decide +kernel
theorem dX5_addPrime_43 : decode cX5_addPrime 43 = .ok (.aload_n 0, 1) := by decide +kernel
theorem dX5_addPrime_44 : decode cX5_addPrime 44 = .ok (.dup, 1) := by decide +kernel
theorem dX5_addPrime_45 : decode cX5_addPrime 45 = .ok (.getfield 65, 3) := by decide +kernel
theorem dX5_addPrime_48 : decode cX5_addPrime 48 = .ok (.dup_x1, 1) := by decide +kernel
theorem dX5_addPrime_49 : decode cX5_addPrime 49 = .ok (.iconst 1, 1) := by decide +kernel
theorem dX5_addPrime_50 : decode cX5_addPrime 50 = .ok (.iadd, 1) := by decide +kernel
theorem dX5_addPrime_51 : decode cX5_addPrime 51 = .ok (.putfield 65, 3) := by decide +kernel
theorem dX5_addPrime_54 : decode cX5_addPrime 54 = .ok (.iload_n 1, 1) := by decide +kernel
theorem dX5_addPrime_55 : decode cX5_addPrime 55 = .ok (.iastore, 1) := by decide +kernel
theorem dX5_addPrime_56 : decode cX5_addPrime 56 = .ok (.return_, 1) := by decide +kernel
set_option maxRecDepth 20000 in
theorem ggX5_noteMultiples_X5_countFree : GoodIn wsX5_noteMultiples wsX5_countFree := goodIn_r _ [10, 7, 8, 9] (by decide +kernel) (by decide +kernel)
set_option maxRecDepth 20000 in
theorem gX5_noteMultiples_X5_countFree : GoodIn wsX5_noteMultiples (va_wsS RX5 75 yX5_countFree wsX5_countFree) := goodIn_app (goodIn_of _ (by decide +kernel)) ggX5_noteMultiples_X5_countFree
set_option maxRecDepth 20000 in
theorem ggX5_noteMultiples_X5_isFree : GoodIn wsX5_noteMultiples wsX5_isFree := goodIn_r _ [14, 2, 1, 15, 16, 17, 18, 19, 20, 21] (by decide +kernel) (by decide +kernel)
set_option maxRecDepth 20000 in
theorem gX5_noteMultiples_X5_isFree : GoodIn wsX5_noteMultiples (wsV RX5 79 RX5 yX5_isFree wsX5_isFree) := goodIn_app (goodIn_of _ (by decide +kernel)) ggX5_noteMultiples_X5_isFree
theorem dX5_noteMultiples_0 : decode cX5_noteMultiples 0 = .ok (.iload_n 1, 1) := by decide +kernel
theorem dX5_noteMultiples_1 : decode cX5_noteMultiples 1 = .ok (.iconst 1, 1) := by decide +kernel
theorem dX5_noteMultiples_2 : decode cX5_noteMultiples 2 = .ok (.if_icmp .ge 4, 3) := by decide +kernel
theorem dX5_noteMultiples_5 : decode cX5_noteMultiples 5 = .ok (.return_, 1) := by decide +kernel
theorem dX5_noteMultiples_6 : decode cX5_noteMultiples 6 = .ok (.aload_n 0, 1) := by decide +kernel
theorem dX5_noteMultiples_7 : decode cX5_noteMultiples 7 = .ok (.iload_n 1, 1) := by decide +kernel
theorem dX5_noteMultiples_8 : decode cX5_noteMultiples 8 = .ok (.aload_n 0, 1) := by decide +kernel
theorem dX5_noteMultiples_9 : decode cX5_noteMultiples 9 = .ok (.getfield 9, 3) := by decide +kernel
theorem dX5_noteMultiples_12 : decode cX5_noteMultiples 12 = .ok (.aload_n 0, 1) := by decide +kernel
theorem dX5_noteMultiples_13 : decode cX5_noteMultiples 13 = .ok (.getfield 65, 3) := by decide +kernel
theorem dX5_noteMultiples_16 : decode cX5_noteMultiples 16 = .ok (.iconst 0, 1) := by decide +kernel
theorem dX5_noteMultiples_17 : decode cX5_noteMultiples 17 = .ok (.invokestatic 75, 3) := by decide +kernel
theorem dX5_noteMultiples_20 : decode cX5_noteMultiples 20 = .ok (.putfield 18, 3) := by decide +kernel
theorem dX5_noteMultiples_23 : decode cX5_noteMultiples 23 = .ok (.aload_n 0, 1) := by decide +kernel
theorem dX5_noteMultiples_24 : decode cX5_noteMultiples 24 = .ok (.aload_n 0, 1) := by decide +kernel
theorem dX5_noteMultiples_25 : decode cX5_noteMultiples 25 = .ok (.getfield 49, 3) := by decide +kernel
theorem dX5_noteMultiples_28 : decode cX5_noteMultiples 28 = .ok (.putfield 22, 3) := by decide +kernel
theorem dX5_noteMultiples_31 : decode cX5_noteMultiples 31 = .ok (.iload_n 1, 1) := by decide +kernel
theorem dX5_noteMultiples_32 : decode cX5_noteMultiples 32 = .ok (.istore_n 2, 1) := by decide +kernel
theorem dX5_noteMultiples_33 : decode cX5_noteMultiples 33 = .ok (.iload_n 2, 1) := by decide +kernel
theorem dX5_noteMultiples_34 : decode cX5_noteMultiples 34 = .ok (.iconst 1, 1) := by decide +kernel
theorem dX5_noteMultiples_35 : decode cX5_noteMultiples 35 = .ok (.if_icmp .le 17, 3) := by decide +kernel
theorem dX5_noteMultiples_38 : decode cX5_noteMultiples 38 = .ok (.aload_n 0, 1) := by decide +kernel
theorem dX5_noteMultiples_39 : decode cX5_noteMultiples 39 = .ok (.iload_n 2, 1) := by decide +kernel
theorem dX5_noteMultiples_40 : decode cX5_noteMultiples 40 = .ok (.invokevirtual 79, 3) := by decide +kernel
theorem dX5_noteMultiples_43 : decode cX5_noteMultiples 43 = .ok (.ifCond .ne 9, 3) := by decide +kernel
theorem dX5_noteMultiples_46 : decode cX5_noteMultiples 46 = .ok (.iinc 2 (-1), 3) := by decide +kernel
theorem dX5_noteMultiples_49 : decode cX5_noteMultiples 49 = .ok (.goto (-16), 3) := by decide +kernel
theorem dX5_noteMultiples_52 : decode cX5_noteMultiples 52 = .ok (.aload_n 0, 1) := by decide +kernel
theorem dX5_noteMultiples_53 : decode cX5_noteMultiples 53 = .ok (.aload_n 0, 1) := by decide +kernel
theorem dX5_noteMultiples_54 : decode cX5_noteMultiples 54 = .ok (.getfield 49, 3) := by decide +kernel
theorem dX5_noteMultiples_57 : decode cX5_noteMultiples 57 = .ok (.iload_n 2, 1) := by decide +kernel
theorem dX5_noteMultiples_58 : decode cX5_noteMultiples 58 = .ok (.imul, 1) := by decide +kernel
theorem dX5_noteMultiples_59 : decode cX5_noteMultiples 59 = .ok (.putfield 25, 3) := by decide +kernel
theorem dX5_noteMultiples_62 : decode cX5_noteMultiples 62 = .ok (.return_, 1) := by decide +kernel
theorem dX5_isFree_0 : decode cX5_isFree 0 = .ok (.iconst 0, 1) := by decide +kernel
theorem dX5_isFree_1 : decode cX5_isFree 1 = .ok (.istore_n 2, 1) := by decide +kernel
theorem dX5_isFree_2 : decode cX5_isFree 2 = .ok (.iload_n 2, 1) := by decide +kernel
theorem dX5_isFree_3 : decode cX5_isFree 3 = .ok (.aload_n 0, 1) := by decide +kernel
theorem dX5_isFree_4 : decode cX5_isFree 4 = .ok (.getfield 65, 3) := by decide +kernel
theorem dX5_isFree_7 : decode cX5_isFree 7 = .ok (.if_icmp .ge 32, 3) := by decide +kernel
theorem dX5_isFree_10 : decode cX5_isFree 10 = .ok (.aload_n 0, 1) := by decide +kernel
theorem dX5_isFree_11 : decode cX5_isFree 11 = .ok (.getfield 9, 3) := by decide +kernel
theorem dX5_isFree_14 : decode cX5_isFree 14 = .ok (.iload_n 2, 1) := by decide +kernel
theorem dX5_isFree_15 : decode cX5_isFree 15 = .ok (.iaload, 1) := by decide +kernel
theorem dX5_isFree_16 : decode cX5_isFree 16 = .ok (.iconst 1, 1) := by decide +kernel
theorem dX5_isFree_17 : decode cX5_isFree 17 = .ok (.if_icmp .le 16, 3) := by decide +kernel
theorem dX5_isFree_20 : decode cX5_isFree 20 = .ok (.iload_n 1, 1) := by decide +kernel
theorem dX5_isFree_21 : decode cX5_isFree 21 = .ok (.aload_n 0, 1) := by decide +kernel
theorem dX5_isFree_22 : decode cX5_isFree 22 = .ok (.getfield 9, 3) := by decide +kernel
theorem dX5_isFree_25 : decode cX5_isFree 25 = .ok (.iload_n 2, 1) := by decide +kernel
theorem dX5_isFree_26 : decode cX5_isFree 26 = .ok (.iaload, 1) := by decide +kernel
theorem dX5_isFree_27 : decode cX5_isFree 27 = .ok (.irem, 1) := by decide +kernel
theorem dX5_isFree_28 : decode cX5_isFree 28 = .ok (.ifCond .ne 5, 3) := by decide +kernel
theorem dX5_isFree_31 : decode cX5_isFree 31 = .ok (.iconst 0, 1) := by decide +kernel
theorem dX5_isFree_32 : decode cX5_isFree 32 = .ok (.ireturn, 1) := by decide +kernel
theorem dX5_isFree_33 : decode cX5_isFree 33 = .ok (.iinc 2 1, 3) := by decide +kernel
theorem dX5_isFree_36 : decode cX5_isFree 36 = .ok (.goto (-34), 3) := by decide +kernel
theorem dX5_isFree_39 : decode cX5_isFree 39 = .ok (.iconst 1, 1) := by decide +kernel
theorem dX5_isFree_40 : decode cX5_isFree 40 = .ok (.ireturn, 1) := by decide +kernel
set_option maxRecDepth 20000 in
theorem ggX5_countFree_X5_countFree : GoodIn wsX5_countFree wsX5_countFree := goodIn_r _ [0, 1, 2, 3] (by decide +kernel) (by decide +kernel)
set_option maxRecDepth 20000 in
theorem gX5_countFree_X5_countFree : GoodIn wsX5_countFree (va_wsS RX5 75 yX5_countFree wsX5_countFree) := goodIn_app (goodIn_of _ (by decide +kernel)) ggX5_countFree_X5_countFree
theorem dX5_countFree_0 : decode cX5_countFree 0 = .ok (.iload_n 3, 1) := by decide +kernel
theorem dX5_countFree_1 : decode cX5_countFree 1 = .ok (.bipush 6, 2) := by decide +kernel
theorem dX5_countFree_3 : decode cX5_countFree 3 = .ok (.if_icmp .le 5, 3) := by decide +kernel
theorem dX5_countFree_6 : decode cX5_countFree 6 = .ok (.iconst 0, 1) := by decide +kernel
theorem dX5_countFree_7 : decode cX5_countFree 7 = .ok (.ireturn, 1) := by decide +kernel
theorem dX5_countFree_8 : decode cX5_countFree 8 = .ok (.iload_n 0, 1) := by decide +kernel
theorem dX5_countFree_9 : decode cX5_countFree 9 = .ok (.istore 4, 2) := by decide +kernel
theorem dX5_countFree_11 : decode cX5_countFree 11 = .ok (.iconst 0, 1) := by decide +kernel
theorem dX5_countFree_12 : decode cX5_countFree 12 = .ok (.istore 5, 2) := by decide +kernel
theorem dX5_countFree_14 : decode cX5_countFree 14 = .ok (.iload 5, 2) := by decide +kernel
theorem dX5_countFree_16 : decode cX5_countFree 16 = .ok (.iload_n 2, 1) := by decide +kernel
theorem dX5_countFree_17 : decode cX5_countFree 17 = .ok (.if_icmp .ge 45, 3) := by decide +kernel
theorem dX5_countFree_20 : decode cX5_countFree 20 = .ok (.aload_n 1, 1) := by decide +kernel
theorem dX5_countFree_21 : decode cX5_countFree 21 = .ok (.iload 5, 2) := by decide +kernel
theorem dX5_countFree_23 : decode cX5_countFree 23 = .ok (.iaload, 1) := by decide +kernel
theorem dX5_countFree_24 : decode cX5_countFree 24 = .ok (.iconst 1, 1) := by decide +kernel
theorem dX5_countFree_25 : decode cX5_countFree 25 = .ok (.if_icmp .le 31, 3) := by decide +kernel
theorem dX5_countFree_28 : decode cX5_countFree 28 = .ok (.aload_n 1, 1) := by decide +kernel
theorem dX5_countFree_29 : decode cX5_countFree 29 = .ok (.iload 5, 2) := by decide +kernel
theorem dX5_countFree_31 : decode cX5_countFree 31 = .ok (.iaload, 1) := by decide +kernel
theorem dX5_countFree_32 : decode cX5_countFree 32 = .ok (.iload_n 0, 1) := by decide +kernel
theorem dX5_countFree_33 : decode cX5_countFree 33 = .ok (.if_icmp .gt 23, 3) := by decide +kernel
theorem dX5_countFree_36 : decode cX5_countFree 36 = .ok (.iload 4, 2) := by decide +kernel
theorem dX5_countFree_38 : decode cX5_countFree 38 = .ok (.iload_n 0, 1) := by decide +kernel
theorem dX5_countFree_39 : decode cX5_countFree 39 = .ok (.aload_n 1, 1) := by decide +kernel
theorem dX5_countFree_40 : decode cX5_countFree 40 = .ok (.iload 5, 2) := by decide +kernel
theorem dX5_countFree_42 : decode cX5_countFree 42 = .ok (.iaload, 1) := by decide +kernel
theorem dX5_countFree_43 : decode cX5_countFree 43 = .ok (.idiv, 1) := by decide +kernel
theorem dX5_countFree_44 : decode cX5_countFree 44 = .ok (.aload_n 1, 1) := by decide +kernel
theorem dX5_countFree_45 : decode cX5_countFree 45 = .ok (.iload 5, 2) := by decide +kernel
theorem dX5_countFree_47 : decode cX5_countFree 47 = .ok (.iload_n 3, 1) := by decide +kernel
theorem dX5_countFree_48 : decode cX5_countFree 48 = .ok (.iconst 1, 1) := by decide +kernel
theorem dX5_countFree_49 : decode cX5_countFree 49 = .ok (.iadd, 1) := by decide +kernel
theorem dX5_countFree_50 : decode cX5_countFree 50 = .ok (.invokestatic 75, 3) := by decide +kernel
theorem dX5_countFree_53 : decode cX5_countFree 53 = .ok (.isub, 1) := by decide +kernel
theorem dX5_countFree_54 : decode cX5_countFree 54 = .ok (.istore 4, 2) := by decide +kernel
theorem dX5_countFree_56 : decode cX5_countFree 56 = .ok (.iinc 5 1, 3) := by decide +kernel
theorem dX5_countFree_59 : decode cX5_countFree 59 = .ok (.goto (-45), 3) := by decide +kernel
theorem dX5_countFree_62 : decode cX5_countFree 62 = .ok (.iload 4, 2) := by decide +kernel
theorem dX5_countFree_64 : decode cX5_countFree 64 = .ok (.ireturn, 1) := by decide +kernel
set_option maxRecDepth 20000 in
theorem ggX6_init_X2_init : GoodIn wsX6_init wsX2_init := goodIn_r _ [12, 13, 2, 3, 4, 14, 15, 23, 24, 25] (by decide +kernel) (by decide +kernel)
set_option maxRecDepth 20000 in
theorem gX6_init_X2_init_n20 : GoodIn wsX6_init (wsX2_init) := ggX6_init_X2_init
theorem dX6_init_0 : decode cX6_init 0 = .ok (.aload_n 0, 1) := by decide +kernel
theorem dX6_init_1 : decode cX6_init 1 = .ok (.invokespecial 3, 3) := by decide +kernel
theorem dX6_init_4 : decode cX6_init 4 = .ok (.aload_n 0, 1) := by decide +kernel
theorem dX6_init_5 : decode cX6_init 5 = .ok (.bipush 96, 2) := by decide +kernel
theorem dX6_init_7 : decode cX6_init 7 = .ok (.newarray .int, 2) := by decide +kernel
theorem dX6_init_9 : decode cX6_init 9 = .ok (.putfield 9, 3) := by decide +kernel
theorem dX6_init_12 : decode cX6_init 12 = .ok (.aload_n 0, 1) := by decide +kernel
theorem dX6_init_13 : decode cX6_init 13 = .ok (.bipush 8, 2) := by decide +kernel
theorem dX6_init_15 : decode cX6_init 15 = .ok (.newarray .int, 2) := by decide +kernel
theorem dX6_init_17 : decode cX6_init 17 = .ok (.putfield 15, 3) := by decide +kernel
theorem dX6_init_20 : decode cX6_init 20 = .ok (.aload_n 0, 1) := by decide +kernel
theorem dX6_init_21 : decode cX6_init 21 = .ok (.new 18, 3) := by decide +kernel
theorem dX6_init_24 : decode cX6_init 24 = .ok (.dup, 1) := by decide +kernel
theorem dX6_init_25 : decode cX6_init 25 = .ok (.invokespecial 20, 3) := by decide +kernel
theorem dX6_init_28 : decode cX6_init 28 = .ok (.putfield 21, 3) := by decide +kernel
theorem dX6_init_31 : decode cX6_init 31 = .ok (.return_, 1) := by decide +kernel
theorem dX6_add_0 : decode cX6_add 0 = .ok (.aload_n 0, 1) := by decide +kernel
theorem dX6_add_1 : decode cX6_add 1 = .ok (.getfield 25, 3) := by decide +kernel
theorem dX6_add_4 : decode cX6_add 4 = .ok (.bipush 96, 2) := by decide +kernel
theorem dX6_add_6 : decode cX6_add 6 = .ok (.if_icmp .ge 20, 3) := by decide +kernel
theorem dX6_add_9 : decode cX6_add 9 = .ok (.aload_n 0, 1) := by decide +kernel
theorem dX6_add_10 : decode cX6_add 10 = .ok (.getfield 9, 3) := by decide +kernel
theorem dX6_add_13 : decode cX6_add 13 = .ok (.aload_n 0, 1) := by decide +kernel
theorem dX6_add_14 : decode cX6_add 14 = .ok (.dup, 1) := by decide +kernel
theorem dX6_add_15 : decode cX6_add 15 = .ok (.getfield 25, 3) := by decide +kernel
theorem dX6_add_18 : decode cX6_add 18 = .ok (.dup_x1, 1) := by decide +kernel
theorem dX6_add_19 : decode cX6_add 19 = .ok (.iconst 1, 1) := by decide +kernel
theorem dX6_add_20 : decode cX6_add 20 = .ok (.iadd, 1) := by decide +kernel
theorem dX6_add_21 : decode cX6_add 21 = .ok (.putfield 25, 3) := by decide +kernel
theorem dX6_add_24 : decode cX6_add 24 = .ok (.iload_n 1, 1) := by decide +kernel
theorem dX6_add_25 : decode cX6_add 25 = .ok (.iastore, 1) := by decide +kernel
theorem dX6_add_26 : decode cX6_add 26 = .ok (.return_, 1) := by decide +kernel
set_option maxRecDepth 20000 in
theorem ggX6_findFault_X6_readLaw : GoodIn wsX6_findFault wsX6_readLaw := goodIn_r _ [9, 1, 10, 11, 12, 13, 8, 14, 4, 15, 16, 17, 18, 19, 40, 41, 42, 43, 44, 45, 46] (by decide +kernel) (by decide +kernel)
set_option maxRecDepth 20000 in
theorem gX6_findFault_X6_readLaw : GoodIn wsX6_findFault (wsV RX6 38 RX6 yX6_readLaw wsX6_readLaw) := goodIn_app (goodIn_of _ (by decide +kernel)) ggX6_findFault_X6_readLaw
set_option maxRecDepth 20000 in
theorem ggX6_findFault_X6_readPart : GoodIn wsX6_findFault wsX6_readPart := goodIn_r _ [23, 2, 3, 11, 12, 13, 8, 14, 1, 4, 15, 24, 25, 26, 27, 28, 16, 17, 18, 19, 29, 30, 31, 32, 33, 34, 35, 36, 37, 38, 39, 40, 41, 42, 43, 44, 45, 46, 47, 48, 49] (by decide +kernel) (by decide +kernel)
set_option maxRecDepth 20000 in
theorem gX6_findFault_X6_readPart : GoodIn wsX6_findFault (wsV RX6 42 RX6 yX6_readPart wsX6_readPart) := goodIn_app (goodIn_of _ (by decide +kernel)) ggX6_findFault_X6_readPart
theorem dX6_findFault_0 : decode cX6_findFault 0 = .ok (.aload_n 0, 1) := by decide +kernel
theorem dX6_findFault_1 : decode cX6_findFault 1 = .ok (.iconst 0, 1) := by decide +kernel
theorem dX6_findFault_2 : decode cX6_findFault 2 = .ok (.putfield 29, 3) := by decide +kernel
theorem dX6_findFault_5 : decode cX6_findFault 5 = .ok (.aload_n 0, 1) := by decide +kernel
theorem dX6_findFault_6 : decode cX6_findFault 6 = .ok (.iconst 0, 1) := by decide +kernel
theorem dX6_findFault_7 : decode cX6_findFault 7 = .ok (.putfield 32, 3) := by decide +kernel
theorem dX6_findFault_10 : decode cX6_findFault 10 = .ok (.aload_n 0, 1) := by decide +kernel
theorem dX6_findFault_11 : decode cX6_findFault 11 = .ok (.getfield 21, 3) := by decide +kernel
theorem dX6_findFault_14 : decode cX6_findFault 14 = .ok (.iconst 0, 1) := by decide +kernel
theorem dX6_findFault_15 : decode cX6_findFault 15 = .ok (.putfield 35, 3) := by decide +kernel
theorem dX6_findFault_18 : decode cX6_findFault 18 = .ok (.aload_n 0, 1) := by decide +kernel
theorem dX6_findFault_19 : decode cX6_findFault 19 = .ok (.invokevirtual 38, 3) := by decide +kernel
theorem dX6_findFault_22 : decode cX6_findFault 22 = .ok (.istore_n 1, 1) := by decide +kernel
theorem dX6_findFault_23 : decode cX6_findFault 23 = .ok (.iconst 0, 1) := by decide +kernel
theorem dX6_findFault_24 : decode cX6_findFault 24 = .ok (.istore_n 2, 1) := by decide +kernel
theorem dX6_findFault_25 : decode cX6_findFault 25 = .ok (.iload_n 2, 1) := by decide +kernel
theorem dX6_findFault_26 : decode cX6_findFault 26 = .ok (.bipush 96, 2) := by decide +kernel
theorem dX6_findFault_28 : decode cX6_findFault 28 = .ok (.if_icmp .ge 29, 3) := by decide +kernel
theorem dX6_findFault_31 : decode cX6_findFault 31 = .ok (.iload_n 1, 1) := by decide +kernel
theorem dX6_findFault_32 : decode cX6_findFault 32 = .ok (.ifCond .eq 25, 3) := by decide +kernel
theorem dX6_findFault_35 : decode cX6_findFault 35 = .ok (.aload_n 0, 1) := by decide +kernel
theorem dX6_findFault_36 : decode cX6_findFault 36 = .ok (.getfield 29, 3) := by decide +kernel
theorem dX6_findFault_39 : decode cX6_findFault 39 = .ok (.aload_n 0, 1) := by decide +kernel
theorem dX6_findFault_40 : decode cX6_findFault 40 = .ok (.getfield 25, 3) := by decide +kernel
theorem dX6_findFault_43 : decode cX6_findFault 43 = .ok (.if_icmp .ge 14, 3) := by decide +kernel
theorem dX6_findFault_46 : decode cX6_findFault 46 = .ok (.aload_n 0, 1) := by decide +kernel
theorem dX6_findFault_47 : decode cX6_findFault 47 = .ok (.invokevirtual 42, 3) := by decide +kernel
theorem dX6_findFault_50 : decode cX6_findFault 50 = .ok (.istore_n 1, 1) := by decide +kernel
theorem dX6_findFault_51 : decode cX6_findFault 51 = .ok (.iinc 2 1, 3) := by decide +kernel
theorem dX6_findFault_54 : decode cX6_findFault 54 = .ok (.goto (-29), 3) := by decide +kernel
theorem dX6_findFault_57 : decode cX6_findFault 57 = .ok (.iload_n 1, 1) := by decide +kernel
theorem dX6_findFault_58 : decode cX6_findFault 58 = .ok (.ifCond .eq 16, 3) := by decide +kernel
theorem dX6_findFault_61 : decode cX6_findFault 61 = .ok (.aload_n 0, 1) := by decide +kernel
theorem dX6_findFault_62 : decode cX6_findFault 62 = .ok (.getfield 32, 3) := by decide +kernel
theorem dX6_findFault_65 : decode cX6_findFault 65 = .ok (.iconst 2, 1) := by decide +kernel
theorem dX6_findFault_66 : decode cX6_findFault 66 = .ok (.if_icmp .lt 8, 3) := by decide +kernel
theorem dX6_findFault_69 : decode cX6_findFault 69 = .ok (.bipush (-9), 2) := by decide +kernel
theorem dX6_findFault_71 : decode cX6_findFault 71 = .ok (.goto 7, 3) := by decide +kernel
theorem dX6_findFault_74 : decode cX6_findFault 74 = .ok (.aload_n 0, 1) := by decide +kernel
theorem dX6_findFault_75 : decode cX6_findFault 75 = .ok (.getfield 29, 3) := by decide +kernel
theorem dX6_findFault_78 : decode cX6_findFault 78 = .ok (.ireturn, 1) := by decide +kernel
set_option maxRecDepth 20000 in
theorem ggX6_readLaw_X6_nextIs : GoodIn wsX6_readLaw wsX6_nextIs := goodIn_r _ [7, 1, 8, 9, 14, 15, 16, 17, 18, 19, 20] (by decide +kernel) (by decide +kernel)
set_option maxRecDepth 20000 in
theorem gX6_readLaw_X6_nextIs : GoodIn wsX6_readLaw (wsV RX6 45 RX6 yX6_nextIs wsX6_nextIs) := goodIn_app (goodIn_of _ (by decide +kernel)) ggX6_readLaw_X6_nextIs
set_option maxRecDepth 20000 in
theorem ggX6_readLaw_X6_readFigure : GoodIn wsX6_readLaw wsX6_readFigure := goodIn_r _ [13, 1, 8, 9, 14, 15, 16, 17, 18, 19, 20] (by decide +kernel) (by decide +kernel)
set_option maxRecDepth 20000 in
theorem gX6_readLaw_X6_readFigure : GoodIn wsX6_readLaw (wsV RX6 49 RX6 yX6_readFigure wsX6_readFigure) := goodIn_app (goodIn_of _ (by decide +kernel)) ggX6_readLaw_X6_readFigure
theorem dX6_readLaw_0 : decode cX6_readLaw 0 = .ok (.aload_n 0, 1) := by decide +kernel
theorem dX6_readLaw_1 : decode cX6_readLaw 1 = .ok (.bipush 76, 2) := by decide +kernel
theorem dX6_readLaw_3 : decode cX6_readLaw 3 = .ok (.invokevirtual 45, 3) := by decide +kernel
theorem dX6_readLaw_6 : decode cX6_readLaw 6 = .ok (.ifCond .ne 5, 3) := by decide +kernel
theorem dX6_readLaw_9 : decode cX6_readLaw 9 = .ok (.iconst 0, 1) := by decide +kernel
theorem dX6_readLaw_10 : decode cX6_readLaw 10 = .ok (.ireturn, 1) := by decide +kernel
theorem dX6_readLaw_11 : decode cX6_readLaw 11 = .ok (.aload_n 0, 1) := by decide +kernel
theorem dX6_readLaw_12 : decode cX6_readLaw 12 = .ok (.dup, 1) := by decide +kernel
theorem dX6_readLaw_13 : decode cX6_readLaw 13 = .ok (.getfield 29, 3) := by decide +kernel
theorem dX6_readLaw_16 : decode cX6_readLaw 16 = .ok (.iconst 1, 1) := by decide +kernel
theorem dX6_readLaw_17 : decode cX6_readLaw 17 = .ok (.iadd, 1) := by decide +kernel
theorem dX6_readLaw_18 : decode cX6_readLaw 18 = .ok (.putfield 29, 3) := by decide +kernel
theorem dX6_readLaw_21 : decode cX6_readLaw 21 = .ok (.aload_n 0, 1) := by decide +kernel
theorem dX6_readLaw_22 : decode cX6_readLaw 22 = .ok (.aload_n 0, 1) := by decide +kernel
theorem dX6_readLaw_23 : decode cX6_readLaw 23 = .ok (.iconst 4, 1) := by decide +kernel
theorem dX6_readLaw_24 : decode cX6_readLaw 24 = .ok (.invokevirtual 49, 3) := by decide +kernel
theorem dX6_readLaw_27 : decode cX6_readLaw 27 = .ok (.putfield 53, 3) := by decide +kernel
theorem dX6_readLaw_30 : decode cX6_readLaw 30 = .ok (.aload_n 0, 1) := by decide +kernel
theorem dX6_readLaw_31 : decode cX6_readLaw 31 = .ok (.getfield 53, 3) := by decide +kernel
theorem dX6_readLaw_34 : decode cX6_readLaw 34 = .ok (.ifCond .lt 7, 3) := by decide +kernel
theorem dX6_readLaw_37 : decode cX6_readLaw 37 = .ok (.iconst 1, 1) := by decide +kernel
theorem dX6_readLaw_38 : decode cX6_readLaw 38 = .ok (.goto 4, 3) := by decide +kernel
theorem dX6_readLaw_41 : decode cX6_readLaw 41 = .ok (.iconst 0, 1) := by decide +kernel
theorem dX6_readLaw_42 : decode cX6_readLaw 42 = .ok (.ireturn, 1) := by decide +kernel
set_option maxRecDepth 20000 in
theorem ggX6_readPart_X6_nextIs : GoodIn wsX6_readPart wsX6_nextIs := goodIn_r _ [7, 8, 9, 10, 31, 32, 33, 34, 35, 36, 37] (by decide +kernel) (by decide +kernel)
set_option maxRecDepth 20000 in
theorem gX6_readPart_X6_nextIs : GoodIn wsX6_readPart (wsV RX6 45 RX6 yX6_nextIs wsX6_nextIs) := goodIn_app (goodIn_of _ (by decide +kernel)) ggX6_readPart_X6_nextIs
set_option maxRecDepth 20000 in
theorem ggX6_readPart_X6_readPerson : GoodIn wsX6_readPart wsX6_readPerson := goodIn_r _ [14, 8, 15, 1, 16, 17, 18, 6, 19, 9, 10, 31, 32, 33, 34, 35, 36, 37] (by decide +kernel) (by decide +kernel)
set_option maxRecDepth 20000 in
theorem gX6_readPart_X6_readPerson : GoodIn wsX6_readPart (wsV RX6 56 RX6 yX6_readPerson wsX6_readPerson) := goodIn_app (goodIn_of _ (by decide +kernel)) ggX6_readPart_X6_readPerson
set_option maxRecDepth 20000 in
theorem ggX6_readPart_X6_readMeeting : GoodIn wsX6_readPart wsX6_readMeeting := goodIn_r _ [23, 8, 1, 2, 16, 17, 18, 6, 19, 9, 10, 3, 4, 5, 7, 24, 25, 26, 27, 28, 29, 30, 31, 32, 33, 34, 35, 36, 37, 38, 39, 40] (by decide +kernel) (by decide +kernel)
set_option maxRecDepth 20000 in
theorem gX6_readPart_X6_readMeeting : GoodIn wsX6_readPart (wsV RX6 59 RX6 yX6_readMeeting wsX6_readMeeting) := goodIn_app (goodIn_of _ (by decide +kernel)) ggX6_readPart_X6_readMeeting
theorem dX6_readPart_0 : decode cX6_readPart 0 = .ok (.aload_n 0, 1) := by decide +kernel
theorem dX6_readPart_1 : decode cX6_readPart 1 = .ok (.bipush 80, 2) := by decide +kernel
theorem dX6_readPart_3 : decode cX6_readPart 3 = .ok (.invokevirtual 45, 3) := by decide +kernel
theorem dX6_readPart_6 : decode cX6_readPart 6 = .ok (.ifCond .eq 17, 3) := by decide +kernel
theorem dX6_readPart_9 : decode cX6_readPart 9 = .ok (.aload_n 0, 1) := by decide +kernel
theorem dX6_readPart_10 : decode cX6_readPart 10 = .ok (.getfield 32, 3) := by decide +kernel
theorem dX6_readPart_13 : decode cX6_readPart 13 = .ok (.bipush 8, 2) := by decide +kernel
theorem dX6_readPart_15 : decode cX6_readPart 15 = .ok (.if_icmp .ge 8, 3) := by decide +kernel
theorem dX6_readPart_18 : decode cX6_readPart 18 = .ok (.aload_n 0, 1) := by decide +kernel
theorem dX6_readPart_19 : decode cX6_readPart 19 = .ok (.invokevirtual 56, 3) := by decide +kernel
theorem dX6_readPart_22 : decode cX6_readPart 22 = .ok (.ireturn, 1) := by decide +kernel
theorem dX6_readPart_23 : decode cX6_readPart 23 = .ok (.aload_n 0, 1) := by decide +kernel
theorem dX6_readPart_24 : decode cX6_readPart 24 = .ok (.bipush 77, 2) := by decide +kernel
theorem dX6_readPart_26 : decode cX6_readPart 26 = .ok (.invokevirtual 45, 3) := by decide +kernel
theorem dX6_readPart_29 : decode cX6_readPart 29 = .ok (.ifCond .eq 28, 3) := by decide +kernel
theorem dX6_readPart_32 : decode cX6_readPart 32 = .ok (.aload_n 0, 1) := by decide +kernel
theorem dX6_readPart_33 : decode cX6_readPart 33 = .ok (.getfield 32, 3) := by decide +kernel
theorem dX6_readPart_36 : decode cX6_readPart 36 = .ok (.iconst 2, 1) := by decide +kernel
theorem dX6_readPart_37 : decode cX6_readPart 37 = .ok (.if_icmp .lt 20, 3) := by decide +kernel
theorem dX6_readPart_40 : decode cX6_readPart 40 = .ok (.aload_n 0, 1) := by decide +kernel
theorem dX6_readPart_41 : decode cX6_readPart 41 = .ok (.getfield 21, 3) := by decide +kernel
theorem dX6_readPart_44 : decode cX6_readPart 44 = .ok (.getfield 35, 3) := by decide +kernel
theorem dX6_readPart_47 : decode cX6_readPart 47 = .ok (.bipush 16, 2) := by decide +kernel
theorem dX6_readPart_49 : decode cX6_readPart 49 = .ok (.if_icmp .ge 8, 3) := by decide +kernel
theorem dX6_readPart_52 : decode cX6_readPart 52 = .ok (.aload_n 0, 1) := by decide +kernel
theorem dX6_readPart_53 : decode cX6_readPart 53 = .ok (.invokevirtual 59, 3) := by decide +kernel
theorem dX6_readPart_56 : decode cX6_readPart 56 = .ok (.ireturn, 1) := by decide +kernel
theorem dX6_readPart_57 : decode cX6_readPart 57 = .ok (.iconst 0, 1) := by decide +kernel
theorem dX6_readPart_58 : decode cX6_readPart 58 = .ok (.ireturn, 1) := by decide +kernel
set_option maxRecDepth 20000 in
theorem ggX6_readPerson_X6_readFigure : GoodIn wsX6_readPerson wsX6_readFigure := goodIn_r _ [8, 1, 9, 10, 11, 12, 13, 14, 15, 16, 17] (by decide +kernel) (by decide +kernel)
set_option maxRecDepth 20000 in
theorem gX6_readPerson_X6_readFigure : GoodIn wsX6_readPerson (wsV RX6 49 RX6 yX6_readFigure wsX6_readFigure) := goodIn_app (goodIn_of _ (by decide +kernel)) ggX6_readPerson_X6_readFigure
theorem dX6_readPerson_0 : decode cX6_readPerson 0 = .ok (.aload_n 0, 1) := by decide +kernel
theorem dX6_readPerson_1 : decode cX6_readPerson 1 = .ok (.dup, 1) := by decide +kernel
theorem dX6_readPerson_2 : decode cX6_readPerson 2 = .ok (.getfield 29, 3) := by decide +kernel
theorem dX6_readPerson_5 : decode cX6_readPerson 5 = .ok (.iconst 1, 1) := by decide +kernel
theorem dX6_readPerson_6 : decode cX6_readPerson 6 = .ok (.iadd, 1) := by decide +kernel
theorem dX6_readPerson_7 : decode cX6_readPerson 7 = .ok (.putfield 29, 3) := by decide +kernel
theorem dX6_readPerson_10 : decode cX6_readPerson 10 = .ok (.iconst 0, 1) := by decide +kernel
theorem dX6_readPerson_11 : decode cX6_readPerson 11 = .ok (.istore_n 1, 1) := by decide +kernel
theorem dX6_readPerson_12 : decode cX6_readPerson 12 = .ok (.iconst 0, 1) := by decide +kernel
theorem dX6_readPerson_13 : decode cX6_readPerson 13 = .ok (.istore_n 2, 1) := by decide +kernel
theorem dX6_readPerson_14 : decode cX6_readPerson 14 = .ok (.iload_n 2, 1) := by decide +kernel
theorem dX6_readPerson_15 : decode cX6_readPerson 15 = .ok (.iconst 4, 1) := by decide +kernel
theorem dX6_readPerson_16 : decode cX6_readPerson 16 = .ok (.if_icmp .ge 29, 3) := by decide +kernel
theorem dX6_readPerson_19 : decode cX6_readPerson 19 = .ok (.aload_n 0, 1) := by decide +kernel
theorem dX6_readPerson_20 : decode cX6_readPerson 20 = .ok (.bipush 10, 2) := by decide +kernel
theorem dX6_readPerson_22 : decode cX6_readPerson 22 = .ok (.invokevirtual 49, 3) := by decide +kernel
theorem dX6_readPerson_25 : decode cX6_readPerson 25 = .ok (.istore_n 3, 1) := by decide +kernel
theorem dX6_readPerson_26 : decode cX6_readPerson 26 = .ok (.iload_n 3, 1) := by decide +kernel
theorem dX6_readPerson_27 : decode cX6_readPerson 27 = .ok (.ifCond .ge 5, 3) := by decide +kernel
theorem dX6_readPerson_30 : decode cX6_readPerson 30 = .ok (.iconst 0, 1) := by decide +kernel
theorem dX6_readPerson_31 : decode cX6_readPerson 31 = .ok (.ireturn, 1) := by decide +kernel
theorem dX6_readPerson_32 : decode cX6_readPerson 32 = .ok (.iload_n 1, 1) := by decide +kernel
theorem dX6_readPerson_33 : decode cX6_readPerson 33 = .ok (.bipush 10, 2) := by decide +kernel
theorem dX6_readPerson_35 : decode cX6_readPerson 35 = .ok (.imul, 1) := by decide +kernel
theorem dX6_readPerson_36 : decode cX6_readPerson 36 = .ok (.iload_n 3, 1) := by decide +kernel
theorem dX6_readPerson_37 : decode cX6_readPerson 37 = .ok (.iadd, 1) := by decide +kernel
theorem dX6_readPerson_38 : decode cX6_readPerson 38 = .ok (.istore_n 1, 1) := by decide +kernel
theorem dX6_readPerson_39 : decode cX6_readPerson 39 = .ok (.iinc 2 1, 3) := by decide +kernel
theorem dX6_readPerson_42 : decode cX6_readPerson 42 = .ok (.goto (-28), 3) := by decide +kernel
theorem dX6_readPerson_45 : decode cX6_readPerson 45 = .ok (.aload_n 0, 1) := by decide +kernel
theorem dX6_readPerson_46 : decode cX6_readPerson 46 = .ok (.getfield 15, 3) := by decide +kernel
theorem dX6_readPerson_49 : decode cX6_readPerson 49 = .ok (.aload_n 0, 1) := by decide +kernel
theorem dX6_readPerson_50 : decode cX6_readPerson 50 = .ok (.dup, 1) := by decide +kernel
theorem dX6_readPerson_51 : decode cX6_readPerson 51 = .ok (.getfield 32, 3) := by decide +kernel
theorem dX6_readPerson_54 : decode cX6_readPerson 54 = .ok (.dup_x1, 1) := by decide +kernel
theorem dX6_readPerson_55 : decode cX6_readPerson 55 = .ok (.iconst 1, 1) := by decide +kernel
theorem dX6_readPerson_56 : decode cX6_readPerson 56 = .ok (.iadd, 1) := by decide +kernel
theorem dX6_readPerson_57 : decode cX6_readPerson 57 = .ok (.putfield 32, 3) := by decide +kernel
theorem dX6_readPerson_60 : decode cX6_readPerson 60 = .ok (.iload_n 1, 1) := by decide +kernel
theorem dX6_readPerson_61 : decode cX6_readPerson 61 = .ok (.iastore, 1) := by decide +kernel
theorem dX6_readPerson_62 : decode cX6_readPerson 62 = .ok (.iconst 1, 1) := by decide +kernel
theorem dX6_readPerson_63 : decode cX6_readPerson 63 = .ok (.ireturn, 1) := by decide +kernel
set_option maxRecDepth 20000 in
theorem ggX6_readMeeting_X6_readFigure : GoodIn wsX6_readMeeting wsX6_readFigure := goodIn_r _ [8, 1, 9, 10, 22, 23, 24, 25, 26, 27, 28] (by decide +kernel) (by decide +kernel)
set_option maxRecDepth 20000 in
theorem gX6_readMeeting_X6_readFigure : GoodIn wsX6_readMeeting (wsV RX6 49 RX6 yX6_readFigure wsX6_readFigure) := goodIn_app (goodIn_of _ (by decide +kernel)) ggX6_readMeeting_X6_readFigure
set_option maxRecDepth 20000 in
theorem ggX6_readMeeting_X6_nextIs : GoodIn wsX6_readMeeting wsX6_nextIs := goodIn_r _ [14, 1, 9, 10, 22, 23, 24, 25, 26, 27, 28] (by decide +kernel) (by decide +kernel)
set_option maxRecDepth 20000 in
theorem gX6_readMeeting_X6_nextIs : GoodIn wsX6_readMeeting (wsV RX6 45 RX6 yX6_nextIs wsX6_nextIs) := goodIn_app (goodIn_of _ (by decide +kernel)) ggX6_readMeeting_X6_nextIs
set_option maxRecDepth 20000 in
theorem ggX6_readMeeting_X2_add : GoodIn wsX6_readMeeting wsX2_add := goodIn_r _ [18, 19, 20, 21, 29, 30, 31] (by decide +kernel) (by decide +kernel)
set_option maxRecDepth 20000 in
theorem gX6_readMeeting_X2_add_n62 : GoodIn wsX6_readMeeting (wsX2_add) := ggX6_readMeeting_X2_add
theorem dX6_readMeeting_0 : decode cX6_readMeeting 0 = .ok (.aload_n 0, 1) := by decide +kernel
theorem dX6_readMeeting_1 : decode cX6_readMeeting 1 = .ok (.dup, 1) := by decide +kernel
theorem dX6_readMeeting_2 : decode cX6_readMeeting 2 = .ok (.getfield 29, 3) := by decide +kernel
theorem dX6_readMeeting_5 : decode cX6_readMeeting 5 = .ok (.iconst 1, 1) := by decide +kernel
theorem dX6_readMeeting_6 : decode cX6_readMeeting 6 = .ok (.iadd, 1) := by decide +kernel
theorem dX6_readMeeting_7 : decode cX6_readMeeting 7 = .ok (.putfield 29, 3) := by decide +kernel
theorem dX6_readMeeting_10 : decode cX6_readMeeting 10 = .ok (.aload_n 0, 1) := by decide +kernel
theorem dX6_readMeeting_11 : decode cX6_readMeeting 11 = .ok (.aload_n 0, 1) := by decide +kernel
theorem dX6_readMeeting_12 : decode cX6_readMeeting 12 = .ok (.getfield 32, 3) := by decide +kernel
theorem dX6_readMeeting_15 : decode cX6_readMeeting 15 = .ok (.invokevirtual 49, 3) := by decide +kernel
theorem dX6_readMeeting_18 : decode cX6_readMeeting 18 = .ok (.istore_n 1, 1) := by decide +kernel
theorem dX6_readMeeting_19 : decode cX6_readMeeting 19 = .ok (.iload_n 1, 1) := by decide +kernel
theorem dX6_readMeeting_20 : decode cX6_readMeeting 20 = .ok (.ifCond .ge 5, 3) := by decide +kernel
theorem dX6_readMeeting_23 : decode cX6_readMeeting 23 = .ok (.iconst 0, 1) := by decide +kernel
theorem dX6_readMeeting_24 : decode cX6_readMeeting 24 = .ok (.ireturn, 1) := by decide +kernel
theorem dX6_readMeeting_25 : decode cX6_readMeeting 25 = .ok (.aload_n 0, 1) := by decide +kernel
theorem dX6_readMeeting_26 : decode cX6_readMeeting 26 = .ok (.bipush 48, 2) := by decide +kernel
theorem dX6_readMeeting_28 : decode cX6_readMeeting 28 = .ok (.iload_n 1, 1) := by decide +kernel
theorem dX6_readMeeting_29 : decode cX6_readMeeting 29 = .ok (.iadd, 1) := by decide +kernel
theorem dX6_readMeeting_30 : decode cX6_readMeeting 30 = .ok (.invokevirtual 45, 3) := by decide +kernel
theorem dX6_readMeeting_33 : decode cX6_readMeeting 33 = .ok (.ifCond .eq 5, 3) := by decide +kernel
theorem dX6_readMeeting_36 : decode cX6_readMeeting 36 = .ok (.iconst 0, 1) := by decide +kernel
theorem dX6_readMeeting_37 : decode cX6_readMeeting 37 = .ok (.ireturn, 1) := by decide +kernel
theorem dX6_readMeeting_38 : decode cX6_readMeeting 38 = .ok (.aload_n 0, 1) := by decide +kernel
theorem dX6_readMeeting_39 : decode cX6_readMeeting 39 = .ok (.aload_n 0, 1) := by decide +kernel
theorem dX6_readMeeting_40 : decode cX6_readMeeting 40 = .ok (.getfield 32, 3) := by decide +kernel
theorem dX6_readMeeting_43 : decode cX6_readMeeting 43 = .ok (.invokevirtual 49, 3) := by decide +kernel
theorem dX6_readMeeting_46 : decode cX6_readMeeting 46 = .ok (.istore_n 2, 1) := by decide +kernel
theorem dX6_readMeeting_47 : decode cX6_readMeeting 47 = .ok (.iload_n 2, 1) := by decide +kernel
theorem dX6_readMeeting_48 : decode cX6_readMeeting 48 = .ok (.ifCond .ge 5, 3) := by decide +kernel
theorem dX6_readMeeting_51 : decode cX6_readMeeting 51 = .ok (.iconst 0, 1) := by decide +kernel
theorem dX6_readMeeting_52 : decode cX6_readMeeting 52 = .ok (.ireturn, 1) := by decide +kernel
theorem dX6_readMeeting_53 : decode cX6_readMeeting 53 = .ok (.aload_n 0, 1) := by decide +kernel
theorem dX6_readMeeting_54 : decode cX6_readMeeting 54 = .ok (.getfield 21, 3) := by decide +kernel
theorem dX6_readMeeting_57 : decode cX6_readMeeting 57 = .ok (.iload_n 1, 1) := by decide +kernel
theorem dX6_readMeeting_58 : decode cX6_readMeeting 58 = .ok (.iload_n 2, 1) := by decide +kernel
theorem dX6_readMeeting_59 : decode cX6_readMeeting 59 = .ok (.invokevirtual 62, 3) := by decide +kernel
theorem dX6_readMeeting_62 : decode cX6_readMeeting 62 = .ok (.iconst 1, 1) := by decide +kernel
theorem dX6_readMeeting_63 : decode cX6_readMeeting 63 = .ok (.ireturn, 1) := by decide +kernel
theorem dX6_nextIs_0 : decode cX6_nextIs 0 = .ok (.aload_n 0, 1) := by decide +kernel
theorem dX6_nextIs_1 : decode cX6_nextIs 1 = .ok (.getfield 29, 3) := by decide +kernel
theorem dX6_nextIs_4 : decode cX6_nextIs 4 = .ok (.aload_n 0, 1) := by decide +kernel
theorem dX6_nextIs_5 : decode cX6_nextIs 5 = .ok (.getfield 25, 3) := by decide +kernel
theorem dX6_nextIs_8 : decode cX6_nextIs 8 = .ok (.if_icmp .ge 20, 3) := by decide +kernel
theorem dX6_nextIs_11 : decode cX6_nextIs 11 = .ok (.aload_n 0, 1) := by decide +kernel
theorem dX6_nextIs_12 : decode cX6_nextIs 12 = .ok (.getfield 9, 3) := by decide +kernel
theorem dX6_nextIs_15 : decode cX6_nextIs 15 = .ok (.aload_n 0, 1) := by decide +kernel
theorem dX6_nextIs_16 : decode cX6_nextIs 16 = .ok (.getfield 29, 3) := by decide +kernel
theorem dX6_nextIs_19 : decode cX6_nextIs 19 = .ok (.iaload, 1) := by decide +kernel
theorem dX6_nextIs_20 : decode cX6_nextIs 20 = .ok (.iload_n 1, 1) := by decide +kernel
theorem dX6_nextIs_21 : decode cX6_nextIs 21 = .ok (.if_icmp .ne 7, 3) := by decide +kernel
theorem dX6_nextIs_24 : decode cX6_nextIs 24 = .ok (.iconst 1, 1) := by decide +kernel
theorem dX6_nextIs_25 : decode cX6_nextIs 25 = .ok (.goto 4, 3) := by decide +kernel
theorem dX6_nextIs_28 : decode cX6_nextIs 28 = .ok (.iconst 0, 1) := by decide +kernel
theorem dX6_nextIs_29 : decode cX6_nextIs 29 = .ok (.ireturn, 1) := by decide +kernel
theorem dX6_readFigure_0 : decode cX6_readFigure 0 = .ok (.aload_n 0, 1) := by decide +kernel
theorem dX6_readFigure_1 : decode cX6_readFigure 1 = .ok (.getfield 29, 3) := by decide +kernel
theorem dX6_readFigure_4 : decode cX6_readFigure 4 = .ok (.aload_n 0, 1) := by decide +kernel
theorem dX6_readFigure_5 : decode cX6_readFigure 5 = .ok (.getfield 25, 3) := by decide +kernel
theorem dX6_readFigure_8 : decode cX6_readFigure 8 = .ok (.if_icmp .ge 18, 3) := by decide +kernel
theorem dX6_readFigure_11 : decode cX6_readFigure 11 = .ok (.aload_n 0, 1) := by decide +kernel
theorem dX6_readFigure_12 : decode cX6_readFigure 12 = .ok (.getfield 9, 3) := by decide +kernel
theorem dX6_readFigure_15 : decode cX6_readFigure 15 = .ok (.aload_n 0, 1) := by decide +kernel
theorem dX6_readFigure_16 : decode cX6_readFigure 16 = .ok (.getfield 29, 3) := by decide +kernel
theorem dX6_readFigure_19 : decode cX6_readFigure 19 = .ok (.iaload, 1) := by decide +kernel
theorem dX6_readFigure_20 : decode cX6_readFigure 20 = .ok (.bipush 48, 2) := by decide +kernel
theorem dX6_readFigure_22 : decode cX6_readFigure 22 = .ok (.isub, 1) := by decide +kernel
theorem dX6_readFigure_23 : decode cX6_readFigure 23 = .ok (.goto 4, 3) := by decide +kernel
theorem dX6_readFigure_26 : decode cX6_readFigure 26 = .ok (.iconst (-1), 1) := by decide +kernel
theorem dX6_readFigure_27 : decode cX6_readFigure 27 = .ok (.istore_n 2, 1) := by decide +kernel
theorem dX6_readFigure_28 : decode cX6_readFigure 28 = .ok (.iload_n 2, 1) := by decide +kernel
theorem dX6_readFigure_29 : decode cX6_readFigure 29 = .ok (.ifCond .lt 8, 3) := by decide +kernel
theorem dX6_readFigure_32 : decode cX6_readFigure 32 = .ok (.iload_n 2, 1) := by decide +kernel
theorem dX6_readFigure_33 : decode cX6_readFigure 33 = .ok (.iload_n 1, 1) := by decide +kernel
theorem dX6_readFigure_34 : decode cX6_readFigure 34 = .ok (.if_icmp .lt 5, 3) := by decide +kernel
theorem dX6_readFigure_37 : decode cX6_readFigure 37 = .ok (.iconst (-1), 1) := by decide +kernel
theorem dX6_readFigure_38 : decode cX6_readFigure 38 = .ok (.ireturn, 1) := by decide +kernel
theorem dX6_readFigure_39 : decode cX6_readFigure 39 = .ok (.aload_n 0, 1) := by decide +kernel
theorem dX6_readFigure_40 : decode cX6_readFigure 40 = .ok (.dup, 1) := by decide +kernel
theorem dX6_readFigure_41 : decode cX6_readFigure 41 = .ok (.getfield 29, 3) := by decide +kernel
theorem dX6_readFigure_44 : decode cX6_readFigure 44 = .ok (.iconst 1, 1) := by decide +kernel
theorem dX6_readFigure_45 : decode cX6_readFigure 45 = .ok (.iadd, 1) := by decide +kernel
theorem dX6_readFigure_46 : decode cX6_readFigure 46 = .ok (.putfield 29, 3) := by decide +kernel
theorem dX6_readFigure_49 : decode cX6_readFigure 49 = .ok (.iload_n 2, 1) := by decide +kernel
theorem dX6_readFigure_50 : decode cX6_readFigure 50 = .ok (.ireturn, 1) := by decide +kernel
theorem dX7_init_0 : decode cX7_init 0 = .ok (.aload_n 0, 1) := by decide +kernel
theorem dX7_init_1 : decode cX7_init 1 = .ok (.invokespecial 3, 3) := by decide +kernel
theorem dX7_init_4 : decode cX7_init 4 = .ok (.aload_n 0, 1) := by decide +kernel
theorem dX7_init_5 : decode cX7_init 5 = .ok (.bipush 6, 2) := by decide +kernel
theorem dX7_init_7 : decode cX7_init 7 = .ok (.newarray .int, 2) := by decide +kernel
theorem dX7_init_9 : decode cX7_init 9 = .ok (.putfield 9, 3) := by decide +kernel
theorem dX7_init_12 : decode cX7_init 12 = .ok (.return_, 1) := by decide +kernel
set_option maxRecDepth 20000 in
theorem ggX7_begin_X8_sharedBy : GoodIn wsX7_begin wsX8_sharedBy := goodIn_r _ [7, 8, 9, 6, 10, 11] (by decide +kernel) (by decide +kernel)
set_option maxRecDepth 20000 in
theorem gX7_begin_X8_sharedBy_n25 : GoodIn wsX7_begin (wsX8_sharedBy) := ggX7_begin_X8_sharedBy
theorem dX7_begin_0 : decode cX7_begin 0 = .ok (.aload_n 0, 1) := by decide +kernel
theorem dX7_begin_1 : decode cX7_begin 1 = .ok (.iload_n 1, 1) := by decide +kernel
theorem dX7_begin_2 : decode cX7_begin 2 = .ok (.putfield 15, 3) := by decide +kernel
theorem dX7_begin_5 : decode cX7_begin 5 = .ok (.aload_n 0, 1) := by decide +kernel
theorem dX7_begin_6 : decode cX7_begin 6 = .ok (.iload_n 2, 1) := by decide +kernel
theorem dX7_begin_7 : decode cX7_begin 7 = .ok (.putfield 19, 3) := by decide +kernel
theorem dX7_begin_10 : decode cX7_begin 10 = .ok (.aload_n 0, 1) := by decide +kernel
theorem dX7_begin_11 : decode cX7_begin 11 = .ok (.iload_n 3, 1) := by decide +kernel
theorem dX7_begin_12 : decode cX7_begin 12 = .ok (.putfield 22, 3) := by decide +kernel
theorem dX7_begin_15 : decode cX7_begin 15 = .ok (.aload_n 0, 1) := by decide +kernel
theorem dX7_begin_16 : decode cX7_begin 16 = .ok (.iload_n 2, 1) := by decide +kernel
theorem dX7_begin_17 : decode cX7_begin 17 = .ok (.iload_n 3, 1) := by decide +kernel
theorem dX7_begin_18 : decode cX7_begin 18 = .ok (.invokestatic 25, 3) := by decide +kernel
theorem dX7_begin_21 : decode cX7_begin 21 = .ok (.putfield 29, 3) := by decide +kernel
theorem dX7_begin_24 : decode cX7_begin 24 = .ok (.return_, 1) := by decide +kernel
theorem dX7_isStill_0 : decode cX7_isStill 0 = .ok (.aload_n 0, 1) := by decide +kernel
theorem dX7_isStill_1 : decode cX7_isStill 1 = .ok (.getfield 19, 3) := by decide +kernel
theorem dX7_isStill_4 : decode cX7_isStill 4 = .ok (.aload_n 0, 1) := by decide +kernel
theorem dX7_isStill_5 : decode cX7_isStill 5 = .ok (.getfield 22, 3) := by decide +kernel
theorem dX7_isStill_8 : decode cX7_isStill 8 = .ok (.if_icmp .eq 10, 3) := by decide +kernel
theorem dX7_isStill_11 : decode cX7_isStill 11 = .ok (.aload_n 0, 1) := by decide +kernel
theorem dX7_isStill_12 : decode cX7_isStill 12 = .ok (.getfield 29, 3) := by decide +kernel
theorem dX7_isStill_15 : decode cX7_isStill 15 = .ok (.ifCond .ne 5, 3) := by decide +kernel
theorem dX7_isStill_18 : decode cX7_isStill 18 = .ok (.iconst 1, 1) := by decide +kernel
theorem dX7_isStill_19 : decode cX7_isStill 19 = .ok (.ireturn, 1) := by decide +kernel
theorem dX7_isStill_20 : decode cX7_isStill 20 = .ok (.aload_n 0, 1) := by decide +kernel
theorem dX7_isStill_21 : decode cX7_isStill 21 = .ok (.getfield 15, 3) := by decide +kernel
theorem dX7_isStill_24 : decode cX7_isStill 24 = .ok (.iconst 2, 1) := by decide +kernel
theorem dX7_isStill_25 : decode cX7_isStill 25 = .ok (.if_icmp .ne 15, 3) := by decide +kernel
theorem dX7_isStill_28 : decode cX7_isStill 28 = .ok (.aload_n 0, 1) := by decide +kernel
theorem dX7_isStill_29 : decode cX7_isStill 29 = .ok (.getfield 29, 3) := by decide +kernel
theorem dX7_isStill_32 : decode cX7_isStill 32 = .ok (.iconst 1, 1) := by decide +kernel
theorem dX7_isStill_33 : decode cX7_isStill 33 = .ok (.if_icmp .ne 7, 3) := by decide +kernel
theorem dX7_isStill_36 : decode cX7_isStill 36 = .ok (.iconst 1, 1) := by decide +kernel
theorem dX7_isStill_37 : decode cX7_isStill 37 = .ok (.goto 4, 3) := by decide +kernel
theorem dX7_isStill_40 : decode cX7_isStill 40 = .ok (.iconst 0, 1) := by decide +kernel
theorem dX7_isStill_41 : decode cX7_isStill 41 = .ok (.ireturn, 1) := by decide +kernel
set_option maxRecDepth 20000 in
theorem ggX7_changesPlaces_X7_isStill : GoodIn wsX7_changesPlaces wsX7_isStill := goodIn_r _ [13, 1, 2, 7, 8, 14, 15, 16, 17, 18] (by decide +kernel) (by decide +kernel)
set_option maxRecDepth 20000 in
theorem gX7_changesPlaces_X7_isStill : GoodIn wsX7_changesPlaces (wsV RX7 32 RX7 yX7_isStill wsX7_isStill) := goodIn_app (goodIn_of _ (by decide +kernel)) ggX7_changesPlaces_X7_isStill
theorem dX7_changesPlaces_0 : decode cX7_changesPlaces 0 = .ok (.aload_n 0, 1) := by decide +kernel
theorem dX7_changesPlaces_1 : decode cX7_changesPlaces 1 = .ok (.invokevirtual 32, 3) := by decide +kernel
theorem dX7_changesPlaces_4 : decode cX7_changesPlaces 4 = .ok (.ifCond .ne 22, 3) := by decide +kernel
theorem dX7_changesPlaces_7 : decode cX7_changesPlaces 7 = .ok (.aload_n 0, 1) := by decide +kernel
theorem dX7_changesPlaces_8 : decode cX7_changesPlaces 8 = .ok (.getfield 19, 3) := by decide +kernel
theorem dX7_changesPlaces_11 : decode cX7_changesPlaces 11 = .ok (.aload_n 0, 1) := by decide +kernel
theorem dX7_changesPlaces_12 : decode cX7_changesPlaces 12 = .ok (.getfield 22, 3) := by decide +kernel
theorem dX7_changesPlaces_15 : decode cX7_changesPlaces 15 = .ok (.isub, 1) := by decide +kernel
theorem dX7_changesPlaces_16 : decode cX7_changesPlaces 16 = .ok (.invokestatic 36, 3) := by decide +kernel
theorem dX7_changesPlaces_19 : decode cX7_changesPlaces 19 = .ok (.aload_n 0, 1) := by decide +kernel
theorem dX7_changesPlaces_20 : decode cX7_changesPlaces 20 = .ok (.getfield 29, 3) := by decide +kernel
theorem dX7_changesPlaces_23 : decode cX7_changesPlaces 23 = .ok (.if_icmp .eq 5, 3) := by decide +kernel
theorem dX7_changesPlaces_26 : decode cX7_changesPlaces 26 = .ok (.iconst 0, 1) := by decide +kernel
theorem dX7_changesPlaces_27 : decode cX7_changesPlaces 27 = .ok (.ireturn, 1) := by decide +kernel
theorem dX7_changesPlaces_28 : decode cX7_changesPlaces 28 = .ok (.aload_n 0, 1) := by decide +kernel
theorem dX7_changesPlaces_29 : decode cX7_changesPlaces 29 = .ok (.getfield 15, 3) := by decide +kernel
theorem dX7_changesPlaces_32 : decode cX7_changesPlaces 32 = .ok (.ifCond .eq 11, 3) := by decide +kernel
theorem dX7_changesPlaces_35 : decode cX7_changesPlaces 35 = .ok (.aload_n 0, 1) := by decide +kernel
theorem dX7_changesPlaces_36 : decode cX7_changesPlaces 36 = .ok (.getfield 15, 3) := by decide +kernel
theorem dX7_changesPlaces_39 : decode cX7_changesPlaces 39 = .ok (.iconst 3, 1) := by decide +kernel
theorem dX7_changesPlaces_40 : decode cX7_changesPlaces 40 = .ok (.if_icmp .ne 7, 3) := by decide +kernel
theorem dX7_changesPlaces_43 : decode cX7_changesPlaces 43 = .ok (.iconst 1, 1) := by decide +kernel
theorem dX7_changesPlaces_44 : decode cX7_changesPlaces 44 = .ok (.goto 4, 3) := by decide +kernel
theorem dX7_changesPlaces_47 : decode cX7_changesPlaces 47 = .ok (.iconst 0, 1) := by decide +kernel
theorem dX7_changesPlaces_48 : decode cX7_changesPlaces 48 = .ok (.ireturn, 1) := by decide +kernel
set_option maxRecDepth 20000 in
theorem ggX7_ringLength_X7_changesPlaces : GoodIn wsX7_ringLength wsX7_changesPlaces := goodIn_r _ [5, 6, 7, 8, 9, 10, 11, 12, 13, 14, 15, 16, 4, 17, 18, 19, 20, 21, 22] (by decide +kernel) (by decide +kernel)
set_option maxRecDepth 20000 in
theorem gX7_ringLength_X7_changesPlaces : GoodIn wsX7_ringLength (wsV RX7 42 RX7 yX7_changesPlaces wsX7_changesPlaces) := goodIn_app (goodIn_of _ (by decide +kernel)) ggX7_ringLength_X7_changesPlaces
theorem dX7_ringLength_0 : decode cX7_ringLength 0 = .ok (.aload_n 0, 1) := by decide +kernel
theorem dX7_ringLength_1 : decode cX7_ringLength 1 = .ok (.invokevirtual 42, 3) := by decide +kernel
theorem dX7_ringLength_4 : decode cX7_ringLength 4 = .ok (.ifCond .eq 7, 3) := by decide +kernel
theorem dX7_ringLength_7 : decode cX7_ringLength 7 = .ok (.iconst 2, 1) := by decide +kernel
theorem dX7_ringLength_8 : decode cX7_ringLength 8 = .ok (.goto 4, 3) := by decide +kernel
theorem dX7_ringLength_11 : decode cX7_ringLength 11 = .ok (.iconst 1, 1) := by decide +kernel
theorem dX7_ringLength_12 : decode cX7_ringLength 12 = .ok (.ireturn, 1) := by decide +kernel
set_option maxRecDepth 20000 in
theorem ggX7_makeToRing_X7_isStill : GoodIn wsX7_makeToRing wsX7_isStill := goodIn_r _ [10, 11, 12, 13, 14, 57, 58, 59, 60, 61] (by decide +kernel) (by decide +kernel)
set_option maxRecDepth 20000 in
theorem gX7_makeToRing_X7_isStill : GoodIn wsX7_makeToRing (wsV RX7 32 RX7 yX7_isStill wsX7_isStill) := goodIn_app (goodIn_of _ (by decide +kernel)) ggX7_makeToRing_X7_isStill
set_option maxRecDepth 20000 in
theorem ggX7_makeToRing_X7_changesPlaces : GoodIn wsX7_makeToRing wsX7_changesPlaces := goodIn_r _ [18, 11, 12, 19, 20, 4, 21, 13, 14, 6, 7, 8, 9, 10, 57, 58, 59, 60, 61] (by decide +kernel) (by decide +kernel)
set_option maxRecDepth 20000 in
theorem gX7_makeToRing_X7_changesPlaces : GoodIn wsX7_makeToRing (wsV RX7 42 RX7 yX7_changesPlaces wsX7_changesPlaces) := goodIn_app (goodIn_of _ (by decide +kernel)) ggX7_makeToRing_X7_changesPlaces
set_option maxRecDepth 20000 in
theorem ggX7_makeToRing_X7_countAlike : GoodIn wsX7_makeToRing wsX7_countAlike := goodIn_r _ [25, 14, 11, 12, 26, 27, 4, 28, 19, 20, 21, 2, 3, 5, 29, 30, 31, 32, 9, 33, 13, 34, 35, 36, 37, 38, 57, 58, 59, 60, 61] (by decide +kernel) (by decide +kernel)
set_option maxRecDepth 20000 in
theorem gX7_makeToRing_X7_countAlike : GoodIn wsX7_makeToRing (wsV RX7 46 RX7 yX7_countAlike wsX7_countAlike) := goodIn_app (goodIn_of _ (by decide +kernel)) ggX7_makeToRing_X7_countAlike
set_option maxRecDepth 20000 in
theorem ggX7_makeToRing_X7_makeAlike : GoodIn wsX7_makeToRing wsX7_makeAlike := goodIn_r _ [42, 14, 11, 12, 13, 43, 36, 44, 45, 20, 4, 21, 46, 47, 3, 5, 48, 49, 50, 51, 27, 28, 52, 53, 54, 55, 56, 38, 57, 58, 59, 60, 61] (by decide +kernel) (by decide +kernel)
set_option maxRecDepth 20000 in
theorem gX7_makeToRing_X7_makeAlike : GoodIn wsX7_makeToRing (wsV RX7 53 RX7 yX7_makeAlike wsX7_makeAlike) := goodIn_app (goodIn_of _ (by decide +kernel)) ggX7_makeToRing_X7_makeAlike
theorem dX7_makeToRing_0 : decode cX7_makeToRing 0 = .ok (.iconst 0, 1) := by decide +kernel
theorem dX7_makeToRing_1 : decode cX7_makeToRing 1 = .ok (.istore_n 2, 1) := by decide +kernel
theorem dX7_makeToRing_2 : decode cX7_makeToRing 2 = .ok (.iconst 0, 1) := by decide +kernel
theorem dX7_makeToRing_3 : decode cX7_makeToRing 3 = .ok (.istore_n 3, 1) := by decide +kernel
theorem dX7_makeToRing_4 : decode cX7_makeToRing 4 = .ok (.iload_n 3, 1) := by decide +kernel
theorem dX7_makeToRing_5 : decode cX7_makeToRing 5 = .ok (.ldc 45, 2) := by decide +kernel
theorem dX7_makeToRing_7 : decode cX7_makeToRing 7 = .ok (.if_icmp .ge 51, 3) := by decide +kernel
theorem dX7_makeToRing_10 : decode cX7_makeToRing 10 = .ok (.iload_n 2, 1) := by decide +kernel
theorem dX7_makeToRing_11 : decode cX7_makeToRing 11 = .ok (.iload_n 1, 1) := by decide +kernel
theorem dX7_makeToRing_12 : decode cX7_makeToRing 12 = .ok (.if_icmp .ge 46, 3) := by decide +kernel
theorem dX7_makeToRing_15 : decode cX7_makeToRing 15 = .ok (.aload_n 0, 1) := by decide +kernel
theorem dX7_makeToRing_16 : decode cX7_makeToRing 16 = .ok (.invokevirtual 32, 3) := by decide +kernel
theorem dX7_makeToRing_19 : decode cX7_makeToRing 19 = .ok (.ifCond .ne 39, 3) := by decide +kernel
theorem dX7_makeToRing_22 : decode cX7_makeToRing 22 = .ok (.aload_n 0, 1) := by decide +kernel
theorem dX7_makeToRing_23 : decode cX7_makeToRing 23 = .ok (.invokevirtual 42, 3) := by decide +kernel
theorem dX7_makeToRing_26 : decode cX7_makeToRing 26 = .ok (.ifCond .ne 32, 3) := by decide +kernel
theorem dX7_makeToRing_29 : decode cX7_makeToRing 29 = .ok (.iload_n 1, 1) := by decide +kernel
theorem dX7_makeToRing_30 : decode cX7_makeToRing 30 = .ok (.iload_n 2, 1) := by decide +kernel
theorem dX7_makeToRing_31 : decode cX7_makeToRing 31 = .ok (.isub, 1) := by decide +kernel
theorem dX7_makeToRing_32 : decode cX7_makeToRing 32 = .ok (.aload_n 0, 1) := by decide +kernel
theorem dX7_makeToRing_33 : decode cX7_makeToRing 33 = .ok (.invokevirtual 46, 3) := by decide +kernel
theorem dX7_makeToRing_36 : decode cX7_makeToRing 36 = .ok (.invokestatic 50, 3) := by decide +kernel
theorem dX7_makeToRing_39 : decode cX7_makeToRing 39 = .ok (.istore 4, 2) := by decide +kernel
theorem dX7_makeToRing_41 : decode cX7_makeToRing 41 = .ok (.aload_n 0, 1) := by decide +kernel
theorem dX7_makeToRing_42 : decode cX7_makeToRing 42 = .ok (.iload 4, 2) := by decide +kernel
theorem dX7_makeToRing_44 : decode cX7_makeToRing 44 = .ok (.invokevirtual 53, 3) := by decide +kernel
theorem dX7_makeToRing_47 : decode cX7_makeToRing 47 = .ok (.iload_n 2, 1) := by decide +kernel
theorem dX7_makeToRing_48 : decode cX7_makeToRing 48 = .ok (.iload 4, 2) := by decide +kernel
theorem dX7_makeToRing_50 : decode cX7_makeToRing 50 = .ok (.iadd, 1) := by decide +kernel
theorem dX7_makeToRing_51 : decode cX7_makeToRing 51 = .ok (.istore_n 2, 1) := by decide +kernel
theorem dX7_makeToRing_52 : decode cX7_makeToRing 52 = .ok (.iinc 3 1, 3) := by decide +kernel
theorem dX7_makeToRing_55 : decode cX7_makeToRing 55 = .ok (.goto (-51), 3) := by decide +kernel
theorem dX7_makeToRing_58 : decode cX7_makeToRing 58 = .ok (.iload_n 2, 1) := by decide +kernel
theorem dX7_makeToRing_59 : decode cX7_makeToRing 59 = .ok (.ireturn, 1) := by decide +kernel
set_option maxRecDepth 20000 in
theorem ggX7_makeAlike_X8_heldAfter : GoodIn wsX7_makeAlike wsX8_heldAfter := goodIn_r _ [7, 8, 9, 10, 11, 12, 13, 14, 15, 16, 17, 6, 18, 19, 20, 21] (by decide +kernel) (by decide +kernel)
set_option maxRecDepth 20000 in
theorem gX7_makeAlike_X8_heldAfter_n57 : GoodIn wsX7_makeAlike (wsX8_heldAfter) := ggX7_makeAlike_X8_heldAfter
set_option maxRecDepth 20000 in
theorem ggX7_makeAlike_X8_sharedBy : GoodIn wsX7_makeAlike wsX8_sharedBy := goodIn_r _ [23, 24, 25, 6, 26, 27] (by decide +kernel) (by decide +kernel)
set_option maxRecDepth 20000 in
theorem gX7_makeAlike_X8_sharedBy_n25 : GoodIn wsX7_makeAlike (wsX8_sharedBy) := ggX7_makeAlike_X8_sharedBy
theorem dX7_makeAlike_0 : decode cX7_makeAlike 0 = .ok (.aload_n 0, 1) := by decide +kernel
theorem dX7_makeAlike_1 : decode cX7_makeAlike 1 = .ok (.getfield 15, 3) := by decide +kernel
theorem dX7_makeAlike_4 : decode cX7_makeAlike 4 = .ok (.aload_n 0, 1) := by decide +kernel
theorem dX7_makeAlike_5 : decode cX7_makeAlike 5 = .ok (.getfield 19, 3) := by decide +kernel
theorem dX7_makeAlike_8 : decode cX7_makeAlike 8 = .ok (.aload_n 0, 1) := by decide +kernel
theorem dX7_makeAlike_9 : decode cX7_makeAlike 9 = .ok (.getfield 22, 3) := by decide +kernel
theorem dX7_makeAlike_12 : decode cX7_makeAlike 12 = .ok (.aload_n 0, 1) := by decide +kernel
theorem dX7_makeAlike_13 : decode cX7_makeAlike 13 = .ok (.getfield 29, 3) := by decide +kernel
theorem dX7_makeAlike_16 : decode cX7_makeAlike 16 = .ok (.iload_n 1, 1) := by decide +kernel
theorem dX7_makeAlike_17 : decode cX7_makeAlike 17 = .ok (.invokestatic 57, 3) := by decide +kernel
theorem dX7_makeAlike_20 : decode cX7_makeAlike 20 = .ok (.istore_n 2, 1) := by decide +kernel
theorem dX7_makeAlike_21 : decode cX7_makeAlike 21 = .ok (.aload_n 0, 1) := by decide +kernel
theorem dX7_makeAlike_22 : decode cX7_makeAlike 22 = .ok (.aload_n 0, 1) := by decide +kernel
theorem dX7_makeAlike_23 : decode cX7_makeAlike 23 = .ok (.getfield 15, 3) := by decide +kernel
theorem dX7_makeAlike_26 : decode cX7_makeAlike 26 = .ok (.aload_n 0, 1) := by decide +kernel
theorem dX7_makeAlike_27 : decode cX7_makeAlike 27 = .ok (.getfield 22, 3) := by decide +kernel
theorem dX7_makeAlike_30 : decode cX7_makeAlike 30 = .ok (.aload_n 0, 1) := by decide +kernel
theorem dX7_makeAlike_31 : decode cX7_makeAlike 31 = .ok (.getfield 19, 3) := by decide +kernel
theorem dX7_makeAlike_34 : decode cX7_makeAlike 34 = .ok (.aload_n 0, 1) := by decide +kernel
theorem dX7_makeAlike_35 : decode cX7_makeAlike 35 = .ok (.getfield 29, 3) := by decide +kernel
theorem dX7_makeAlike_38 : decode cX7_makeAlike 38 = .ok (.iload_n 1, 1) := by decide +kernel
theorem dX7_makeAlike_39 : decode cX7_makeAlike 39 = .ok (.invokestatic 57, 3) := by decide +kernel
theorem dX7_makeAlike_42 : decode cX7_makeAlike 42 = .ok (.putfield 22, 3) := by decide +kernel
theorem dX7_makeAlike_45 : decode cX7_makeAlike 45 = .ok (.aload_n 0, 1) := by decide +kernel
theorem dX7_makeAlike_46 : decode cX7_makeAlike 46 = .ok (.iload_n 2, 1) := by decide +kernel
theorem dX7_makeAlike_47 : decode cX7_makeAlike 47 = .ok (.putfield 19, 3) := by decide +kernel
theorem dX7_makeAlike_50 : decode cX7_makeAlike 50 = .ok (.aload_n 0, 1) := by decide +kernel
theorem dX7_makeAlike_51 : decode cX7_makeAlike 51 = .ok (.aload_n 0, 1) := by decide +kernel
theorem dX7_makeAlike_52 : decode cX7_makeAlike 52 = .ok (.getfield 19, 3) := by decide +kernel
theorem dX7_makeAlike_55 : decode cX7_makeAlike 55 = .ok (.aload_n 0, 1) := by decide +kernel
theorem dX7_makeAlike_56 : decode cX7_makeAlike 56 = .ok (.getfield 22, 3) := by decide +kernel
theorem dX7_makeAlike_59 : decode cX7_makeAlike 59 = .ok (.invokestatic 25, 3) := by decide +kernel
theorem dX7_makeAlike_62 : decode cX7_makeAlike 62 = .ok (.putfield 29, 3) := by decide +kernel
theorem dX7_makeAlike_65 : decode cX7_makeAlike 65 = .ok (.return_, 1) := by decide +kernel
set_option maxRecDepth 20000 in
theorem ggX7_countAlike_X7_countSameShared : GoodIn wsX7_countAlike wsX7_countSameShared := goodIn_r _ [19, 20, 21, 11, 12, 6, 13, 4, 5, 7, 22, 23, 24, 25, 26, 27, 28, 29, 30] (by decide +kernel) (by decide +kernel)
set_option maxRecDepth 20000 in
theorem gX7_countAlike_X7_countSameShared : GoodIn wsX7_countAlike (wsV RX7 64 RX7 yX7_countSameShared wsX7_countSameShared) := goodIn_app (goodIn_of _ (by decide +kernel)) ggX7_countAlike_X7_countSameShared
theorem dX7_countAlike_0 : decode cX7_countAlike 0 = .ok (.aload_n 0, 1) := by decide +kernel
theorem dX7_countAlike_1 : decode cX7_countAlike 1 = .ok (.getfield 15, 3) := by decide +kernel
theorem dX7_countAlike_4 : decode cX7_countAlike 4 = .ok (.ifCond .ne 44, 3) := by decide +kernel
theorem dX7_countAlike_7 : decode cX7_countAlike 7 = .ok (.aload_n 0, 1) := by decide +kernel
theorem dX7_countAlike_8 : decode cX7_countAlike 8 = .ok (.getfield 19, 3) := by decide +kernel
theorem dX7_countAlike_11 : decode cX7_countAlike 11 = .ok (.aload_n 0, 1) := by decide +kernel
theorem dX7_countAlike_12 : decode cX7_countAlike 12 = .ok (.getfield 22, 3) := by decide +kernel
theorem dX7_countAlike_15 : decode cX7_countAlike 15 = .ok (.invokestatic 61, 3) := by decide +kernel
theorem dX7_countAlike_18 : decode cX7_countAlike 18 = .ok (.istore_n 1, 1) := by decide +kernel
theorem dX7_countAlike_19 : decode cX7_countAlike 19 = .ok (.aload_n 0, 1) := by decide +kernel
theorem dX7_countAlike_20 : decode cX7_countAlike 20 = .ok (.iload_n 1, 1) := by decide +kernel
theorem dX7_countAlike_21 : decode cX7_countAlike 21 = .ok (.aload_n 0, 1) := by decide +kernel
theorem dX7_countAlike_22 : decode cX7_countAlike 22 = .ok (.getfield 19, 3) := by decide +kernel
theorem dX7_countAlike_25 : decode cX7_countAlike 25 = .ok (.aload_n 0, 1) := by decide +kernel
theorem dX7_countAlike_26 : decode cX7_countAlike 26 = .ok (.getfield 22, 3) := by decide +kernel
theorem dX7_countAlike_29 : decode cX7_countAlike 29 = .ok (.iadd, 1) := by decide +kernel
theorem dX7_countAlike_30 : decode cX7_countAlike 30 = .ok (.aload_n 0, 1) := by decide +kernel
theorem dX7_countAlike_31 : decode cX7_countAlike 31 = .ok (.getfield 19, 3) := by decide +kernel
theorem dX7_countAlike_34 : decode cX7_countAlike 34 = .ok (.aload_n 0, 1) := by decide +kernel
theorem dX7_countAlike_35 : decode cX7_countAlike 35 = .ok (.getfield 22, 3) := by decide +kernel
theorem dX7_countAlike_38 : decode cX7_countAlike 38 = .ok (.isub, 1) := by decide +kernel
theorem dX7_countAlike_39 : decode cX7_countAlike 39 = .ok (.invokestatic 36, 3) := by decide +kernel
theorem dX7_countAlike_42 : decode cX7_countAlike 42 = .ok (.iconst 2, 1) := by decide +kernel
theorem dX7_countAlike_43 : decode cX7_countAlike 43 = .ok (.idiv, 1) := by decide +kernel
theorem dX7_countAlike_44 : decode cX7_countAlike 44 = .ok (.invokevirtual 64, 3) := by decide +kernel
theorem dX7_countAlike_47 : decode cX7_countAlike 47 = .ok (.ireturn, 1) := by decide +kernel
theorem dX7_countAlike_48 : decode cX7_countAlike 48 = .ok (.aload_n 0, 1) := by decide +kernel
theorem dX7_countAlike_49 : decode cX7_countAlike 49 = .ok (.getfield 15, 3) := by decide +kernel
theorem dX7_countAlike_52 : decode cX7_countAlike 52 = .ok (.iconst 1, 1) := by decide +kernel
theorem dX7_countAlike_53 : decode cX7_countAlike 53 = .ok (.if_icmp .ne 61, 3) := by decide +kernel
theorem dX7_countAlike_56 : decode cX7_countAlike 56 = .ok (.aload_n 0, 1) := by decide +kernel
theorem dX7_countAlike_57 : decode cX7_countAlike 57 = .ok (.getfield 19, 3) := by decide +kernel
theorem dX7_countAlike_60 : decode cX7_countAlike 60 = .ok (.aload_n 0, 1) := by decide +kernel
theorem dX7_countAlike_61 : decode cX7_countAlike 61 = .ok (.getfield 22, 3) := by decide +kernel
theorem dX7_countAlike_64 : decode cX7_countAlike 64 = .ok (.invokestatic 50, 3) := by decide +kernel
theorem dX7_countAlike_67 : decode cX7_countAlike 67 = .ok (.istore_n 1, 1) := by decide +kernel
theorem dX7_countAlike_68 : decode cX7_countAlike 68 = .ok (.aload_n 0, 1) := by decide +kernel
theorem dX7_countAlike_69 : decode cX7_countAlike 69 = .ok (.getfield 19, 3) := by decide +kernel
theorem dX7_countAlike_72 : decode cX7_countAlike 72 = .ok (.aload_n 0, 1) := by decide +kernel
theorem dX7_countAlike_73 : decode cX7_countAlike 73 = .ok (.getfield 22, 3) := by decide +kernel
theorem dX7_countAlike_76 : decode cX7_countAlike 76 = .ok (.invokestatic 61, 3) := by decide +kernel
theorem dX7_countAlike_79 : decode cX7_countAlike 79 = .ok (.istore_n 2, 1) := by decide +kernel
theorem dX7_countAlike_80 : decode cX7_countAlike 80 = .ok (.iload_n 2, 1) := by decide +kernel
theorem dX7_countAlike_81 : decode cX7_countAlike 81 = .ok (.ldc 68, 2) := by decide +kernel
theorem dX7_countAlike_83 : decode cX7_countAlike 83 = .ok (.if_icmp .ne 12, 3) := by decide +kernel
theorem dX7_countAlike_86 : decode cX7_countAlike 86 = .ok (.aload_n 0, 1) := by decide +kernel
theorem dX7_countAlike_87 : decode cX7_countAlike 87 = .ok (.iload_n 1, 1) := by decide +kernel
theorem dX7_countAlike_88 : decode cX7_countAlike 88 = .ok (.ldc 68, 2) := by decide +kernel
theorem dX7_countAlike_90 : decode cX7_countAlike 90 = .ok (.iload_n 1, 1) := by decide +kernel
theorem dX7_countAlike_91 : decode cX7_countAlike 91 = .ok (.invokevirtual 64, 3) := by decide +kernel
theorem dX7_countAlike_94 : decode cX7_countAlike 94 = .ok (.ireturn, 1) := by decide +kernel
theorem dX7_countAlike_95 : decode cX7_countAlike 95 = .ok (.aload_n 0, 1) := by decide +kernel
theorem dX7_countAlike_96 : decode cX7_countAlike 96 = .ok (.iload_n 1, 1) := by decide +kernel
theorem dX7_countAlike_97 : decode cX7_countAlike 97 = .ok (.aload_n 0, 1) := by decide +kernel
theorem dX7_countAlike_98 : decode cX7_countAlike 98 = .ok (.getfield 19, 3) := by decide +kernel
theorem dX7_countAlike_101 : decode cX7_countAlike 101 = .ok (.aload_n 0, 1) := by decide +kernel
theorem dX7_countAlike_102 : decode cX7_countAlike 102 = .ok (.getfield 22, 3) := by decide +kernel
theorem dX7_countAlike_105 : decode cX7_countAlike 105 = .ok (.iadd, 1) := by decide +kernel
theorem dX7_countAlike_106 : decode cX7_countAlike 106 = .ok (.ldc 68, 2) := by decide +kernel
theorem dX7_countAlike_108 : decode cX7_countAlike 108 = .ok (.iload_n 2, 1) := by decide +kernel
theorem dX7_countAlike_109 : decode cX7_countAlike 109 = .ok (.isub, 1) := by decide +kernel
theorem dX7_countAlike_110 : decode cX7_countAlike 110 = .ok (.invokevirtual 64, 3) := by decide +kernel
theorem dX7_countAlike_113 : decode cX7_countAlike 113 = .ok (.ireturn, 1) := by decide +kernel
theorem dX7_countAlike_114 : decode cX7_countAlike 114 = .ok (.iconst 1, 1) := by decide +kernel
theorem dX7_countAlike_115 : decode cX7_countAlike 115 = .ok (.ireturn, 1) := by decide +kernel
set_option maxRecDepth 20000 in
theorem ggX7_countSameShared_X8_takeApart : GoodIn wsX7_countSameShared wsX8_takeApart := goodIn_r _ [12, 13] (by decide +kernel) (by decide +kernel)
set_option maxRecDepth 20000 in
theorem gX7_countSameShared_X8_takeApart_n69 : GoodIn wsX7_countSameShared (wsX8_takeApart) := ggX7_countSameShared_X8_takeApart
theorem dX7_countSameShared_0 : decode cX7_countSameShared 0 = .ok (.aload_n 0, 1) := by decide +kernel
theorem dX7_countSameShared_1 : decode cX7_countSameShared 1 = .ok (.getfield 29, 3) := by decide +kernel
theorem dX7_countSameShared_4 : decode cX7_countSameShared 4 = .ok (.iconst 1, 1) := by decide +kernel
theorem dX7_countSameShared_5 : decode cX7_countSameShared 5 = .ok (.if_icmp .ge 5, 3) := by decide +kernel
theorem dX7_countSameShared_8 : decode cX7_countSameShared 8 = .ok (.iconst 1, 1) := by decide +kernel
theorem dX7_countSameShared_9 : decode cX7_countSameShared 9 = .ok (.ireturn, 1) := by decide +kernel
theorem dX7_countSameShared_10 : decode cX7_countSameShared 10 = .ok (.iload_n 3, 1) := by decide +kernel
theorem dX7_countSameShared_11 : decode cX7_countSameShared 11 = .ok (.aload_n 0, 1) := by decide +kernel
theorem dX7_countSameShared_12 : decode cX7_countSameShared 12 = .ok (.getfield 29, 3) := by decide +kernel
theorem dX7_countSameShared_15 : decode cX7_countSameShared 15 = .ok (.idiv, 1) := by decide +kernel
theorem dX7_countSameShared_16 : decode cX7_countSameShared 16 = .ok (.istore 4, 2) := by decide +kernel
theorem dX7_countSameShared_18 : decode cX7_countSameShared 18 = .ok (.iload_n 2, 1) := by decide +kernel
theorem dX7_countSameShared_19 : decode cX7_countSameShared 19 = .ok (.aload_n 0, 1) := by decide +kernel
theorem dX7_countSameShared_20 : decode cX7_countSameShared 20 = .ok (.getfield 29, 3) := by decide +kernel
theorem dX7_countSameShared_23 : decode cX7_countSameShared 23 = .ok (.idiv, 1) := by decide +kernel
theorem dX7_countSameShared_24 : decode cX7_countSameShared 24 = .ok (.aload_n 0, 1) := by decide +kernel
theorem dX7_countSameShared_25 : decode cX7_countSameShared 25 = .ok (.getfield 9, 3) := by decide +kernel
theorem dX7_countSameShared_28 : decode cX7_countSameShared 28 = .ok (.invokestatic 69, 3) := by decide +kernel
theorem dX7_countSameShared_31 : decode cX7_countSameShared 31 = .ok (.istore 5, 2) := by decide +kernel
theorem dX7_countSameShared_33 : decode cX7_countSameShared 33 = .ok (.iconst 0, 1) := by decide +kernel
theorem dX7_countSameShared_34 : decode cX7_countSameShared 34 = .ok (.istore 6, 2) := by decide +kernel
theorem dX7_countSameShared_36 : decode cX7_countSameShared 36 = .ok (.iload 6, 2) := by decide +kernel
theorem dX7_countSameShared_38 : decode cX7_countSameShared 38 = .ok (.iload 5, 2) := by decide +kernel
theorem dX7_countSameShared_40 : decode cX7_countSameShared 40 = .ok (.if_icmp .ge 41, 3) := by decide +kernel
theorem dX7_countSameShared_43 : decode cX7_countSameShared 43 = .ok (.aload_n 0, 1) := by decide +kernel
theorem dX7_countSameShared_44 : decode cX7_countSameShared 44 = .ok (.getfield 9, 3) := by decide +kernel
theorem dX7_countSameShared_47 : decode cX7_countSameShared 47 = .ok (.iload 6, 2) := by decide +kernel
theorem dX7_countSameShared_49 : decode cX7_countSameShared 49 = .ok (.iaload, 1) := by decide +kernel
theorem dX7_countSameShared_50 : decode cX7_countSameShared 50 = .ok (.iconst 1, 1) := by decide +kernel
theorem dX7_countSameShared_51 : decode cX7_countSameShared 51 = .ok (.if_icmp .le 24, 3) := by decide +kernel
theorem dX7_countSameShared_54 : decode cX7_countSameShared 54 = .ok (.iload 4, 2) := by decide +kernel
theorem dX7_countSameShared_56 : decode cX7_countSameShared 56 = .ok (.iload_n 1, 1) := by decide +kernel
theorem dX7_countSameShared_57 : decode cX7_countSameShared 57 = .ok (.aload_n 0, 1) := by decide +kernel
theorem dX7_countSameShared_58 : decode cX7_countSameShared 58 = .ok (.getfield 29, 3) := by decide +kernel
theorem dX7_countSameShared_61 : decode cX7_countSameShared 61 = .ok (.idiv, 1) := by decide +kernel
theorem dX7_countSameShared_62 : decode cX7_countSameShared 62 = .ok (.aload_n 0, 1) := by decide +kernel
theorem dX7_countSameShared_63 : decode cX7_countSameShared 63 = .ok (.getfield 9, 3) := by decide +kernel
theorem dX7_countSameShared_66 : decode cX7_countSameShared 66 = .ok (.iload 6, 2) := by decide +kernel
theorem dX7_countSameShared_68 : decode cX7_countSameShared 68 = .ok (.iaload, 1) := by decide +kernel
theorem dX7_countSameShared_69 : decode cX7_countSameShared 69 = .ok (.irem, 1) := by decide +kernel
theorem dX7_countSameShared_70 : decode cX7_countSameShared 70 = .ok (.invokestatic 50, 3) := by decide +kernel
theorem dX7_countSameShared_73 : decode cX7_countSameShared 73 = .ok (.istore 4, 2) := by decide +kernel
theorem dX7_countSameShared_75 : decode cX7_countSameShared 75 = .ok (.iinc 6 1, 3) := by decide +kernel
theorem dX7_countSameShared_78 : decode cX7_countSameShared 78 = .ok (.goto (-42), 3) := by decide +kernel
theorem dX7_countSameShared_81 : decode cX7_countSameShared 81 = .ok (.iconst 1, 1) := by decide +kernel
theorem dX7_countSameShared_82 : decode cX7_countSameShared 82 = .ok (.iload 4, 2) := by decide +kernel
theorem dX7_countSameShared_84 : decode cX7_countSameShared 84 = .ok (.invokestatic 61, 3) := by decide +kernel
theorem dX7_countSameShared_87 : decode cX7_countSameShared 87 = .ok (.ireturn, 1) := by decide +kernel
set_option maxRecDepth 20000 in
theorem ggX8_init_X6_init : GoodIn wsX8_init wsX6_init := goodIn_r _ [41, 42, 2, 3, 18, 43, 44, 45, 9, 10, 46, 47, 48, 49, 50, 51, 90, 91, 92, 93, 94, 95, 96, 108, 109, 110] (by decide +kernel) (by decide +kernel)
set_option maxRecDepth 20000 in
theorem gX8_init_X6_init_n9 : GoodIn wsX8_init (wsX6_init) := ggX8_init_X6_init
set_option maxRecDepth 20000 in
theorem ggX8_init_X2_init : GoodIn wsX8_init wsX2_init := goodIn_r _ [48, 49, 2, 3, 18, 50, 51, 108, 109, 110] (by decide +kernel) (by decide +kernel)
set_option maxRecDepth 20000 in
theorem gX8_init_X2_init_n18 : GoodIn wsX8_init (wsX2_init) := ggX8_init_X2_init
set_option maxRecDepth 20000 in
theorem ggX8_init_X1_init : GoodIn wsX8_init wsX1_init := goodIn_r _ [53, 54, 2, 3, 18, 55, 56, 57, 58, 59, 60, 61, 111, 112, 113, 114, 115, 116, 117, 118, 119, 120, 121, 122] (by decide +kernel) (by decide +kernel)
set_option maxRecDepth 20000 in
theorem gX8_init_X1_init_n25 : GoodIn wsX8_init (wsX1_init) := ggX8_init_X1_init
set_option maxRecDepth 20000 in
theorem ggX8_init_X7_init : GoodIn wsX8_init wsX7_init := goodIn_r _ [63, 64, 2, 3, 18, 65, 123, 124, 125, 126, 127] (by decide +kernel) (by decide +kernel)
set_option maxRecDepth 20000 in
theorem gX8_init_X7_init_n42 : GoodIn wsX8_init (wsX7_init) := ggX8_init_X7_init
set_option maxRecDepth 20000 in
theorem ggX8_init_X0_init : GoodIn wsX8_init wsX0_init := goodIn_r _ [67, 68, 2, 3, 18, 69, 70, 128, 129, 130, 131] (by decide +kernel) (by decide +kernel)
set_option maxRecDepth 20000 in
theorem gX8_init_X0_init_n49 : GoodIn wsX8_init (wsX0_init) := ggX8_init_X0_init
set_option maxRecDepth 20000 in
theorem ggX8_init_X3_init : GoodIn wsX8_init wsX3_init := goodIn_r _ [72, 73, 2, 3, 18, 74, 75, 76, 77, 78, 132, 133, 134, 135, 136, 137, 138, 139] (by decide +kernel) (by decide +kernel)
set_option maxRecDepth 20000 in
theorem gX8_init_X3_init_n56 : GoodIn wsX8_init (wsX3_init) := ggX8_init_X3_init
set_option maxRecDepth 20000 in
theorem ggX8_init_X4_init : GoodIn wsX8_init wsX4_init := goodIn_r _ [80, 81, 2, 3, 18, 82, 83, 84, 140, 141, 142, 143, 144, 145] (by decide +kernel) (by decide +kernel)
set_option maxRecDepth 20000 in
theorem gX8_init_X4_init_n63 : GoodIn wsX8_init (wsX4_init) := ggX8_init_X4_init
set_option maxRecDepth 20000 in
theorem ggX8_init_X5_init : GoodIn wsX8_init wsX5_init := goodIn_r _ [86, 87, 2, 3, 18, 88, 89, 146, 147, 148, 149, 150, 151, 152] (by decide +kernel) (by decide +kernel)
set_option maxRecDepth 20000 in
theorem gX8_init_X5_init_n70 : GoodIn wsX8_init (wsX5_init) := ggX8_init_X5_init
theorem dX8_init_0 : decode cX8_init 0 = .ok (.aload_n 0, 1) := by decide +kernel
theorem dX8_init_1 : decode cX8_init 1 = .ok (.invokespecial 1, 3) := by decide +kernel
theorem dX8_init_4 : decode cX8_init 4 = .ok (.aload_n 0, 1) := by decide +kernel
theorem dX8_init_5 : decode cX8_init 5 = .ok (.new 7, 3) := by decide +kernel
theorem dX8_init_8 : decode cX8_init 8 = .ok (.dup, 1) := by decide +kernel
theorem dX8_init_9 : decode cX8_init 9 = .ok (.invokespecial 9, 3) := by decide +kernel
theorem dX8_init_12 : decode cX8_init 12 = .ok (.putfield 10, 3) := by decide +kernel
theorem dX8_init_15 : decode cX8_init 15 = .ok (.aload_n 0, 1) := by decide +kernel
theorem dX8_init_16 : decode cX8_init 16 = .ok (.new 16, 3) := by decide +kernel
theorem dX8_init_19 : decode cX8_init 19 = .ok (.dup, 1) := by decide +kernel
theorem dX8_init_20 : decode cX8_init 20 = .ok (.invokespecial 18, 3) := by decide +kernel
theorem dX8_init_23 : decode cX8_init 23 = .ok (.putfield 19, 3) := by decide +kernel
theorem dX8_init_26 : decode cX8_init 26 = .ok (.aload_n 0, 1) := by decide +kernel
theorem dX8_init_27 : decode cX8_init 27 = .ok (.new 23, 3) := by decide +kernel
theorem dX8_init_30 : decode cX8_init 30 = .ok (.dup, 1) := by decide +kernel
theorem dX8_init_31 : decode cX8_init 31 = .ok (.invokespecial 25, 3) := by decide +kernel
theorem dX8_init_34 : decode cX8_init 34 = .ok (.putfield 26, 3) := by decide +kernel
theorem dX8_init_37 : decode cX8_init 37 = .ok (.aload_n 0, 1) := by decide +kernel
theorem dX8_init_38 : decode cX8_init 38 = .ok (.new 23, 3) := by decide +kernel
theorem dX8_init_41 : decode cX8_init 41 = .ok (.dup, 1) := by decide +kernel
theorem dX8_init_42 : decode cX8_init 42 = .ok (.invokespecial 25, 3) := by decide +kernel
theorem dX8_init_45 : decode cX8_init 45 = .ok (.putfield 30, 3) := by decide +kernel
theorem dX8_init_48 : decode cX8_init 48 = .ok (.aload_n 0, 1) := by decide +kernel
theorem dX8_init_49 : decode cX8_init 49 = .ok (.new 23, 3) := by decide +kernel
theorem dX8_init_52 : decode cX8_init 52 = .ok (.dup, 1) := by decide +kernel
theorem dX8_init_53 : decode cX8_init 53 = .ok (.invokespecial 25, 3) := by decide +kernel
theorem dX8_init_56 : decode cX8_init 56 = .ok (.putfield 33, 3) := by decide +kernel
theorem dX8_init_59 : decode cX8_init 59 = .ok (.aload_n 0, 1) := by decide +kernel
theorem dX8_init_60 : decode cX8_init 60 = .ok (.bipush 8, 2) := by decide +kernel
theorem dX8_init_62 : decode cX8_init 62 = .ok (.newarray .int, 2) := by decide +kernel
theorem dX8_init_64 : decode cX8_init 64 = .ok (.putfield 36, 3) := by decide +kernel
theorem dX8_init_67 : decode cX8_init 67 = .ok (.aload_n 0, 1) := by decide +kernel
theorem dX8_init_68 : decode cX8_init 68 = .ok (.new 40, 3) := by decide +kernel
theorem dX8_init_71 : decode cX8_init 71 = .ok (.dup, 1) := by decide +kernel
theorem dX8_init_72 : decode cX8_init 72 = .ok (.invokespecial 42, 3) := by decide +kernel
theorem dX8_init_75 : decode cX8_init 75 = .ok (.putfield 43, 3) := by decide +kernel
theorem dX8_init_78 : decode cX8_init 78 = .ok (.aload_n 0, 1) := by decide +kernel
theorem dX8_init_79 : decode cX8_init 79 = .ok (.new 47, 3) := by decide +kernel
theorem dX8_init_82 : decode cX8_init 82 = .ok (.dup, 1) := by decide +kernel
theorem dX8_init_83 : decode cX8_init 83 = .ok (.invokespecial 49, 3) := by decide +kernel
theorem dX8_init_86 : decode cX8_init 86 = .ok (.putfield 50, 3) := by decide +kernel
theorem dX8_init_89 : decode cX8_init 89 = .ok (.aload_n 0, 1) := by decide +kernel
theorem dX8_init_90 : decode cX8_init 90 = .ok (.new 54, 3) := by decide +kernel
theorem dX8_init_93 : decode cX8_init 93 = .ok (.dup, 1) := by decide +kernel
theorem dX8_init_94 : decode cX8_init 94 = .ok (.invokespecial 56, 3) := by decide +kernel
theorem dX8_init_97 : decode cX8_init 97 = .ok (.putfield 57, 3) := by decide +kernel
theorem dX8_init_100 : decode cX8_init 100 = .ok (.aload_n 0, 1) := by decide +kernel
theorem dX8_init_101 : decode cX8_init 101 = .ok (.new 61, 3) := by decide +kernel
theorem dX8_init_104 : decode cX8_init 104 = .ok (.dup, 1) := by decide +kernel
theorem dX8_init_105 : decode cX8_init 105 = .ok (.invokespecial 63, 3) := by decide +kernel
theorem dX8_init_108 : decode cX8_init 108 = .ok (.putfield 64, 3) := by decide +kernel
theorem dX8_init_111 : decode cX8_init 111 = .ok (.aload_n 0, 1) := by decide +kernel
theorem dX8_init_112 : decode cX8_init 112 = .ok (.new 68, 3) := by decide +kernel
theorem dX8_init_115 : decode cX8_init 115 = .ok (.dup, 1) := by decide +kernel
theorem dX8_init_116 : decode cX8_init 116 = .ok (.invokespecial 70, 3) := by decide +kernel
theorem dX8_init_119 : decode cX8_init 119 = .ok (.putfield 71, 3) := by decide +kernel
theorem dX8_init_122 : decode cX8_init 122 = .ok (.aload_n 0, 1) := by decide +kernel
theorem dX8_init_123 : decode cX8_init 123 = .ok (.getfield 26, 3) := by decide +kernel
theorem dX8_init_126 : decode cX8_init 126 = .ok (.iconst 2, 1) := by decide +kernel
theorem dX8_init_127 : decode cX8_init 127 = .ok (.putfield 75, 3) := by decide +kernel
theorem dX8_init_130 : decode cX8_init 130 = .ok (.return_, 1) := by decide +kernel
set_option maxRecDepth 20000 in
theorem ggX8_write_X6_add : GoodIn wsX8_write wsX6_add := goodIn_r _ [5, 6, 7, 19, 20, 21, 22, 23, 24, 25] (by decide +kernel) (by decide +kernel)
set_option maxRecDepth 20000 in
theorem gX8_write_X6_add_n82 : GoodIn wsX8_write (wsX6_add) := ggX8_write_X6_add
