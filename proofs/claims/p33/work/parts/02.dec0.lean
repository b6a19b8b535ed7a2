theorem dX0_init_0 : decode cX0_init 0 = .ok (.aload_n 0, 1) := by decide +kernel
theorem dX0_init_1 : decode cX0_init 1 = .ok (.invokespecial 3, 3) := by decide +kernel
theorem dX0_init_4 : decode cX0_init 4 = .ok (.aload_n 0, 1) := by decide +kernel
theorem dX0_init_5 : decode cX0_init 5 = .ok (.sipush 2408, 3) := by decide +kernel
theorem dX0_init_8 : decode cX0_init 8 = .ok (.newarray .int, 2) := by decide +kernel
theorem dX0_init_10 : decode cX0_init 10 = .ok (.putfield 9, 3) := by decide +kernel
theorem dX0_init_13 : decode cX0_init 13 = .ok (.aload_n 0, 1) := by decide +kernel
theorem dX0_init_14 : decode cX0_init 14 = .ok (.bipush 8, 2) := by decide +kernel
theorem dX0_init_16 : decode cX0_init 16 = .ok (.newarray .int, 2) := by decide +kernel
theorem dX0_init_18 : decode cX0_init 18 = .ok (.putfield 15, 3) := by decide +kernel
theorem dX0_init_21 : decode cX0_init 21 = .ok (.return_, 1) := by decide +kernel
set_option maxRecDepth 20000 in
theorem ggX0_find_X2_makeAll : GoodIn wsX0_find wsX2_makeAll := goodIn_r _ [12, 13, 14, 15, 16, 10, 17, 18, 19, 20, 21, 22, 23, 24, 25, 26, 27, 28, 29, 30, 31, 32, 33, 34, 35, 36, 37, 38, 39, 40, 41, 42, 43, 44, 45, 46, 72, 73, 74] (by decide +kernel) (by decide +kernel)
set_option maxRecDepth 20000 in
theorem gX0_find_X2_makeAll_n37 : GoodIn wsX0_find (wsX2_makeAll) := ggX0_find_X2_makeAll
set_option maxRecDepth 20000 in
theorem ggX0_find_X0_noteIfHadBefore : GoodIn wsX0_find wsX0_noteIfHadBefore := goodIn_r _ [51, 2, 1, 52, 53, 54, 50, 55, 8, 3, 56, 57, 58, 59] (by decide +kernel) (by decide +kernel)
set_option maxRecDepth 20000 in
theorem gX0_find_X0_noteIfHadBefore : GoodIn wsX0_find (wsV RX0 46 RX0 yX0_noteIfHadBefore wsX0_noteIfHadBefore) := goodIn_app (goodIn_of _ (by decide +kernel)) ggX0_find_X0_noteIfHadBefore
theorem dX0_find_0 : decode cX0_find 0 = .ok (.aload_n 0, 1) := by decide +kernel
theorem dX0_find_1 : decode cX0_find 1 = .ok (.bipush (-9), 2) := by decide +kernel
theorem dX0_find_3 : decode cX0_find 3 = .ok (.putfield 18, 3) := by decide +kernel
theorem dX0_find_6 : decode cX0_find 6 = .ok (.aload_n 0, 1) := by decide +kernel
theorem dX0_find_7 : decode cX0_find 7 = .ok (.bipush (-9), 2) := by decide +kernel
theorem dX0_find_9 : decode cX0_find 9 = .ok (.putfield 22, 3) := by decide +kernel
theorem dX0_find_12 : decode cX0_find 12 = .ok (.aload_n 1, 1) := by decide +kernel
theorem dX0_find_13 : decode cX0_find 13 = .ok (.getfield 25, 3) := by decide +kernel
theorem dX0_find_16 : decode cX0_find 16 = .ok (.iconst 0, 1) := by decide +kernel
theorem dX0_find_17 : decode cX0_find 17 = .ok (.aload_n 0, 1) := by decide +kernel
theorem dX0_find_18 : decode cX0_find 18 = .ok (.getfield 15, 3) := by decide +kernel
theorem dX0_find_21 : decode cX0_find 21 = .ok (.iconst 0, 1) := by decide +kernel
theorem dX0_find_22 : decode cX0_find 22 = .ok (.bipush 8, 2) := by decide +kernel
theorem dX0_find_24 : decode cX0_find 24 = .ok (.invokestatic 28, 3) := by decide +kernel
theorem dX0_find_27 : decode cX0_find 27 = .ok (.aload_n 0, 1) := by decide +kernel
theorem dX0_find_28 : decode cX0_find 28 = .ok (.getfield 15, 3) := by decide +kernel
theorem dX0_find_31 : decode cX0_find 31 = .ok (.iconst 0, 1) := by decide +kernel
theorem dX0_find_32 : decode cX0_find 32 = .ok (.aload_n 0, 1) := by decide +kernel
theorem dX0_find_33 : decode cX0_find 33 = .ok (.getfield 9, 3) := by decide +kernel
theorem dX0_find_36 : decode cX0_find 36 = .ok (.iconst 0, 1) := by decide +kernel
theorem dX0_find_37 : decode cX0_find 37 = .ok (.bipush 8, 2) := by decide +kernel
theorem dX0_find_39 : decode cX0_find 39 = .ok (.invokestatic 28, 3) := by decide +kernel
theorem dX0_find_42 : decode cX0_find 42 = .ok (.iconst 1, 1) := by decide +kernel
theorem dX0_find_43 : decode cX0_find 43 = .ok (.istore_n 3, 1) := by decide +kernel
theorem dX0_find_44 : decode cX0_find 44 = .ok (.iload_n 3, 1) := by decide +kernel
theorem dX0_find_45 : decode cX0_find 45 = .ok (.sipush 300, 3) := by decide +kernel
theorem dX0_find_48 : decode cX0_find 48 = .ok (.if_icmp .gt 58, 3) := by decide +kernel
theorem dX0_find_51 : decode cX0_find 51 = .ok (.aload_n 0, 1) := by decide +kernel
theorem dX0_find_52 : decode cX0_find 52 = .ok (.getfield 22, 3) := by decide +kernel
theorem dX0_find_55 : decode cX0_find 55 = .ok (.bipush (-9), 2) := by decide +kernel
theorem dX0_find_57 : decode cX0_find 57 = .ok (.if_icmp .ne 49, 3) := by decide +kernel
theorem dX0_find_60 : decode cX0_find 60 = .ok (.aload_n 2, 1) := by decide +kernel
theorem dX0_find_61 : decode cX0_find 61 = .ok (.aload_n 0, 1) := by decide +kernel
theorem dX0_find_62 : decode cX0_find 62 = .ok (.getfield 15, 3) := by decide +kernel
theorem dX0_find_65 : decode cX0_find 65 = .ok (.aload_n 1, 1) := by decide +kernel
theorem dX0_find_66 : decode cX0_find 66 = .ok (.getfield 34, 3) := by decide +kernel
theorem dX0_find_69 : decode cX0_find 69 = .ok (.invokevirtual 37, 3) := by decide +kernel
theorem dX0_find_72 : decode cX0_find 72 = .ok (.pop, 1) := by decide +kernel
theorem dX0_find_73 : decode cX0_find 73 = .ok (.aload_n 0, 1) := by decide +kernel
theorem dX0_find_74 : decode cX0_find 74 = .ok (.iload_n 3, 1) := by decide +kernel
theorem dX0_find_75 : decode cX0_find 75 = .ok (.aload_n 1, 1) := by decide +kernel
theorem dX0_find_76 : decode cX0_find 76 = .ok (.getfield 43, 3) := by decide +kernel
theorem dX0_find_79 : decode cX0_find 79 = .ok (.invokevirtual 46, 3) := by decide +kernel
theorem dX0_find_82 : decode cX0_find 82 = .ok (.aload_n 0, 1) := by decide +kernel
theorem dX0_find_83 : decode cX0_find 83 = .ok (.getfield 15, 3) := by decide +kernel
theorem dX0_find_86 : decode cX0_find 86 = .ok (.iconst 0, 1) := by decide +kernel
theorem dX0_find_87 : decode cX0_find 87 = .ok (.aload_n 0, 1) := by decide +kernel
theorem dX0_find_88 : decode cX0_find 88 = .ok (.getfield 9, 3) := by decide +kernel
theorem dX0_find_91 : decode cX0_find 91 = .ok (.iload_n 3, 1) := by decide +kernel
theorem dX0_find_92 : decode cX0_find 92 = .ok (.bipush 8, 2) := by decide +kernel
theorem dX0_find_94 : decode cX0_find 94 = .ok (.imul, 1) := by decide +kernel
theorem dX0_find_95 : decode cX0_find 95 = .ok (.bipush 8, 2) := by decide +kernel
theorem dX0_find_97 : decode cX0_find 97 = .ok (.invokestatic 28, 3) := by decide +kernel
theorem dX0_find_100 : decode cX0_find 100 = .ok (.iinc 3 1, 3) := by decide +kernel
theorem dX0_find_103 : decode cX0_find 103 = .ok (.goto (-59), 3) := by decide +kernel
theorem dX0_find_106 : decode cX0_find 106 = .ok (.return_, 1) := by decide +kernel
set_option maxRecDepth 20000 in
theorem ggX0_noteIfHadBefore_X0_wereHad : GoodIn wsX0_noteIfHadBefore wsX0_wereHad := goodIn_r _ [7, 8, 9, 10, 11, 12, 13] (by decide +kernel) (by decide +kernel)
set_option maxRecDepth 20000 in
theorem gX0_noteIfHadBefore_X0_wereHad : GoodIn wsX0_noteIfHadBefore (wsV RX0 50 RX0 yX0_wereHad wsX0_wereHad) := goodIn_app (goodIn_of _ (by decide +kernel)) ggX0_noteIfHadBefore_X0_wereHad
theorem dX0_noteIfHadBefore_0 : decode cX0_noteIfHadBefore 0 = .ok (.iload_n 1, 1) := by decide +kernel
theorem dX0_noteIfHadBefore_1 : decode cX0_noteIfHadBefore 1 = .ok (.iconst 1, 1) := by decide +kernel
theorem dX0_noteIfHadBefore_2 : decode cX0_noteIfHadBefore 2 = .ok (.isub, 1) := by decide +kernel
theorem dX0_noteIfHadBefore_3 : decode cX0_noteIfHadBefore 3 = .ok (.istore_n 3, 1) := by decide +kernel
theorem dX0_noteIfHadBefore_4 : decode cX0_noteIfHadBefore 4 = .ok (.iload_n 3, 1) := by decide +kernel
theorem dX0_noteIfHadBefore_5 : decode cX0_noteIfHadBefore 5 = .ok (.ifCond .lt 34, 3) := by decide +kernel
theorem dX0_noteIfHadBefore_8 : decode cX0_noteIfHadBefore 8 = .ok (.aload_n 0, 1) := by decide +kernel
theorem dX0_noteIfHadBefore_9 : decode cX0_noteIfHadBefore 9 = .ok (.iload_n 3, 1) := by decide +kernel
theorem dX0_noteIfHadBefore_10 : decode cX0_noteIfHadBefore 10 = .ok (.iload_n 2, 1) := by decide +kernel
theorem dX0_noteIfHadBefore_11 : decode cX0_noteIfHadBefore 11 = .ok (.invokevirtual 50, 3) := by decide +kernel
theorem dX0_noteIfHadBefore_14 : decode cX0_noteIfHadBefore 14 = .ok (.ifCond .ne 6, 3) := by decide +kernel
theorem dX0_noteIfHadBefore_17 : decode cX0_noteIfHadBefore 17 = .ok (.goto 16, 3) := by decide +kernel
theorem dX0_noteIfHadBefore_20 : decode cX0_noteIfHadBefore 20 = .ok (.aload_n 0, 1) := by decide +kernel
theorem dX0_noteIfHadBefore_21 : decode cX0_noteIfHadBefore 21 = .ok (.iload_n 3, 1) := by decide +kernel
theorem dX0_noteIfHadBefore_22 : decode cX0_noteIfHadBefore 22 = .ok (.putfield 22, 3) := by decide +kernel
theorem dX0_noteIfHadBefore_25 : decode cX0_noteIfHadBefore 25 = .ok (.aload_n 0, 1) := by decide +kernel
theorem dX0_noteIfHadBefore_26 : decode cX0_noteIfHadBefore 26 = .ok (.iload_n 1, 1) := by decide +kernel
theorem dX0_noteIfHadBefore_27 : decode cX0_noteIfHadBefore 27 = .ok (.iload_n 3, 1) := by decide +kernel
theorem dX0_noteIfHadBefore_28 : decode cX0_noteIfHadBefore 28 = .ok (.isub, 1) := by decide +kernel
theorem dX0_noteIfHadBefore_29 : decode cX0_noteIfHadBefore 29 = .ok (.putfield 18, 3) := by decide +kernel
theorem dX0_noteIfHadBefore_32 : decode cX0_noteIfHadBefore 32 = .ok (.return_, 1) := by decide +kernel
theorem dX0_noteIfHadBefore_33 : decode cX0_noteIfHadBefore 33 = .ok (.iinc 3 (-1), 3) := by decide +kernel
theorem dX0_noteIfHadBefore_36 : decode cX0_noteIfHadBefore 36 = .ok (.goto (-32), 3) := by decide +kernel
theorem dX0_noteIfHadBefore_39 : decode cX0_noteIfHadBefore 39 = .ok (.return_, 1) := by decide +kernel
theorem dX0_wereHad_0 : decode cX0_wereHad 0 = .ok (.iconst 0, 1) := by decide +kernel
theorem dX0_wereHad_1 : decode cX0_wereHad 1 = .ok (.istore_n 3, 1) := by decide +kernel
theorem dX0_wereHad_2 : decode cX0_wereHad 2 = .ok (.iload_n 3, 1) := by decide +kernel
theorem dX0_wereHad_3 : decode cX0_wereHad 3 = .ok (.iload_n 2, 1) := by decide +kernel
theorem dX0_wereHad_4 : decode cX0_wereHad 4 = .ok (.if_icmp .ge 31, 3) := by decide +kernel
theorem dX0_wereHad_7 : decode cX0_wereHad 7 = .ok (.aload_n 0, 1) := by decide +kernel
theorem dX0_wereHad_8 : decode cX0_wereHad 8 = .ok (.getfield 9, 3) := by decide +kernel
theorem dX0_wereHad_11 : decode cX0_wereHad 11 = .ok (.iload_n 1, 1) := by decide +kernel
theorem dX0_wereHad_12 : decode cX0_wereHad 12 = .ok (.bipush 8, 2) := by decide +kernel
theorem dX0_wereHad_14 : decode cX0_wereHad 14 = .ok (.imul, 1) := by decide +kernel
theorem dX0_wereHad_15 : decode cX0_wereHad 15 = .ok (.iload_n 3, 1) := by decide +kernel
theorem dX0_wereHad_16 : decode cX0_wereHad 16 = .ok (.iadd, 1) := by decide +kernel
theorem dX0_wereHad_17 : decode cX0_wereHad 17 = .ok (.iaload, 1) := by decide +kernel
theorem dX0_wereHad_18 : decode cX0_wereHad 18 = .ok (.aload_n 0, 1) := by decide +kernel
theorem dX0_wereHad_19 : decode cX0_wereHad 19 = .ok (.getfield 15, 3) := by decide +kernel
theorem dX0_wereHad_22 : decode cX0_wereHad 22 = .ok (.iload_n 3, 1) := by decide +kernel
theorem dX0_wereHad_23 : decode cX0_wereHad 23 = .ok (.iaload, 1) := by decide +kernel
theorem dX0_wereHad_24 : decode cX0_wereHad 24 = .ok (.if_icmp .eq 5, 3) := by decide +kernel
theorem dX0_wereHad_27 : decode cX0_wereHad 27 = .ok (.iconst 0, 1) := by decide +kernel
theorem dX0_wereHad_28 : decode cX0_wereHad 28 = .ok (.ireturn, 1) := by decide +kernel
theorem dX0_wereHad_29 : decode cX0_wereHad 29 = .ok (.iinc 3 1, 3) := by decide +kernel
theorem dX0_wereHad_32 : decode cX0_wereHad 32 = .ok (.goto (-30), 3) := by decide +kernel
theorem dX0_wereHad_35 : decode cX0_wereHad 35 = .ok (.iconst 1, 1) := by decide +kernel
theorem dX0_wereHad_36 : decode cX0_wereHad 36 = .ok (.ireturn, 1) := by decide +kernel
theorem dX1_init_0 : decode cX1_init 0 = .ok (.aload_n 0, 1) := by decide +kernel
theorem dX1_init_1 : decode cX1_init 1 = .ok (.invokespecial 3, 3) := by decide +kernel
theorem dX1_init_4 : decode cX1_init 4 = .ok (.aload_n 0, 1) := by decide +kernel
theorem dX1_init_5 : decode cX1_init 5 = .ok (.bipush 8, 2) := by decide +kernel
theorem dX1_init_7 : decode cX1_init 7 = .ok (.newarray .int, 2) := by decide +kernel
theorem dX1_init_9 : decode cX1_init 9 = .ok (.putfield 9, 3) := by decide +kernel
theorem dX1_init_12 : decode cX1_init 12 = .ok (.aload_n 0, 1) := by decide +kernel
theorem dX1_init_13 : decode cX1_init 13 = .ok (.bipush 32, 2) := by decide +kernel
theorem dX1_init_15 : decode cX1_init 15 = .ok (.newarray .int, 2) := by decide +kernel
theorem dX1_init_17 : decode cX1_init 17 = .ok (.putfield 15, 3) := by decide +kernel
theorem dX1_init_20 : decode cX1_init 20 = .ok (.aload_n 0, 1) := by decide +kernel
theorem dX1_init_21 : decode cX1_init 21 = .ok (.bipush 32, 2) := by decide +kernel
theorem dX1_init_23 : decode cX1_init 23 = .ok (.newarray .int, 2) := by decide +kernel
theorem dX1_init_25 : decode cX1_init 25 = .ok (.putfield 18, 3) := by decide +kernel
theorem dX1_init_28 : decode cX1_init 28 = .ok (.aload_n 0, 1) := by decide +kernel
theorem dX1_init_29 : decode cX1_init 29 = .ok (.bipush 32, 2) := by decide +kernel
theorem dX1_init_31 : decode cX1_init 31 = .ok (.newarray .int, 2) := by decide +kernel
theorem dX1_init_33 : decode cX1_init 33 = .ok (.putfield 21, 3) := by decide +kernel
theorem dX1_init_36 : decode cX1_init 36 = .ok (.aload_n 0, 1) := by decide +kernel
theorem dX1_init_37 : decode cX1_init 37 = .ok (.bipush 32, 2) := by decide +kernel
theorem dX1_init_39 : decode cX1_init 39 = .ok (.newarray .int, 2) := by decide +kernel
theorem dX1_init_41 : decode cX1_init 41 = .ok (.putfield 24, 3) := by decide +kernel
theorem dX1_init_44 : decode cX1_init 44 = .ok (.aload_n 0, 1) := by decide +kernel
theorem dX1_init_45 : decode cX1_init 45 = .ok (.bipush 8, 2) := by decide +kernel
theorem dX1_init_47 : decode cX1_init 47 = .ok (.newarray .int, 2) := by decide +kernel
theorem dX1_init_49 : decode cX1_init 49 = .ok (.putfield 27, 3) := by decide +kernel
theorem dX1_init_52 : decode cX1_init 52 = .ok (.aload_n 0, 1) := by decide +kernel
theorem dX1_init_53 : decode cX1_init 53 = .ok (.bipush 8, 2) := by decide +kernel
theorem dX1_init_55 : decode cX1_init 55 = .ok (.newarray .int, 2) := by decide +kernel
theorem dX1_init_57 : decode cX1_init 57 = .ok (.putfield 30, 3) := by decide +kernel
theorem dX1_init_60 : decode cX1_init 60 = .ok (.return_, 1) := by decide +kernel
theorem dX1_isPerson_0 : decode cX1_isPerson 0 = .ok (.iload_n 1, 1) := by decide +kernel
theorem dX1_isPerson_1 : decode cX1_isPerson 1 = .ok (.ifCond .lt 15, 3) := by decide +kernel
theorem dX1_isPerson_4 : decode cX1_isPerson 4 = .ok (.iload_n 1, 1) := by decide +kernel
theorem dX1_isPerson_5 : decode cX1_isPerson 5 = .ok (.aload_n 0, 1) := by decide +kernel
theorem dX1_isPerson_6 : decode cX1_isPerson 6 = .ok (.getfield 33, 3) := by decide +kernel
theorem dX1_isPerson_9 : decode cX1_isPerson 9 = .ok (.if_icmp .ge 7, 3) := by decide +kernel
theorem dX1_isPerson_12 : decode cX1_isPerson 12 = .ok (.iconst 1, 1) := by decide +kernel
theorem dX1_isPerson_13 : decode cX1_isPerson 13 = .ok (.goto 4, 3) := by decide +kernel
theorem dX1_isPerson_16 : decode cX1_isPerson 16 = .ok (.iconst 0, 1) := by decide +kernel
theorem dX1_isPerson_17 : decode cX1_isPerson 17 = .ok (.ireturn, 1) := by decide +kernel
theorem dX1_beginTown_0 : decode cX1_beginTown 0 = .ok (.aload_n 0, 1) := by decide +kernel
theorem dX1_beginTown_1 : decode cX1_beginTown 1 = .ok (.aload_n 1, 1) := by decide +kernel
theorem dX1_beginTown_2 : decode cX1_beginTown 2 = .ok (.getfield 37, 3) := by decide +kernel
theorem dX1_beginTown_5 : decode cX1_beginTown 5 = .ok (.putfield 33, 3) := by decide +kernel
theorem dX1_beginTown_8 : decode cX1_beginTown 8 = .ok (.aload_n 0, 1) := by decide +kernel
theorem dX1_beginTown_9 : decode cX1_beginTown 9 = .ok (.aload_n 1, 1) := by decide +kernel
theorem dX1_beginTown_10 : decode cX1_beginTown 10 = .ok (.getfield 40, 3) := by decide +kernel
theorem dX1_beginTown_13 : decode cX1_beginTown 13 = .ok (.putfield 43, 3) := by decide +kernel
theorem dX1_beginTown_16 : decode cX1_beginTown 16 = .ok (.aload_n 1, 1) := by decide +kernel
theorem dX1_beginTown_17 : decode cX1_beginTown 17 = .ok (.getfield 44, 3) := by decide +kernel
theorem dX1_beginTown_20 : decode cX1_beginTown 20 = .ok (.iconst 0, 1) := by decide +kernel
theorem dX1_beginTown_21 : decode cX1_beginTown 21 = .ok (.aload_n 0, 1) := by decide +kernel
theorem dX1_beginTown_22 : decode cX1_beginTown 22 = .ok (.getfield 9, 3) := by decide +kernel
theorem dX1_beginTown_25 : decode cX1_beginTown 25 = .ok (.iconst 0, 1) := by decide +kernel
theorem dX1_beginTown_26 : decode cX1_beginTown 26 = .ok (.bipush 8, 2) := by decide +kernel
theorem dX1_beginTown_28 : decode cX1_beginTown 28 = .ok (.invokestatic 45, 3) := by decide +kernel
theorem dX1_beginTown_31 : decode cX1_beginTown 31 = .ok (.aload_n 0, 1) := by decide +kernel
theorem dX1_beginTown_32 : decode cX1_beginTown 32 = .ok (.iconst 0, 1) := by decide +kernel
theorem dX1_beginTown_33 : decode cX1_beginTown 33 = .ok (.putfield 51, 3) := by decide +kernel
theorem dX1_beginTown_36 : decode cX1_beginTown 36 = .ok (.aload_n 0, 1) := by decide +kernel
theorem dX1_beginTown_37 : decode cX1_beginTown 37 = .ok (.iconst 0, 1) := by decide +kernel
theorem dX1_beginTown_38 : decode cX1_beginTown 38 = .ok (.putfield 54, 3) := by decide +kernel
theorem dX1_beginTown_41 : decode cX1_beginTown 41 = .ok (.return_, 1) := by decide +kernel
theorem dX1_become_0 : decode cX1_become 0 = .ok (.aload_n 0, 1) := by decide +kernel
theorem dX1_become_1 : decode cX1_become 1 = .ok (.iconst 1, 1) := by decide +kernel
theorem dX1_become_2 : decode cX1_become 2 = .ok (.putfield 57, 3) := by decide +kernel
theorem dX1_become_5 : decode cX1_become 5 = .ok (.aload_n 0, 1) := by decide +kernel
theorem dX1_become_6 : decode cX1_become 6 = .ok (.aload_n 1, 1) := by decide +kernel
theorem dX1_become_7 : decode cX1_become 7 = .ok (.getfield 33, 3) := by decide +kernel
theorem dX1_become_10 : decode cX1_become 10 = .ok (.putfield 33, 3) := by decide +kernel
theorem dX1_become_13 : decode cX1_become 13 = .ok (.aload_n 0, 1) := by decide +kernel
theorem dX1_become_14 : decode cX1_become 14 = .ok (.aload_n 1, 1) := by decide +kernel
theorem dX1_become_15 : decode cX1_become 15 = .ok (.getfield 43, 3) := by decide +kernel
theorem dX1_become_18 : decode cX1_become 18 = .ok (.putfield 43, 3) := by decide +kernel
theorem dX1_become_21 : decode cX1_become 21 = .ok (.aload_n 1, 1) := by decide +kernel
theorem dX1_become_22 : decode cX1_become 22 = .ok (.getfield 9, 3) := by decide +kernel
theorem dX1_become_25 : decode cX1_become 25 = .ok (.iconst 0, 1) := by decide +kernel
theorem dX1_become_26 : decode cX1_become 26 = .ok (.aload_n 0, 1) := by decide +kernel
theorem dX1_become_27 : decode cX1_become 27 = .ok (.getfield 9, 3) := by decide +kernel
theorem dX1_become_30 : decode cX1_become 30 = .ok (.iconst 0, 1) := by decide +kernel
theorem dX1_become_31 : decode cX1_become 31 = .ok (.bipush 8, 2) := by decide +kernel
theorem dX1_become_33 : decode cX1_become 33 = .ok (.invokestatic 45, 3) := by decide +kernel
theorem dX1_become_36 : decode cX1_become 36 = .ok (.aload_n 0, 1) := by decide +kernel
theorem dX1_become_37 : decode cX1_become 37 = .ok (.aload_n 1, 1) := by decide +kernel
theorem dX1_become_38 : decode cX1_become 38 = .ok (.getfield 51, 3) := by decide +kernel
theorem dX1_become_41 : decode cX1_become 41 = .ok (.putfield 51, 3) := by decide +kernel
theorem dX1_become_44 : decode cX1_become 44 = .ok (.aload_n 1, 1) := by decide +kernel
theorem dX1_become_45 : decode cX1_become 45 = .ok (.getfield 15, 3) := by decide +kernel
theorem dX1_become_48 : decode cX1_become 48 = .ok (.iconst 0, 1) := by decide +kernel
theorem dX1_become_49 : decode cX1_become 49 = .ok (.aload_n 0, 1) := by decide +kernel
theorem dX1_become_50 : decode cX1_become 50 = .ok (.getfield 15, 3) := by decide +kernel
theorem dX1_become_53 : decode cX1_become 53 = .ok (.iconst 0, 1) := by decide +kernel
theorem dX1_become_54 : decode cX1_become 54 = .ok (.bipush 32, 2) := by decide +kernel
theorem dX1_become_56 : decode cX1_become 56 = .ok (.invokestatic 45, 3) := by decide +kernel
theorem dX1_become_59 : decode cX1_become 59 = .ok (.aload_n 1, 1) := by decide +kernel
theorem dX1_become_60 : decode cX1_become 60 = .ok (.getfield 18, 3) := by decide +kernel
theorem dX1_become_63 : decode cX1_become 63 = .ok (.iconst 0, 1) := by decide +kernel
theorem dX1_become_64 : decode cX1_become 64 = .ok (.aload_n 0, 1) := by decide +kernel
theorem dX1_become_65 : decode cX1_become 65 = .ok (.getfield 18, 3) := by decide +kernel
theorem dX1_become_68 : decode cX1_become 68 = .ok (.iconst 0, 1) := by decide +kernel
theorem dX1_become_69 : decode cX1_become 69 = .ok (.bipush 32, 2) := by decide +kernel
theorem dX1_become_71 : decode cX1_become 71 = .ok (.invokestatic 45, 3) := by decide +kernel
theorem dX1_become_74 : decode cX1_become 74 = .ok (.aload_n 1, 1) := by decide +kernel
theorem dX1_become_75 : decode cX1_become 75 = .ok (.getfield 21, 3) := by decide +kernel
theorem dX1_become_78 : decode cX1_become 78 = .ok (.iconst 0, 1) := by decide +kernel
theorem dX1_become_79 : decode cX1_become 79 = .ok (.aload_n 0, 1) := by decide +kernel
theorem dX1_become_80 : decode cX1_become 80 = .ok (.getfield 21, 3) := by decide +kernel
theorem dX1_become_83 : decode cX1_become 83 = .ok (.iconst 0, 1) := by decide +kernel
theorem dX1_become_84 : decode cX1_become 84 = .ok (.bipush 32, 2) := by decide +kernel
theorem dX1_become_86 : decode cX1_become 86 = .ok (.invokestatic 45, 3) := by decide +kernel
theorem dX1_become_89 : decode cX1_become 89 = .ok (.aload_n 1, 1) := by decide +kernel
theorem dX1_become_90 : decode cX1_become 90 = .ok (.getfield 24, 3) := by decide +kernel
theorem dX1_become_93 : decode cX1_become 93 = .ok (.iconst 0, 1) := by decide +kernel
theorem dX1_become_94 : decode cX1_become 94 = .ok (.aload_n 0, 1) := by decide +kernel
theorem dX1_become_95 : decode cX1_become 95 = .ok (.getfield 24, 3) := by decide +kernel
theorem dX1_become_98 : decode cX1_become 98 = .ok (.iconst 0, 1) := by decide +kernel
theorem dX1_become_99 : decode cX1_become 99 = .ok (.bipush 32, 2) := by decide +kernel
theorem dX1_become_101 : decode cX1_become 101 = .ok (.invokestatic 45, 3) := by decide +kernel
theorem dX1_become_104 : decode cX1_become 104 = .ok (.aload_n 0, 1) := by decide +kernel
theorem dX1_become_105 : decode cX1_become 105 = .ok (.aload_n 1, 1) := by decide +kernel
theorem dX1_become_106 : decode cX1_become 106 = .ok (.getfield 54, 3) := by decide +kernel
theorem dX1_become_109 : decode cX1_become 109 = .ok (.putfield 54, 3) := by decide +kernel
theorem dX1_become_112 : decode cX1_become 112 = .ok (.aload_n 1, 1) := by decide +kernel
theorem dX1_become_113 : decode cX1_become 113 = .ok (.getfield 27, 3) := by decide +kernel
theorem dX1_become_116 : decode cX1_become 116 = .ok (.iconst 0, 1) := by decide +kernel
theorem dX1_become_117 : decode cX1_become 117 = .ok (.aload_n 0, 1) := by decide +kernel
theorem dX1_become_118 : decode cX1_become 118 = .ok (.getfield 27, 3) := by decide +kernel
theorem dX1_become_121 : decode cX1_become 121 = .ok (.iconst 0, 1) := by decide +kernel
theorem dX1_become_122 : decode cX1_become 122 = .ok (.bipush 8, 2) := by decide +kernel
theorem dX1_become_124 : decode cX1_become 124 = .ok (.invokestatic 45, 3) := by decide +kernel
theorem dX1_become_127 : decode cX1_become 127 = .ok (.aload_n 1, 1) := by decide +kernel
theorem dX1_become_128 : decode cX1_become 128 = .ok (.getfield 30, 3) := by decide +kernel
theorem dX1_become_131 : decode cX1_become 131 = .ok (.iconst 0, 1) := by decide +kernel
theorem dX1_become_132 : decode cX1_become 132 = .ok (.aload_n 0, 1) := by decide +kernel
theorem dX1_become_133 : decode cX1_become 133 = .ok (.getfield 30, 3) := by decide +kernel
theorem dX1_become_136 : decode cX1_become 136 = .ok (.iconst 0, 1) := by decide +kernel
theorem dX1_become_137 : decode cX1_become 137 = .ok (.bipush 8, 2) := by decide +kernel
theorem dX1_become_139 : decode cX1_become 139 = .ok (.invokestatic 45, 3) := by decide +kernel
theorem dX1_become_142 : decode cX1_become 142 = .ok (.return_, 1) := by decide +kernel
set_option maxRecDepth 20000 in
theorem ggX1_addMeeting_X8_makeMeeting : GoodIn wsX1_addMeeting wsX8_makeMeeting := goodIn_r _ [10, 11, 12, 9, 13, 14, 15, 16, 17, 18, 19, 20, 21, 22, 23, 24, 25, 26, 27, 28, 29, 30, 31, 32, 33, 34] (by decide +kernel) (by decide +kernel)
set_option maxRecDepth 20000 in
theorem gX1_addMeeting_X8_makeMeeting_n61 : GoodIn wsX1_addMeeting (wsX8_makeMeeting) := ggX1_addMeeting_X8_makeMeeting
theorem dX1_addMeeting_0 : decode cX1_addMeeting 0 = .ok (.aload_n 0, 1) := by decide +kernel
theorem dX1_addMeeting_1 : decode cX1_addMeeting 1 = .ok (.getfield 51, 3) := by decide +kernel
theorem dX1_addMeeting_4 : decode cX1_addMeeting 4 = .ok (.bipush 32, 2) := by decide +kernel
theorem dX1_addMeeting_6 : decode cX1_addMeeting 6 = .ok (.if_icmp .lt 4, 3) := by decide +kernel
theorem dX1_addMeeting_9 : decode cX1_addMeeting 9 = .ok (.return_, 1) := by decide +kernel
theorem dX1_addMeeting_10 : decode cX1_addMeeting 10 = .ok (.aload_n 0, 1) := by decide +kernel
theorem dX1_addMeeting_11 : decode cX1_addMeeting 11 = .ok (.getfield 15, 3) := by decide +kernel
theorem dX1_addMeeting_14 : decode cX1_addMeeting 14 = .ok (.aload_n 0, 1) := by decide +kernel
theorem dX1_addMeeting_15 : decode cX1_addMeeting 15 = .ok (.getfield 51, 3) := by decide +kernel
theorem dX1_addMeeting_18 : decode cX1_addMeeting 18 = .ok (.iload_n 1, 1) := by decide +kernel
theorem dX1_addMeeting_19 : decode cX1_addMeeting 19 = .ok (.iastore, 1) := by decide +kernel
theorem dX1_addMeeting_20 : decode cX1_addMeeting 20 = .ok (.aload_n 0, 1) := by decide +kernel
theorem dX1_addMeeting_21 : decode cX1_addMeeting 21 = .ok (.getfield 18, 3) := by decide +kernel
theorem dX1_addMeeting_24 : decode cX1_addMeeting 24 = .ok (.aload_n 0, 1) := by decide +kernel
theorem dX1_addMeeting_25 : decode cX1_addMeeting 25 = .ok (.getfield 51, 3) := by decide +kernel
theorem dX1_addMeeting_28 : decode cX1_addMeeting 28 = .ok (.iload_n 2, 1) := by decide +kernel
theorem dX1_addMeeting_29 : decode cX1_addMeeting 29 = .ok (.iastore, 1) := by decide +kernel
theorem dX1_addMeeting_30 : decode cX1_addMeeting 30 = .ok (.aload_n 0, 1) := by decide +kernel
theorem dX1_addMeeting_31 : decode cX1_addMeeting 31 = .ok (.getfield 21, 3) := by decide +kernel
theorem dX1_addMeeting_34 : decode cX1_addMeeting 34 = .ok (.aload_n 0, 1) := by decide +kernel
theorem dX1_addMeeting_35 : decode cX1_addMeeting 35 = .ok (.getfield 51, 3) := by decide +kernel
theorem dX1_addMeeting_38 : decode cX1_addMeeting 38 = .ok (.aload_n 0, 1) := by decide +kernel
theorem dX1_addMeeting_39 : decode cX1_addMeeting 39 = .ok (.getfield 9, 3) := by decide +kernel
theorem dX1_addMeeting_42 : decode cX1_addMeeting 42 = .ok (.iload_n 1, 1) := by decide +kernel
theorem dX1_addMeeting_43 : decode cX1_addMeeting 43 = .ok (.iaload, 1) := by decide +kernel
theorem dX1_addMeeting_44 : decode cX1_addMeeting 44 = .ok (.iastore, 1) := by decide +kernel
theorem dX1_addMeeting_45 : decode cX1_addMeeting 45 = .ok (.aload_n 0, 1) := by decide +kernel
theorem dX1_addMeeting_46 : decode cX1_addMeeting 46 = .ok (.getfield 24, 3) := by decide +kernel
theorem dX1_addMeeting_49 : decode cX1_addMeeting 49 = .ok (.aload_n 0, 1) := by decide +kernel
theorem dX1_addMeeting_50 : decode cX1_addMeeting 50 = .ok (.getfield 51, 3) := by decide +kernel
theorem dX1_addMeeting_53 : decode cX1_addMeeting 53 = .ok (.aload_n 0, 1) := by decide +kernel
theorem dX1_addMeeting_54 : decode cX1_addMeeting 54 = .ok (.getfield 9, 3) := by decide +kernel
theorem dX1_addMeeting_57 : decode cX1_addMeeting 57 = .ok (.iload_n 2, 1) := by decide +kernel
theorem dX1_addMeeting_58 : decode cX1_addMeeting 58 = .ok (.iaload, 1) := by decide +kernel
theorem dX1_addMeeting_59 : decode cX1_addMeeting 59 = .ok (.iastore, 1) := by decide +kernel
theorem dX1_addMeeting_60 : decode cX1_addMeeting 60 = .ok (.aload_n 0, 1) := by decide +kernel
theorem dX1_addMeeting_61 : decode cX1_addMeeting 61 = .ok (.dup, 1) := by decide +kernel
theorem dX1_addMeeting_62 : decode cX1_addMeeting 62 = .ok (.getfield 51, 3) := by decide +kernel
theorem dX1_addMeeting_65 : decode cX1_addMeeting 65 = .ok (.iconst 1, 1) := by decide +kernel
theorem dX1_addMeeting_66 : decode cX1_addMeeting 66 = .ok (.iadd, 1) := by decide +kernel
theorem dX1_addMeeting_67 : decode cX1_addMeeting 67 = .ok (.putfield 51, 3) := by decide +kernel
theorem dX1_addMeeting_70 : decode cX1_addMeeting 70 = .ok (.aload_n 0, 1) := by decide +kernel
theorem dX1_addMeeting_71 : decode cX1_addMeeting 71 = .ok (.getfield 9, 3) := by decide +kernel
theorem dX1_addMeeting_74 : decode cX1_addMeeting 74 = .ok (.aload_n 0, 1) := by decide +kernel
theorem dX1_addMeeting_75 : decode cX1_addMeeting 75 = .ok (.getfield 43, 3) := by decide +kernel
theorem dX1_addMeeting_78 : decode cX1_addMeeting 78 = .ok (.iload_n 1, 1) := by decide +kernel
theorem dX1_addMeeting_79 : decode cX1_addMeeting 79 = .ok (.iload_n 2, 1) := by decide +kernel
theorem dX1_addMeeting_80 : decode cX1_addMeeting 80 = .ok (.invokestatic 61, 3) := by decide +kernel
theorem dX1_addMeeting_83 : decode cX1_addMeeting 83 = .ok (.pop, 1) := by decide +kernel
theorem dX1_addMeeting_84 : decode cX1_addMeeting 84 = .ok (.return_, 1) := by decide +kernel
theorem dX1_takeBack_0 : decode cX1_takeBack 0 = .ok (.aload_n 0, 1) := by decide +kernel
theorem dX1_takeBack_1 : decode cX1_takeBack 1 = .ok (.getfield 51, 3) := by decide +kernel
theorem dX1_takeBack_4 : decode cX1_takeBack 4 = .ok (.iconst 1, 1) := by decide +kernel
theorem dX1_takeBack_5 : decode cX1_takeBack 5 = .ok (.if_icmp .ge 4, 3) := by decide +kernel
theorem dX1_takeBack_8 : decode cX1_takeBack 8 = .ok (.return_, 1) := by decide +kernel
theorem dX1_takeBack_9 : decode cX1_takeBack 9 = .ok (.aload_n 0, 1) := by decide +kernel
theorem dX1_takeBack_10 : decode cX1_takeBack 10 = .ok (.dup, 1) := by decide +kernel
theorem dX1_takeBack_11 : decode cX1_takeBack 11 = .ok (.getfield 51, 3) := by decide +kernel
theorem dX1_takeBack_14 : decode cX1_takeBack 14 = .ok (.iconst 1, 1) := by decide +kernel
theorem dX1_takeBack_15 : decode cX1_takeBack 15 = .ok (.isub, 1) := by decide +kernel
theorem dX1_takeBack_16 : decode cX1_takeBack 16 = .ok (.putfield 51, 3) := by decide +kernel
theorem dX1_takeBack_19 : decode cX1_takeBack 19 = .ok (.aload_n 0, 1) := by decide +kernel
theorem dX1_takeBack_20 : decode cX1_takeBack 20 = .ok (.getfield 9, 3) := by decide +kernel
theorem dX1_takeBack_23 : decode cX1_takeBack 23 = .ok (.aload_n 0, 1) := by decide +kernel
theorem dX1_takeBack_24 : decode cX1_takeBack 24 = .ok (.getfield 15, 3) := by decide +kernel
theorem dX1_takeBack_27 : decode cX1_takeBack 27 = .ok (.aload_n 0, 1) := by decide +kernel
theorem dX1_takeBack_28 : decode cX1_takeBack 28 = .ok (.getfield 51, 3) := by decide +kernel
theorem dX1_takeBack_31 : decode cX1_takeBack 31 = .ok (.iaload, 1) := by decide +kernel
theorem dX1_takeBack_32 : decode cX1_takeBack 32 = .ok (.aload_n 0, 1) := by decide +kernel
theorem dX1_takeBack_33 : decode cX1_takeBack 33 = .ok (.getfield 21, 3) := by decide +kernel
theorem dX1_takeBack_36 : decode cX1_takeBack 36 = .ok (.aload_n 0, 1) := by decide +kernel
theorem dX1_takeBack_37 : decode cX1_takeBack 37 = .ok (.getfield 51, 3) := by decide +kernel
theorem dX1_takeBack_40 : decode cX1_takeBack 40 = .ok (.iaload, 1) := by decide +kernel
theorem dX1_takeBack_41 : decode cX1_takeBack 41 = .ok (.iastore, 1) := by decide +kernel
theorem dX1_takeBack_42 : decode cX1_takeBack 42 = .ok (.aload_n 0, 1) := by decide +kernel
theorem dX1_takeBack_43 : decode cX1_takeBack 43 = .ok (.getfield 9, 3) := by decide +kernel
theorem dX1_takeBack_46 : decode cX1_takeBack 46 = .ok (.aload_n 0, 1) := by decide +kernel
theorem dX1_takeBack_47 : decode cX1_takeBack 47 = .ok (.getfield 18, 3) := by decide +kernel
theorem dX1_takeBack_50 : decode cX1_takeBack 50 = .ok (.aload_n 0, 1) := by decide +kernel
theorem dX1_takeBack_51 : decode cX1_takeBack 51 = .ok (.getfield 51, 3) := by decide +kernel
theorem dX1_takeBack_54 : decode cX1_takeBack 54 = .ok (.iaload, 1) := by decide +kernel
theorem dX1_takeBack_55 : decode cX1_takeBack 55 = .ok (.aload_n 0, 1) := by decide +kernel
theorem dX1_takeBack_56 : decode cX1_takeBack 56 = .ok (.getfield 24, 3) := by decide +kernel
theorem dX1_takeBack_59 : decode cX1_takeBack 59 = .ok (.aload_n 0, 1) := by decide +kernel
theorem dX1_takeBack_60 : decode cX1_takeBack 60 = .ok (.getfield 51, 3) := by decide +kernel
theorem dX1_takeBack_63 : decode cX1_takeBack 63 = .ok (.iaload, 1) := by decide +kernel
theorem dX1_takeBack_64 : decode cX1_takeBack 64 = .ok (.iastore, 1) := by decide +kernel
theorem dX1_takeBack_65 : decode cX1_takeBack 65 = .ok (.return_, 1) := by decide +kernel
theorem dX1_addSeen_0 : decode cX1_addSeen 0 = .ok (.aload_n 0, 1) := by decide +kernel
theorem dX1_addSeen_1 : decode cX1_addSeen 1 = .ok (.getfield 54, 3) := by decide +kernel
theorem dX1_addSeen_4 : decode cX1_addSeen 4 = .ok (.bipush 8, 2) := by decide +kernel
theorem dX1_addSeen_6 : decode cX1_addSeen 6 = .ok (.if_icmp .lt 4, 3) := by decide +kernel
theorem dX1_addSeen_9 : decode cX1_addSeen 9 = .ok (.return_, 1) := by decide +kernel
theorem dX1_addSeen_10 : decode cX1_addSeen 10 = .ok (.aload_n 0, 1) := by decide +kernel
theorem dX1_addSeen_11 : decode cX1_addSeen 11 = .ok (.getfield 27, 3) := by decide +kernel
theorem dX1_addSeen_14 : decode cX1_addSeen 14 = .ok (.aload_n 0, 1) := by decide +kernel
theorem dX1_addSeen_15 : decode cX1_addSeen 15 = .ok (.getfield 54, 3) := by decide +kernel
theorem dX1_addSeen_18 : decode cX1_addSeen 18 = .ok (.iload_n 1, 1) := by decide +kernel
theorem dX1_addSeen_19 : decode cX1_addSeen 19 = .ok (.iastore, 1) := by decide +kernel
theorem dX1_addSeen_20 : decode cX1_addSeen 20 = .ok (.aload_n 0, 1) := by decide +kernel
theorem dX1_addSeen_21 : decode cX1_addSeen 21 = .ok (.getfield 30, 3) := by decide +kernel
theorem dX1_addSeen_24 : decode cX1_addSeen 24 = .ok (.aload_n 0, 1) := by decide +kernel
theorem dX1_addSeen_25 : decode cX1_addSeen 25 = .ok (.getfield 54, 3) := by decide +kernel
theorem dX1_addSeen_28 : decode cX1_addSeen 28 = .ok (.iload_n 2, 1) := by decide +kernel
theorem dX1_addSeen_29 : decode cX1_addSeen 29 = .ok (.iastore, 1) := by decide +kernel
theorem dX1_addSeen_30 : decode cX1_addSeen 30 = .ok (.aload_n 0, 1) := by decide +kernel
theorem dX1_addSeen_31 : decode cX1_addSeen 31 = .ok (.dup, 1) := by decide +kernel
theorem dX1_addSeen_32 : decode cX1_addSeen 32 = .ok (.getfield 54, 3) := by decide +kernel
theorem dX1_addSeen_35 : decode cX1_addSeen 35 = .ok (.iconst 1, 1) := by decide +kernel
theorem dX1_addSeen_36 : decode cX1_addSeen 36 = .ok (.iadd, 1) := by decide +kernel
theorem dX1_addSeen_37 : decode cX1_addSeen 37 = .ok (.putfield 54, 3) := by decide +kernel
theorem dX1_addSeen_40 : decode cX1_addSeen 40 = .ok (.return_, 1) := by decide +kernel
theorem dX1_sumOfPurses_0 : decode cX1_sumOfPurses 0 = .ok (.iconst 0, 1) := by decide +kernel
theorem dX1_sumOfPurses_1 : decode cX1_sumOfPurses 1 = .ok (.istore_n 1, 1) := by decide +kernel
theorem dX1_sumOfPurses_2 : decode cX1_sumOfPurses 2 = .ok (.iconst 0, 1) := by decide +kernel
theorem dX1_sumOfPurses_3 : decode cX1_sumOfPurses 3 = .ok (.istore_n 2, 1) := by decide +kernel
theorem dX1_sumOfPurses_4 : decode cX1_sumOfPurses 4 = .ok (.iload_n 2, 1) := by decide +kernel
theorem dX1_sumOfPurses_5 : decode cX1_sumOfPurses 5 = .ok (.aload_n 0, 1) := by decide +kernel
theorem dX1_sumOfPurses_6 : decode cX1_sumOfPurses 6 = .ok (.getfield 33, 3) := by decide +kernel
theorem dX1_sumOfPurses_9 : decode cX1_sumOfPurses 9 = .ok (.if_icmp .ge 18, 3) := by decide +kernel
theorem dX1_sumOfPurses_12 : decode cX1_sumOfPurses 12 = .ok (.iload_n 1, 1) := by decide +kernel
theorem dX1_sumOfPurses_13 : decode cX1_sumOfPurses 13 = .ok (.aload_n 0, 1) := by decide +kernel
theorem dX1_sumOfPurses_14 : decode cX1_sumOfPurses 14 = .ok (.getfield 9, 3) := by decide +kernel
theorem dX1_sumOfPurses_17 : decode cX1_sumOfPurses 17 = .ok (.iload_n 2, 1) := by decide +kernel
theorem dX1_sumOfPurses_18 : decode cX1_sumOfPurses 18 = .ok (.iaload, 1) := by decide +kernel
theorem dX1_sumOfPurses_19 : decode cX1_sumOfPurses 19 = .ok (.iadd, 1) := by decide +kernel
theorem dX1_sumOfPurses_20 : decode cX1_sumOfPurses 20 = .ok (.istore_n 1, 1) := by decide +kernel
theorem dX1_sumOfPurses_21 : decode cX1_sumOfPurses 21 = .ok (.iinc 2 1, 3) := by decide +kernel
theorem dX1_sumOfPurses_24 : decode cX1_sumOfPurses 24 = .ok (.goto (-20), 3) := by decide +kernel
theorem dX1_sumOfPurses_27 : decode cX1_sumOfPurses 27 = .ok (.iload_n 1, 1) := by decide +kernel
theorem dX1_sumOfPurses_28 : decode cX1_sumOfPurses 28 = .ok (.ireturn, 1) := by decide +kernel
theorem dX2_init_0 : decode cX2_init 0 = .ok (.aload_n 0, 1) := by decide +kernel
theorem dX2_init_1 : decode cX2_init 1 = .ok (.invokespecial 3, 3) := by decide +kernel
theorem dX2_init_4 : decode cX2_init 4 = .ok (.aload_n 0, 1) := by decide +kernel
theorem dX2_init_5 : decode cX2_init 5 = .ok (.bipush 16, 2) := by decide +kernel
theorem dX2_init_7 : decode cX2_init 7 = .ok (.newarray .int, 2) := by decide +kernel
theorem dX2_init_9 : decode cX2_init 9 = .ok (.putfield 9, 3) := by decide +kernel
theorem dX2_init_12 : decode cX2_init 12 = .ok (.aload_n 0, 1) := by decide +kernel
theorem dX2_init_13 : decode cX2_init 13 = .ok (.bipush 16, 2) := by decide +kernel
theorem dX2_init_15 : decode cX2_init 15 = .ok (.newarray .int, 2) := by decide +kernel
theorem dX2_init_17 : decode cX2_init 17 = .ok (.putfield 15, 3) := by decide +kernel
theorem dX2_init_20 : decode cX2_init 20 = .ok (.return_, 1) := by decide +kernel
theorem dX2_has_0 : decode cX2_has 0 = .ok (.iload_n 1, 1) := by decide +kernel
theorem dX2_has_1 : decode cX2_has 1 = .ok (.ifCond .lt 15, 3) := by decide +kernel
theorem dX2_has_4 : decode cX2_has 4 = .ok (.iload_n 1, 1) := by decide +kernel
theorem dX2_has_5 : decode cX2_has 5 = .ok (.aload_n 0, 1) := by decide +kernel
theorem dX2_has_6 : decode cX2_has 6 = .ok (.getfield 18, 3) := by decide +kernel
theorem dX2_has_9 : decode cX2_has 9 = .ok (.if_icmp .ge 7, 3) := by decide +kernel
theorem dX2_has_12 : decode cX2_has 12 = .ok (.iconst 1, 1) := by decide +kernel
theorem dX2_has_13 : decode cX2_has 13 = .ok (.goto 4, 3) := by decide +kernel
theorem dX2_has_16 : decode cX2_has 16 = .ok (.iconst 0, 1) := by decide +kernel
theorem dX2_has_17 : decode cX2_has 17 = .ok (.ireturn, 1) := by decide +kernel
theorem dX2_add_0 : decode cX2_add 0 = .ok (.aload_n 0, 1) := by decide +kernel
theorem dX2_add_1 : decode cX2_add 1 = .ok (.getfield 18, 3) := by decide +kernel
theorem dX2_add_4 : decode cX2_add 4 = .ok (.bipush 16, 2) := by decide +kernel
theorem dX2_add_6 : decode cX2_add 6 = .ok (.if_icmp .lt 4, 3) := by decide +kernel
theorem dX2_add_9 : decode cX2_add 9 = .ok (.return_, 1) := by decide +kernel
theorem dX2_add_10 : decode cX2_add 10 = .ok (.aload_n 0, 1) := by decide +kernel
theorem dX2_add_11 : decode cX2_add 11 = .ok (.getfield 9, 3) := by decide +kernel
theorem dX2_add_14 : decode cX2_add 14 = .ok (.aload_n 0, 1) := by decide +kernel
theorem dX2_add_15 : decode cX2_add 15 = .ok (.getfield 18, 3) := by decide +kernel
theorem dX2_add_18 : decode cX2_add 18 = .ok (.iload_n 1, 1) := by decide +kernel
theorem dX2_add_19 : decode cX2_add 19 = .ok (.iastore, 1) := by decide +kernel
theorem dX2_add_20 : decode cX2_add 20 = .ok (.aload_n 0, 1) := by decide +kernel
theorem dX2_add_21 : decode cX2_add 21 = .ok (.getfield 15, 3) := by decide +kernel
theorem dX2_add_24 : decode cX2_add 24 = .ok (.aload_n 0, 1) := by decide +kernel
theorem dX2_add_25 : decode cX2_add 25 = .ok (.getfield 18, 3) := by decide +kernel
theorem dX2_add_28 : decode cX2_add 28 = .ok (.iload_n 2, 1) := by decide +kernel
theorem dX2_add_29 : decode cX2_add 29 = .ok (.iastore, 1) := by decide +kernel
theorem dX2_add_30 : decode cX2_add 30 = .ok (.aload_n 0, 1) := by decide +kernel
theorem dX2_add_31 : decode cX2_add 31 = .ok (.dup, 1) := by decide +kernel
theorem dX2_add_32 : decode cX2_add 32 = .ok (.getfield 18, 3) := by decide +kernel
theorem dX2_add_35 : decode cX2_add 35 = .ok (.iconst 1, 1) := by decide +kernel
theorem dX2_add_36 : decode cX2_add 36 = .ok (.iadd, 1) := by decide +kernel
theorem dX2_add_37 : decode cX2_add 37 = .ok (.putfield 18, 3) := by decide +kernel
theorem dX2_add_40 : decode cX2_add 40 = .ok (.return_, 1) := by decide +kernel
theorem dX2_become_0 : decode cX2_become 0 = .ok (.aload_n 1, 1) := by decide +kernel
theorem dX2_become_1 : decode cX2_become 1 = .ok (.getfield 9, 3) := by decide +kernel
theorem dX2_become_4 : decode cX2_become 4 = .ok (.iconst 0, 1) := by decide +kernel
theorem dX2_become_5 : decode cX2_become 5 = .ok (.aload_n 0, 1) := by decide +kernel
theorem dX2_become_6 : decode cX2_become 6 = .ok (.getfield 9, 3) := by decide +kernel
theorem dX2_become_9 : decode cX2_become 9 = .ok (.iconst 0, 1) := by decide +kernel
theorem dX2_become_10 : decode cX2_become 10 = .ok (.bipush 16, 2) := by decide +kernel
theorem dX2_become_12 : decode cX2_become 12 = .ok (.invokestatic 22, 3) := by decide +kernel
theorem dX2_become_15 : decode cX2_become 15 = .ok (.aload_n 1, 1) := by decide +kernel
theorem dX2_become_16 : decode cX2_become 16 = .ok (.getfield 15, 3) := by decide +kernel
theorem dX2_become_19 : decode cX2_become 19 = .ok (.iconst 0, 1) := by decide +kernel
theorem dX2_become_20 : decode cX2_become 20 = .ok (.aload_n 0, 1) := by decide +kernel
theorem dX2_become_21 : decode cX2_become 21 = .ok (.getfield 15, 3) := by decide +kernel
theorem dX2_become_24 : decode cX2_become 24 = .ok (.iconst 0, 1) := by decide +kernel
theorem dX2_become_25 : decode cX2_become 25 = .ok (.bipush 16, 2) := by decide +kernel
theorem dX2_become_27 : decode cX2_become 27 = .ok (.invokestatic 22, 3) := by decide +kernel
theorem dX2_become_30 : decode cX2_become 30 = .ok (.aload_n 0, 1) := by decide +kernel
theorem dX2_become_31 : decode cX2_become 31 = .ok (.aload_n 1, 1) := by decide +kernel
theorem dX2_become_32 : decode cX2_become 32 = .ok (.getfield 18, 3) := by decide +kernel
theorem dX2_become_35 : decode cX2_become 35 = .ok (.putfield 18, 3) := by decide +kernel
theorem dX2_become_38 : decode cX2_become 38 = .ok (.return_, 1) := by decide +kernel
set_option maxRecDepth 20000 in
theorem ggX2_makeOne_X8_makeMeeting : GoodIn wsX2_makeOne wsX8_makeMeeting := goodIn_r _ [5, 6, 7, 4, 8, 9, 10, 11, 12, 13, 14, 15, 16, 17, 18, 19, 20, 21, 22, 23, 24, 25, 26, 27, 28, 29] (by decide +kernel) (by decide +kernel)
set_option maxRecDepth 20000 in
theorem gX2_makeOne_X8_makeMeeting_n28 : GoodIn wsX2_makeOne (wsX8_makeMeeting) := ggX2_makeOne_X8_makeMeeting
theorem dX2_makeOne_0 : decode cX2_makeOne 0 = .ok (.aload_n 2, 1) := by decide +kernel
theorem dX2_makeOne_1 : decode cX2_makeOne 1 = .ok (.iload_n 3, 1) := by decide +kernel
theorem dX2_makeOne_2 : decode cX2_makeOne 2 = .ok (.aload_n 0, 1) := by decide +kernel
theorem dX2_makeOne_3 : decode cX2_makeOne 3 = .ok (.getfield 9, 3) := by decide +kernel
theorem dX2_makeOne_6 : decode cX2_makeOne 6 = .ok (.iload_n 1, 1) := by decide +kernel
theorem dX2_makeOne_7 : decode cX2_makeOne 7 = .ok (.iaload, 1) := by decide +kernel
theorem dX2_makeOne_8 : decode cX2_makeOne 8 = .ok (.aload_n 0, 1) := by decide +kernel
theorem dX2_makeOne_9 : decode cX2_makeOne 9 = .ok (.getfield 15, 3) := by decide +kernel
theorem dX2_makeOne_12 : decode cX2_makeOne 12 = .ok (.iload_n 1, 1) := by decide +kernel
theorem dX2_makeOne_13 : decode cX2_makeOne 13 = .ok (.iaload, 1) := by decide +kernel
theorem dX2_makeOne_14 : decode cX2_makeOne 14 = .ok (.invokestatic 28, 3) := by decide +kernel
theorem dX2_makeOne_17 : decode cX2_makeOne 17 = .ok (.ireturn, 1) := by decide +kernel
set_option maxRecDepth 20000 in
theorem ggX2_makeAll_X2_makeOne : GoodIn wsX2_makeAll wsX2_makeOne := goodIn_r _ [6, 7, 8, 9, 10, 11, 12, 13, 14, 15, 16, 17, 18, 19, 20, 21, 22, 23, 24, 25, 26, 27, 28, 29, 30, 31, 32, 33, 34, 35, 36, 37, 38] (by decide +kernel) (by decide +kernel)
set_option maxRecDepth 20000 in
theorem gX2_makeAll_X2_makeOne : GoodIn wsX2_makeAll (wsV RX2 32 RX2 yX2_makeOne wsX2_makeOne) := goodIn_app (goodIn_of _ (by decide +kernel)) ggX2_makeAll_X2_makeOne
theorem dX2_makeAll_0 : decode cX2_makeAll 0 = .ok (.iconst 0, 1) := by decide +kernel
theorem dX2_makeAll_1 : decode cX2_makeAll 1 = .ok (.istore_n 3, 1) := by decide +kernel
theorem dX2_makeAll_2 : decode cX2_makeAll 2 = .ok (.iconst 0, 1) := by decide +kernel
theorem dX2_makeAll_3 : decode cX2_makeAll 3 = .ok (.istore 4, 2) := by decide +kernel
theorem dX2_makeAll_5 : decode cX2_makeAll 5 = .ok (.iload 4, 2) := by decide +kernel
theorem dX2_makeAll_7 : decode cX2_makeAll 7 = .ok (.aload_n 0, 1) := by decide +kernel
theorem dX2_makeAll_8 : decode cX2_makeAll 8 = .ok (.getfield 18, 3) := by decide +kernel
theorem dX2_makeAll_11 : decode cX2_makeAll 11 = .ok (.if_icmp .ge 23, 3) := by decide +kernel
theorem dX2_makeAll_14 : decode cX2_makeAll 14 = .ok (.aload_n 0, 1) := by decide +kernel
theorem dX2_makeAll_15 : decode cX2_makeAll 15 = .ok (.iload 4, 2) := by decide +kernel
theorem dX2_makeAll_17 : decode cX2_makeAll 17 = .ok (.aload_n 1, 1) := by decide +kernel
theorem dX2_makeAll_18 : decode cX2_makeAll 18 = .ok (.iload_n 2, 1) := by decide +kernel
theorem dX2_makeAll_19 : decode cX2_makeAll 19 = .ok (.invokevirtual 32, 3) := by decide +kernel
theorem dX2_makeAll_22 : decode cX2_makeAll 22 = .ok (.ifCond .eq 6, 3) := by decide +kernel
theorem dX2_makeAll_25 : decode cX2_makeAll 25 = .ok (.iinc 3 1, 3) := by decide +kernel
theorem dX2_makeAll_28 : decode cX2_makeAll 28 = .ok (.iinc 4 1, 3) := by decide +kernel
theorem dX2_makeAll_31 : decode cX2_makeAll 31 = .ok (.goto (-26), 3) := by decide +kernel
theorem dX2_makeAll_34 : decode cX2_makeAll 34 = .ok (.iload_n 3, 1) := by decide +kernel
theorem dX2_makeAll_35 : decode cX2_makeAll 35 = .ok (.ireturn, 1) := by decide +kernel
theorem dX3_init_0 : decode cX3_init 0 = .ok (.aload_n 0, 1) := by decide +kernel
theorem dX3_init_1 : decode cX3_init 1 = .ok (.invokespecial 3, 3) := by decide +kernel
theorem dX3_init_4 : decode cX3_init 4 = .ok (.aload_n 0, 1) := by decide +kernel
theorem dX3_init_5 : decode cX3_init 5 = .ok (.bipush 8, 2) := by decide +kernel
theorem dX3_init_7 : decode cX3_init 7 = .ok (.newarray .int, 2) := by decide +kernel
theorem dX3_init_9 : decode cX3_init 9 = .ok (.putfield 9, 3) := by decide +kernel
theorem dX3_init_12 : decode cX3_init 12 = .ok (.aload_n 0, 1) := by decide +kernel
theorem dX3_init_13 : decode cX3_init 13 = .ok (.bipush 6, 2) := by decide +kernel
theorem dX3_init_15 : decode cX3_init 15 = .ok (.newarray .boolean, 2) := by decide +kernel
theorem dX3_init_17 : decode cX3_init 17 = .ok (.putfield 15, 3) := by decide +kernel
theorem dX3_init_20 : decode cX3_init 20 = .ok (.aload_n 0, 1) := by decide +kernel
theorem dX3_init_21 : decode cX3_init 21 = .ok (.bipush 6, 2) := by decide +kernel
theorem dX3_init_23 : decode cX3_init 23 = .ok (.newarray .int, 2) := by decide +kernel
theorem dX3_init_25 : decode cX3_init 25 = .ok (.putfield 19, 3) := by decide +kernel
theorem dX3_init_28 : decode cX3_init 28 = .ok (.aload_n 0, 1) := by decide +kernel
theorem dX3_init_29 : decode cX3_init 29 = .ok (.bipush 6, 2) := by decide +kernel
theorem dX3_init_31 : decode cX3_init 31 = .ok (.newarray .int, 2) := by decide +kernel
theorem dX3_init_33 : decode cX3_init 33 = .ok (.putfield 22, 3) := by decide +kernel
theorem dX3_init_36 : decode cX3_init 36 = .ok (.return_, 1) := by decide +kernel
set_option maxRecDepth 20000 in
theorem ggX3_find_X3_goOn : GoodIn wsX3_find wsX3_goOn := goodIn_r _ [18, 12, 19, 20, 21, 22, 17, 23, 1, 6, 13, 24, 25, 2, 3, 4, 5, 26, 27, 28, 29, 7, 30, 31, 32, 33, 34, 35, 36, 37, 38, 39, 40, 41, 42, 43, 44, 10, 45, 46, 47, 9, 11, 48, 49, 50, 51, 52, 53, 14, 15, 16, 66, 67, 68, 69, 70, 71, 72, 73, 74, 75, 76] (by decide +kernel) (by decide +kernel)
set_option maxRecDepth 20000 in
theorem gX3_find_X3_goOn : GoodIn wsX3_find (wsV RX3 57 RX3 yX3_goOn wsX3_goOn) := goodIn_app (goodIn_of _ (by decide +kernel)) ggX3_find_X3_goOn
theorem dX3_find_0 : decode cX3_find 0 = .ok (.aload_n 1, 1) := by decide +kernel
theorem dX3_find_1 : decode cX3_find 1 = .ok (.getfield 25, 3) := by decide +kernel
theorem dX3_find_4 : decode cX3_find 4 = .ok (.iconst 0, 1) := by decide +kernel
theorem dX3_find_5 : decode cX3_find 5 = .ok (.aload_n 0, 1) := by decide +kernel
theorem dX3_find_6 : decode cX3_find 6 = .ok (.getfield 9, 3) := by decide +kernel
theorem dX3_find_9 : decode cX3_find 9 = .ok (.iconst 0, 1) := by decide +kernel
theorem dX3_find_10 : decode cX3_find 10 = .ok (.bipush 8, 2) := by decide +kernel
theorem dX3_find_12 : decode cX3_find 12 = .ok (.invokestatic 28, 3) := by decide +kernel
theorem dX3_find_15 : decode cX3_find 15 = .ok (.aload_n 0, 1) := by decide +kernel
theorem dX3_find_16 : decode cX3_find 16 = .ok (.iload_n 3, 1) := by decide +kernel
theorem dX3_find_17 : decode cX3_find 17 = .ok (.putfield 34, 3) := by decide +kernel
theorem dX3_find_20 : decode cX3_find 20 = .ok (.aload_n 0, 1) := by decide +kernel
theorem dX3_find_21 : decode cX3_find 21 = .ok (.aload_n 1, 1) := by decide +kernel
theorem dX3_find_22 : decode cX3_find 22 = .ok (.getfield 38, 3) := by decide +kernel
theorem dX3_find_25 : decode cX3_find 25 = .ok (.putfield 41, 3) := by decide +kernel
theorem dX3_find_28 : decode cX3_find 28 = .ok (.aload_n 0, 1) := by decide +kernel
theorem dX3_find_29 : decode cX3_find 29 = .ok (.aload_n 2, 1) := by decide +kernel
theorem dX3_find_30 : decode cX3_find 30 = .ok (.getfield 42, 3) := by decide +kernel
theorem dX3_find_33 : decode cX3_find 33 = .ok (.bipush 6, 2) := by decide +kernel
theorem dX3_find_35 : decode cX3_find 35 = .ok (.invokestatic 47, 3) := by decide +kernel
theorem dX3_find_38 : decode cX3_find 38 = .ok (.putfield 53, 3) := by decide +kernel
theorem dX3_find_41 : decode cX3_find 41 = .ok (.aload_n 0, 1) := by decide +kernel
theorem dX3_find_42 : decode cX3_find 42 = .ok (.iconst (-1), 1) := by decide +kernel
theorem dX3_find_43 : decode cX3_find 43 = .ok (.putfield 54, 3) := by decide +kernel
theorem dX3_find_46 : decode cX3_find 46 = .ok (.aload_n 0, 1) := by decide +kernel
theorem dX3_find_47 : decode cX3_find 47 = .ok (.iconst 0, 1) := by decide +kernel
theorem dX3_find_48 : decode cX3_find 48 = .ok (.aload_n 2, 1) := by decide +kernel
theorem dX3_find_49 : decode cX3_find 49 = .ok (.invokevirtual 57, 3) := by decide +kernel
theorem dX3_find_52 : decode cX3_find 52 = .ok (.return_, 1) := by decide +kernel
set_option maxRecDepth 20000 in
theorem ggX3_goOn_X3_noteIfBetter : GoodIn wsX3_goOn wsX3_noteIfBetter := goodIn_r _ [7, 8, 9, 10, 11, 12, 13, 14, 15, 16, 52, 53, 54, 55, 56, 57, 58, 59] (by decide +kernel) (by decide +kernel)
set_option maxRecDepth 20000 in
theorem gX3_goOn_X3_noteIfBetter : GoodIn wsX3_goOn (wsV RX3 61 RX3 yX3_noteIfBetter wsX3_noteIfBetter) := goodIn_app (goodIn_of _ (by decide +kernel)) ggX3_goOn_X3_noteIfBetter
set_option maxRecDepth 20000 in
theorem ggX3_goOn_X3_tryNext : GoodIn wsX3_goOn wsX3_tryNext := goodIn_r _ [20, 8, 2, 11, 21, 22, 23, 24, 25, 26, 27, 28, 29, 30, 31, 32, 33, 34, 35, 36, 37, 38, 39, 40, 41, 42, 43, 44, 45, 46, 47, 48, 49, 50, 51, 6, 0, 1, 3, 4, 5, 7, 9, 10, 12, 13, 14, 15, 16, 17, 18, 19, 52, 53, 54, 55, 56, 57, 58, 59, 60, 61, 62] (by decide +kernel) (by decide +kernel)
set_option maxRecDepth 20000 in
theorem gX3_goOn_X3_tryNext : GoodIn wsX3_goOn (wsV RX3 64 RX3 yX3_tryNext wsX3_tryNext) := goodIn_app (goodIn_of _ (by decide +kernel)) ggX3_goOn_X3_tryNext
theorem dX3_goOn_0 : decode cX3_goOn 0 = .ok (.iload_n 1, 1) := by decide +kernel
theorem dX3_goOn_1 : decode cX3_goOn 1 = .ok (.aload_n 0, 1) := by decide +kernel
theorem dX3_goOn_2 : decode cX3_goOn 2 = .ok (.getfield 53, 3) := by decide +kernel
theorem dX3_goOn_5 : decode cX3_goOn 5 = .ok (.if_icmp .lt 8, 3) := by decide +kernel
theorem dX3_goOn_8 : decode cX3_goOn 8 = .ok (.aload_n 0, 1) := by decide +kernel
theorem dX3_goOn_9 : decode cX3_goOn 9 = .ok (.invokevirtual 61, 3) := by decide +kernel
theorem dX3_goOn_12 : decode cX3_goOn 12 = .ok (.return_, 1) := by decide +kernel
theorem dX3_goOn_13 : decode cX3_goOn 13 = .ok (.iconst 0, 1) := by decide +kernel
theorem dX3_goOn_14 : decode cX3_goOn 14 = .ok (.istore_n 3, 1) := by decide +kernel
theorem dX3_goOn_15 : decode cX3_goOn 15 = .ok (.iload_n 3, 1) := by decide +kernel
theorem dX3_goOn_16 : decode cX3_goOn 16 = .ok (.aload_n 0, 1) := by decide +kernel
theorem dX3_goOn_17 : decode cX3_goOn 17 = .ok (.getfield 53, 3) := by decide +kernel
theorem dX3_goOn_20 : decode cX3_goOn 20 = .ok (.if_icmp .ge 25, 3) := by decide +kernel
theorem dX3_goOn_23 : decode cX3_goOn 23 = .ok (.aload_n 0, 1) := by decide +kernel
theorem dX3_goOn_24 : decode cX3_goOn 24 = .ok (.getfield 15, 3) := by decide +kernel
theorem dX3_goOn_27 : decode cX3_goOn 27 = .ok (.iload_n 3, 1) := by decide +kernel
theorem dX3_goOn_28 : decode cX3_goOn 28 = .ok (.baload, 1) := by decide +kernel
theorem dX3_goOn_29 : decode cX3_goOn 29 = .ok (.ifCond .ne 10, 3) := by decide +kernel
theorem dX3_goOn_32 : decode cX3_goOn 32 = .ok (.aload_n 0, 1) := by decide +kernel
theorem dX3_goOn_33 : decode cX3_goOn 33 = .ok (.iload_n 3, 1) := by decide +kernel
theorem dX3_goOn_34 : decode cX3_goOn 34 = .ok (.iload_n 1, 1) := by decide +kernel
theorem dX3_goOn_35 : decode cX3_goOn 35 = .ok (.aload_n 2, 1) := by decide +kernel
theorem dX3_goOn_36 : decode cX3_goOn 36 = .ok (.invokevirtual 64, 3) := by decide +kernel
theorem dX3_goOn_39 : decode cX3_goOn 39 = .ok (.iinc 3 1, 3) := by decide +kernel
theorem dX3_goOn_42 : decode cX3_goOn 42 = .ok (.goto (-27), 3) := by decide +kernel
theorem dX3_goOn_45 : decode cX3_goOn 45 = .ok (.return_, 1) := by decide +kernel
set_option maxRecDepth 20000 in
theorem ggX3_tryNext_X8_makeMeeting : GoodIn wsX3_tryNext wsX8_makeMeeting := goodIn_r _ [7, 8, 9, 6, 10, 11, 12, 13, 14, 15, 16, 17, 18, 19, 20, 21, 22, 23, 24, 25, 26, 27, 28, 29, 30, 31] (by decide +kernel) (by decide +kernel)
set_option maxRecDepth 20000 in
theorem gX3_tryNext_X8_makeMeeting_n74 : GoodIn wsX3_tryNext (wsX8_makeMeeting) := ggX3_tryNext_X8_makeMeeting
set_option maxRecDepth 20000 in
theorem ggX3_tryNext_X3_goOn : GoodIn wsX3_tryNext wsX3_goOn := goodIn_r _ [36, 37, 2, 38, 39, 40, 35, 41, 1, 42, 43, 3, 44, 45, 46, 47, 48, 49, 50, 51, 0, 4, 5, 6, 7, 8, 9, 10, 11, 12, 13, 14, 15, 16, 17, 18, 19, 20, 21, 22, 23, 24, 25, 26, 27, 28, 29, 30, 31, 32, 33, 34, 52, 53, 54, 55, 56, 57, 58, 59, 60, 61, 62] (by decide +kernel) (by decide +kernel)
set_option maxRecDepth 20000 in
theorem gX3_tryNext_X3_goOn : GoodIn wsX3_tryNext (wsV RX3 57 RX3 yX3_goOn wsX3_goOn) := goodIn_app (goodIn_of _ (by decide +kernel)) ggX3_tryNext_X3_goOn
theorem dX3_tryNext_0 : decode cX3_tryNext 0 = .ok (.aload_n 3, 1) := by decide +kernel
theorem dX3_tryNext_1 : decode cX3_tryNext 1 = .ok (.getfield 68, 3) := by decide +kernel
theorem dX3_tryNext_4 : decode cX3_tryNext 4 = .ok (.iload_n 1, 1) := by decide +kernel
theorem dX3_tryNext_5 : decode cX3_tryNext 5 = .ok (.iaload, 1) := by decide +kernel
theorem dX3_tryNext_6 : decode cX3_tryNext 6 = .ok (.istore 4, 2) := by decide +kernel
theorem dX3_tryNext_8 : decode cX3_tryNext 8 = .ok (.aload_n 3, 1) := by decide +kernel
theorem dX3_tryNext_9 : decode cX3_tryNext 9 = .ok (.getfield 71, 3) := by decide +kernel
theorem dX3_tryNext_12 : decode cX3_tryNext 12 = .ok (.iload_n 1, 1) := by decide +kernel
theorem dX3_tryNext_13 : decode cX3_tryNext 13 = .ok (.iaload, 1) := by decide +kernel
theorem dX3_tryNext_14 : decode cX3_tryNext 14 = .ok (.istore 5, 2) := by decide +kernel
theorem dX3_tryNext_16 : decode cX3_tryNext 16 = .ok (.aload_n 0, 1) := by decide +kernel
theorem dX3_tryNext_17 : decode cX3_tryNext 17 = .ok (.getfield 9, 3) := by decide +kernel
theorem dX3_tryNext_20 : decode cX3_tryNext 20 = .ok (.iload 4, 2) := by decide +kernel
theorem dX3_tryNext_22 : decode cX3_tryNext 22 = .ok (.iaload, 1) := by decide +kernel
theorem dX3_tryNext_23 : decode cX3_tryNext 23 = .ok (.istore 6, 2) := by decide +kernel
theorem dX3_tryNext_25 : decode cX3_tryNext 25 = .ok (.aload_n 0, 1) := by decide +kernel
theorem dX3_tryNext_26 : decode cX3_tryNext 26 = .ok (.getfield 9, 3) := by decide +kernel
theorem dX3_tryNext_29 : decode cX3_tryNext 29 = .ok (.iload 5, 2) := by decide +kernel
theorem dX3_tryNext_31 : decode cX3_tryNext 31 = .ok (.iaload, 1) := by decide +kernel
theorem dX3_tryNext_32 : decode cX3_tryNext 32 = .ok (.istore 7, 2) := by decide +kernel
theorem dX3_tryNext_34 : decode cX3_tryNext 34 = .ok (.aload_n 0, 1) := by decide +kernel
theorem dX3_tryNext_35 : decode cX3_tryNext 35 = .ok (.getfield 15, 3) := by decide +kernel
theorem dX3_tryNext_38 : decode cX3_tryNext 38 = .ok (.iload_n 1, 1) := by decide +kernel
theorem dX3_tryNext_39 : decode cX3_tryNext 39 = .ok (.iconst 1, 1) := by decide +kernel
theorem dX3_tryNext_40 : decode cX3_tryNext 40 = .ok (.bastore, 1) := by decide +kernel
theorem dX3_tryNext_41 : decode cX3_tryNext 41 = .ok (.aload_n 0, 1) := by decide +kernel
theorem dX3_tryNext_42 : decode cX3_tryNext 42 = .ok (.getfield 19, 3) := by decide +kernel
theorem dX3_tryNext_45 : decode cX3_tryNext 45 = .ok (.iload_n 2, 1) := by decide +kernel
theorem dX3_tryNext_46 : decode cX3_tryNext 46 = .ok (.iload_n 1, 1) := by decide +kernel
theorem dX3_tryNext_47 : decode cX3_tryNext 47 = .ok (.iastore, 1) := by decide +kernel
theorem dX3_tryNext_48 : decode cX3_tryNext 48 = .ok (.aload_n 0, 1) := by decide +kernel
theorem dX3_tryNext_49 : decode cX3_tryNext 49 = .ok (.getfield 9, 3) := by decide +kernel
theorem dX3_tryNext_52 : decode cX3_tryNext 52 = .ok (.aload_n 0, 1) := by decide +kernel
theorem dX3_tryNext_53 : decode cX3_tryNext 53 = .ok (.getfield 41, 3) := by decide +kernel
theorem dX3_tryNext_56 : decode cX3_tryNext 56 = .ok (.iload 4, 2) := by decide +kernel
theorem dX3_tryNext_58 : decode cX3_tryNext 58 = .ok (.iload 5, 2) := by decide +kernel
theorem dX3_tryNext_60 : decode cX3_tryNext 60 = .ok (.invokestatic 74, 3) := by decide +kernel
theorem dX3_tryNext_63 : decode cX3_tryNext 63 = .ok (.pop, 1) := by decide +kernel
theorem dX3_tryNext_64 : decode cX3_tryNext 64 = .ok (.aload_n 0, 1) := by decide +kernel
theorem dX3_tryNext_65 : decode cX3_tryNext 65 = .ok (.iload_n 2, 1) := by decide +kernel
theorem dX3_tryNext_66 : decode cX3_tryNext 66 = .ok (.iconst 1, 1) := by decide +kernel
theorem dX3_tryNext_67 : decode cX3_tryNext 67 = .ok (.iadd, 1) := by decide +kernel
theorem dX3_tryNext_68 : decode cX3_tryNext 68 = .ok (.aload_n 3, 1) := by decide +kernel
theorem dX3_tryNext_69 : decode cX3_tryNext 69 = .ok (.invokevirtual 57, 3) := by decide +kernel
theorem dX3_tryNext_72 : decode cX3_tryNext 72 = .ok (.aload_n 0, 1) := by decide +kernel
theorem dX3_tryNext_73 : decode cX3_tryNext 73 = .ok (.getfield 9, 3) := by decide +kernel
theorem dX3_tryNext_76 : decode cX3_tryNext 76 = .ok (.iload 4, 2) := by decide +kernel
theorem dX3_tryNext_78 : decode cX3_tryNext 78 = .ok (.iload 6, 2) := by decide +kernel
theorem dX3_tryNext_80 : decode cX3_tryNext 80 = .ok (.iastore, 1) := by decide +kernel
theorem dX3_tryNext_81 : decode cX3_tryNext 81 = .ok (.aload_n 0, 1) := by decide +kernel
theorem dX3_tryNext_82 : decode cX3_tryNext 82 = .ok (.getfield 9, 3) := by decide +kernel
theorem dX3_tryNext_85 : decode cX3_tryNext 85 = .ok (.iload 5, 2) := by decide +kernel
theorem dX3_tryNext_87 : decode cX3_tryNext 87 = .ok (.iload 7, 2) := by decide +kernel
theorem dX3_tryNext_89 : decode cX3_tryNext 89 = .ok (.iastore, 1) := by decide +kernel
theorem dX3_tryNext_90 : decode cX3_tryNext 90 = .ok (.aload_n 0, 1) := by decide +kernel
theorem dX3_tryNext_91 : decode cX3_tryNext 91 = .ok (.getfield 15, 3) := by decide +kernel
theorem dX3_tryNext_94 : decode cX3_tryNext 94 = .ok (.iload_n 1, 1) := by decide +kernel
theorem dX3_tryNext_95 : decode cX3_tryNext 95 = .ok (.iconst 0, 1) := by decide +kernel
theorem dX3_tryNext_96 : decode cX3_tryNext 96 = .ok (.bastore, 1) := by decide +kernel
theorem dX3_tryNext_97 : decode cX3_tryNext 97 = .ok (.return_, 1) := by decide +kernel
theorem dX3_noteIfBetter_0 : decode cX3_noteIfBetter 0 = .ok (.aload_n 0, 1) := by decide +kernel
theorem dX3_noteIfBetter_1 : decode cX3_noteIfBetter 1 = .ok (.getfield 9, 3) := by decide +kernel
theorem dX3_noteIfBetter_4 : decode cX3_noteIfBetter 4 = .ok (.aload_n 0, 1) := by decide +kernel
theorem dX3_noteIfBetter_5 : decode cX3_noteIfBetter 5 = .ok (.getfield 34, 3) := by decide +kernel
theorem dX3_noteIfBetter_8 : decode cX3_noteIfBetter 8 = .ok (.iaload, 1) := by decide +kernel
theorem dX3_noteIfBetter_9 : decode cX3_noteIfBetter 9 = .ok (.aload_n 0, 1) := by decide +kernel
theorem dX3_noteIfBetter_10 : decode cX3_noteIfBetter 10 = .ok (.getfield 54, 3) := by decide +kernel
theorem dX3_noteIfBetter_13 : decode cX3_noteIfBetter 13 = .ok (.if_icmp .gt 4, 3) := by decide +kernel
theorem dX3_noteIfBetter_16 : decode cX3_noteIfBetter 16 = .ok (.return_, 1) := by decide +kernel
theorem dX3_noteIfBetter_17 : decode cX3_noteIfBetter 17 = .ok (.aload_n 0, 1) := by decide +kernel
theorem dX3_noteIfBetter_18 : decode cX3_noteIfBetter 18 = .ok (.aload_n 0, 1) := by decide +kernel
theorem dX3_noteIfBetter_19 : decode cX3_noteIfBetter 19 = .ok (.getfield 9, 3) := by decide +kernel
theorem dX3_noteIfBetter_22 : decode cX3_noteIfBetter 22 = .ok (.aload_n 0, 1) := by decide +kernel
theorem dX3_noteIfBetter_23 : decode cX3_noteIfBetter 23 = .ok (.getfield 34, 3) := by decide +kernel
theorem dX3_noteIfBetter_26 : decode cX3_noteIfBetter 26 = .ok (.iaload, 1) := by decide +kernel
theorem dX3_noteIfBetter_27 : decode cX3_noteIfBetter 27 = .ok (.putfield 54, 3) := by decide +kernel
theorem dX3_noteIfBetter_30 : decode cX3_noteIfBetter 30 = .ok (.aload_n 0, 1) := by decide +kernel
theorem dX3_noteIfBetter_31 : decode cX3_noteIfBetter 31 = .ok (.getfield 19, 3) := by decide +kernel
theorem dX3_noteIfBetter_34 : decode cX3_noteIfBetter 34 = .ok (.iconst 0, 1) := by decide +kernel
theorem dX3_noteIfBetter_35 : decode cX3_noteIfBetter 35 = .ok (.aload_n 0, 1) := by decide +kernel
theorem dX3_noteIfBetter_36 : decode cX3_noteIfBetter 36 = .ok (.getfield 22, 3) := by decide +kernel
theorem dX3_noteIfBetter_39 : decode cX3_noteIfBetter 39 = .ok (.iconst 0, 1) := by decide +kernel
theorem dX3_noteIfBetter_40 : decode cX3_noteIfBetter 40 = .ok (.bipush 6, 2) := by decide +kernel
theorem dX3_noteIfBetter_42 : decode cX3_noteIfBetter 42 = .ok (.invokestatic 28, 3) := by decide +kernel
theorem dX3_noteIfBetter_45 : decode cX3_noteIfBetter 45 = .ok (.return_, 1) := by decide +kernel
theorem dX4_init_0 : decode cX4_init 0 = .ok (.aload_n 0, 1) := by decide +kernel
theorem dX4_init_1 : decode cX4_init 1 = .ok (.invokespecial 3, 3) := by decide +kernel
theorem dX4_init_4 : decode cX4_init 4 = .ok (.aload_n 0, 1) := by decide +kernel
theorem dX4_init_5 : decode cX4_init 5 = .ok (.sipush 256, 3) := by decide +kernel
theorem dX4_init_8 : decode cX4_init 8 = .ok (.newarray .int, 2) := by decide +kernel
theorem dX4_init_10 : decode cX4_init 10 = .ok (.putfield 9, 3) := by decide +kernel
theorem dX4_init_13 : decode cX4_init 13 = .ok (.aload_n 0, 1) := by decide +kernel
theorem dX4_init_14 : decode cX4_init 14 = .ok (.bipush 8, 2) := by decide +kernel
theorem dX4_init_16 : decode cX4_init 16 = .ok (.newarray .int, 2) := by decide +kernel
theorem dX4_init_18 : decode cX4_init 18 = .ok (.putfield 15, 3) := by decide +kernel
theorem dX4_init_21 : decode cX4_init 21 = .ok (.aload_n 0, 1) := by decide +kernel
theorem dX4_init_22 : decode cX4_init 22 = .ok (.bipush 8, 2) := by decide +kernel
theorem dX4_init_24 : decode cX4_init 24 = .ok (.newarray .int, 2) := by decide +kernel
theorem dX4_init_26 : decode cX4_init 26 = .ok (.putfield 18, 3) := by decide +kernel
theorem dX4_init_29 : decode cX4_init 29 = .ok (.return_, 1) := by decide +kernel
set_option maxRecDepth 20000 in
theorem ggX4_find_J7_fill_53178 : GoodIn wsX4_find wsJ7_fill_53178 := goodIn_r _ [8] (by decide +kernel) (by decide +kernel)
set_option maxRecDepth 20000 in
theorem gX4_find_J7_fill_53178 : GoodIn wsX4_find (va_wsS RX4 34 yJ7_fill_53178 wsJ7_fill_53178) := goodIn_app (goodIn_of _ (by decide +kernel)) ggX4_find_J7_fill_53178
set_option maxRecDepth 20000 in
theorem ggX4_find_X4_goOn : GoodIn wsX4_find wsX4_goOn := goodIn_r _ [13, 2, 3, 14, 15, 16, 17, 18, 19, 1, 20, 21, 22, 12, 23, 4, 24, 25, 26, 27, 28, 29, 30, 31, 32, 33, 34, 35, 36, 37, 38, 39, 40, 41, 42, 43, 44, 45, 46, 47, 48, 49, 50, 9, 10, 11, 63, 64, 65, 66, 67, 68, 51, 52, 53, 54, 55, 56, 57, 58, 59, 60, 61, 62] (by decide +kernel) (by decide +kernel)
set_option maxRecDepth 20000 in
theorem gX4_find_X4_goOn : GoodIn wsX4_find (wsV RX4 43 RX4 yX4_goOn wsX4_goOn) := goodIn_app (goodIn_of _ (by decide +kernel)) ggX4_find_X4_goOn
theorem dX4_find_0 : decode cX4_find 0 = .ok (.aload_n 0, 1) := by decide +kernel
theorem dX4_find_1 : decode cX4_find 1 = .ok (.aload_n 1, 1) := by decide +kernel
theorem dX4_find_2 : decode cX4_find 2 = .ok (.getfield 21, 3) := by decide +kernel
theorem dX4_find_5 : decode cX4_find 5 = .ok (.putfield 27, 3) := by decide +kernel
theorem dX4_find_8 : decode cX4_find 8 = .ok (.aload_n 0, 1) := by decide +kernel
theorem dX4_find_9 : decode cX4_find 9 = .ok (.iload_n 3, 1) := by decide +kernel
theorem dX4_find_10 : decode cX4_find 10 = .ok (.putfield 28, 3) := by decide +kernel
theorem dX4_find_13 : decode cX4_find 13 = .ok (.aload_n 0, 1) := by decide +kernel
theorem dX4_find_14 : decode cX4_find 14 = .ok (.aload_n 0, 1) := by decide +kernel
theorem dX4_find_15 : decode cX4_find 15 = .ok (.getfield 27, 3) := by decide +kernel
theorem dX4_find_18 : decode cX4_find 18 = .ok (.putfield 31, 3) := by decide +kernel
theorem dX4_find_21 : decode cX4_find 21 = .ok (.aload_n 0, 1) := by decide +kernel
theorem dX4_find_22 : decode cX4_find 22 = .ok (.getfield 9, 3) := by decide +kernel
theorem dX4_find_25 : decode cX4_find 25 = .ok (.iconst (-1), 1) := by decide +kernel
theorem dX4_find_26 : decode cX4_find 26 = .ok (.invokestatic 34, 3) := by decide +kernel
theorem dX4_find_29 : decode cX4_find 29 = .ok (.aload_n 0, 1) := by decide +kernel
theorem dX4_find_30 : decode cX4_find 30 = .ok (.iconst 0, 1) := by decide +kernel
theorem dX4_find_31 : decode cX4_find 31 = .ok (.iconst 1, 1) := by decide +kernel
theorem dX4_find_32 : decode cX4_find 32 = .ok (.iload_n 2, 1) := by decide +kernel
theorem dX4_find_33 : decode cX4_find 33 = .ok (.ishl, 1) := by decide +kernel
theorem dX4_find_34 : decode cX4_find 34 = .ok (.aload_n 1, 1) := by decide +kernel
theorem dX4_find_35 : decode cX4_find 35 = .ok (.getfield 40, 3) := by decide +kernel
theorem dX4_find_38 : decode cX4_find 38 = .ok (.iload_n 2, 1) := by decide +kernel
theorem dX4_find_39 : decode cX4_find 39 = .ok (.iaload, 1) := by decide +kernel
theorem dX4_find_40 : decode cX4_find 40 = .ok (.aload_n 1, 1) := by decide +kernel
theorem dX4_find_41 : decode cX4_find 41 = .ok (.invokevirtual 43, 3) := by decide +kernel
theorem dX4_find_44 : decode cX4_find 44 = .ok (.return_, 1) := by decide +kernel
theorem dX4_isFound_0 : decode cX4_isFound 0 = .ok (.aload_n 0, 1) := by decide +kernel
theorem dX4_isFound_1 : decode cX4_isFound 1 = .ok (.getfield 31, 3) := by decide +kernel
theorem dX4_isFound_4 : decode cX4_isFound 4 = .ok (.aload_n 0, 1) := by decide +kernel
theorem dX4_isFound_5 : decode cX4_isFound 5 = .ok (.getfield 27, 3) := by decide +kernel
theorem dX4_isFound_8 : decode cX4_isFound 8 = .ok (.if_icmp .ge 7, 3) := by decide +kernel
theorem dX4_isFound_11 : decode cX4_isFound 11 = .ok (.iconst 1, 1) := by decide +kernel
theorem dX4_isFound_12 : decode cX4_isFound 12 = .ok (.goto 4, 3) := by decide +kernel
theorem dX4_isFound_15 : decode cX4_isFound 15 = .ok (.iconst 0, 1) := by decide +kernel
theorem dX4_isFound_16 : decode cX4_isFound 16 = .ok (.ireturn, 1) := by decide +kernel
set_option maxRecDepth 20000 in
theorem ggX4_goOn_X4_trySending : GoodIn wsX4_goOn wsX4_trySending := goodIn_r _ [14, 15, 3, 16, 17, 18, 19, 20, 21, 22, 23, 24, 25, 26, 27, 28, 29, 30, 31, 32, 33, 34, 35, 36, 37, 38, 39, 40, 41, 42, 43, 44, 45, 13, 0, 1, 2, 4, 5, 6, 7, 8, 9, 10, 11, 12, 46, 47, 48, 49, 50, 51, 52, 53, 54, 55, 56, 57, 58, 59, 60, 61, 62, 63] (by decide +kernel) (by decide +kernel)
set_option maxRecDepth 20000 in
theorem gX4_goOn_X4_trySending : GoodIn wsX4_goOn (wsV RX4 53 RX4 yX4_trySending wsX4_trySending) := goodIn_app (goodIn_of _ (by decide +kernel)) ggX4_goOn_X4_trySending
theorem dX4_goOn_0 : decode cX4_goOn 0 = .ok (.iload_n 3, 1) := by decide +kernel
theorem dX4_goOn_1 : decode cX4_goOn 1 = .ok (.aload_n 0, 1) := by decide +kernel
theorem dX4_goOn_2 : decode cX4_goOn 2 = .ok (.getfield 28, 3) := by decide +kernel
theorem dX4_goOn_5 : decode cX4_goOn 5 = .ok (.if_icmp .gt 24, 3) := by decide +kernel
theorem dX4_goOn_8 : decode cX4_goOn 8 = .ok (.aload_n 0, 1) := by decide +kernel
theorem dX4_goOn_9 : decode cX4_goOn 9 = .ok (.iload_n 1, 1) := by decide +kernel
theorem dX4_goOn_10 : decode cX4_goOn 10 = .ok (.putfield 31, 3) := by decide +kernel
theorem dX4_goOn_13 : decode cX4_goOn 13 = .ok (.aload_n 0, 1) := by decide +kernel
theorem dX4_goOn_14 : decode cX4_goOn 14 = .ok (.getfield 15, 3) := by decide +kernel
theorem dX4_goOn_17 : decode cX4_goOn 17 = .ok (.iconst 0, 1) := by decide +kernel
theorem dX4_goOn_18 : decode cX4_goOn 18 = .ok (.aload_n 0, 1) := by decide +kernel
theorem dX4_goOn_19 : decode cX4_goOn 19 = .ok (.getfield 18, 3) := by decide +kernel
theorem dX4_goOn_22 : decode cX4_goOn 22 = .ok (.iconst 0, 1) := by decide +kernel
theorem dX4_goOn_23 : decode cX4_goOn 23 = .ok (.bipush 8, 2) := by decide +kernel
theorem dX4_goOn_25 : decode cX4_goOn 25 = .ok (.invokestatic 47, 3) := by decide +kernel
theorem dX4_goOn_28 : decode cX4_goOn 28 = .ok (.return_, 1) := by decide +kernel
theorem dX4_goOn_29 : decode cX4_goOn 29 = .ok (.iconst 0, 1) := by decide +kernel
theorem dX4_goOn_30 : decode cX4_goOn 30 = .ok (.istore 5, 2) := by decide +kernel
theorem dX4_goOn_32 : decode cX4_goOn 32 = .ok (.iload 5, 2) := by decide +kernel
theorem dX4_goOn_34 : decode cX4_goOn 34 = .ok (.aload_n 0, 1) := by decide +kernel
theorem dX4_goOn_35 : decode cX4_goOn 35 = .ok (.getfield 27, 3) := by decide +kernel
theorem dX4_goOn_38 : decode cX4_goOn 38 = .ok (.if_icmp .ge 44, 3) := by decide +kernel
theorem dX4_goOn_41 : decode cX4_goOn 41 = .ok (.iload_n 1, 1) := by decide +kernel
theorem dX4_goOn_42 : decode cX4_goOn 42 = .ok (.iconst 1, 1) := by decide +kernel
theorem dX4_goOn_43 : decode cX4_goOn 43 = .ok (.iadd, 1) := by decide +kernel
theorem dX4_goOn_44 : decode cX4_goOn 44 = .ok (.aload_n 0, 1) := by decide +kernel
theorem dX4_goOn_45 : decode cX4_goOn 45 = .ok (.getfield 31, 3) := by decide +kernel
theorem dX4_goOn_48 : decode cX4_goOn 48 = .ok (.if_icmp .ge 34, 3) := by decide +kernel
theorem dX4_goOn_51 : decode cX4_goOn 51 = .ok (.iload_n 2, 1) := by decide +kernel
theorem dX4_goOn_52 : decode cX4_goOn 52 = .ok (.iload 5, 2) := by decide +kernel
theorem dX4_goOn_54 : decode cX4_goOn 54 = .ok (.ishr, 1) := by decide +kernel
theorem dX4_goOn_55 : decode cX4_goOn 55 = .ok (.iconst 1, 1) := by decide +kernel
theorem dX4_goOn_56 : decode cX4_goOn 56 = .ok (.iand, 1) := by decide +kernel
theorem dX4_goOn_57 : decode cX4_goOn 57 = .ok (.ifCond .ne 19, 3) := by decide +kernel
theorem dX4_goOn_60 : decode cX4_goOn 60 = .ok (.aload_n 0, 1) := by decide +kernel
theorem dX4_goOn_61 : decode cX4_goOn 61 = .ok (.iload 5, 2) := by decide +kernel
theorem dX4_goOn_63 : decode cX4_goOn 63 = .ok (.iload_n 1, 1) := by decide +kernel
theorem dX4_goOn_64 : decode cX4_goOn 64 = .ok (.iload_n 2, 1) := by decide +kernel
theorem dX4_goOn_65 : decode cX4_goOn 65 = .ok (.iconst 1, 1) := by decide +kernel
theorem dX4_goOn_66 : decode cX4_goOn 66 = .ok (.iload 5, 2) := by decide +kernel
theorem dX4_goOn_68 : decode cX4_goOn 68 = .ok (.ishl, 1) := by decide +kernel
theorem dX4_goOn_69 : decode cX4_goOn 69 = .ok (.ior, 1) := by decide +kernel
theorem dX4_goOn_70 : decode cX4_goOn 70 = .ok (.iload_n 3, 1) := by decide +kernel
theorem dX4_goOn_71 : decode cX4_goOn 71 = .ok (.aload 4, 2) := by decide +kernel
theorem dX4_goOn_73 : decode cX4_goOn 73 = .ok (.invokevirtual 53, 3) := by decide +kernel
theorem dX4_goOn_76 : decode cX4_goOn 76 = .ok (.iinc 5 1, 3) := by decide +kernel
theorem dX4_goOn_79 : decode cX4_goOn 79 = .ok (.goto (-47), 3) := by decide +kernel
theorem dX4_goOn_82 : decode cX4_goOn 82 = .ok (.return_, 1) := by decide +kernel
set_option maxRecDepth 20000 in
theorem ggX4_trySending_X8_heldAfterOne : GoodIn wsX4_trySending wsX8_heldAfterOne := goodIn_r _ [5, 6, 7, 4, 8, 9, 10, 11, 12, 13, 14, 15, 16, 17, 18, 19, 20, 21, 22, 23, 24, 25, 26, 27, 28, 29] (by decide +kernel) (by decide +kernel)
set_option maxRecDepth 20000 in
theorem gX4_trySending_X8_heldAfterOne_n60 : GoodIn wsX4_trySending (wsX8_heldAfterOne) := ggX4_trySending_X8_heldAfterOne
set_option maxRecDepth 20000 in
theorem ggX4_trySending_X4_goOn : GoodIn wsX4_trySending wsX4_goOn := goodIn_r _ [34, 35, 36, 2, 37, 38, 39, 40, 41, 42, 43, 44, 45, 33, 0, 1, 3, 4, 5, 6, 7, 8, 9, 10, 11, 12, 13, 14, 15, 16, 17, 18, 19, 20, 21, 22, 23, 24, 25, 26, 27, 28, 29, 30, 31, 32, 46, 47, 48, 49, 50, 51, 52, 53, 54, 55, 56, 57, 58, 59, 60, 61, 62, 63] (by decide +kernel) (by decide +kernel)
set_option maxRecDepth 20000 in
theorem gX4_trySending_X4_goOn : GoodIn wsX4_trySending (wsV RX4 43 RX4 yX4_goOn wsX4_goOn) := goodIn_app (goodIn_of _ (by decide +kernel)) ggX4_trySending_X4_goOn
theorem dX4_trySending_0 : decode cX4_trySending 0 = .ok (.aload 5, 2) := by decide +kernel
theorem dX4_trySending_2 : decode cX4_trySending 2 = .ok (.getfield 57, 3) := by decide +kernel
theorem dX4_trySending_5 : decode cX4_trySending 5 = .ok (.iload 4, 2) := by decide +kernel
theorem dX4_trySending_7 : decode cX4_trySending 7 = .ok (.aload 5, 2) := by decide +kernel
theorem dX4_trySending_9 : decode cX4_trySending 9 = .ok (.getfield 40, 3) := by decide +kernel
theorem dX4_trySending_12 : decode cX4_trySending 12 = .ok (.iload_n 1, 1) := by decide +kernel
theorem dX4_trySending_13 : decode cX4_trySending 13 = .ok (.iaload, 1) := by decide +kernel
theorem dX4_trySending_14 : decode cX4_trySending 14 = .ok (.invokestatic 60, 3) := by decide +kernel
theorem dX4_trySending_17 : decode cX4_trySending 17 = .ok (.istore 6, 2) := by decide +kernel
theorem dX4_trySending_19 : decode cX4_trySending 19 = .ok (.aload_n 0, 1) := by decide +kernel
theorem dX4_trySending_20 : decode cX4_trySending 20 = .ok (.getfield 9, 3) := by decide +kernel
theorem dX4_trySending_23 : decode cX4_trySending 23 = .ok (.iload_n 3, 1) := by decide +kernel
theorem dX4_trySending_24 : decode cX4_trySending 24 = .ok (.iaload, 1) := by decide +kernel
theorem dX4_trySending_25 : decode cX4_trySending 25 = .ok (.iload 6, 2) := by decide +kernel
theorem dX4_trySending_27 : decode cX4_trySending 27 = .ok (.if_icmp .ne 4, 3) := by decide +kernel
theorem dX4_trySending_30 : decode cX4_trySending 30 = .ok (.return_, 1) := by decide +kernel
theorem dX4_trySending_31 : decode cX4_trySending 31 = .ok (.aload_n 0, 1) := by decide +kernel
theorem dX4_trySending_32 : decode cX4_trySending 32 = .ok (.getfield 9, 3) := by decide +kernel
theorem dX4_trySending_35 : decode cX4_trySending 35 = .ok (.iload_n 3, 1) := by decide +kernel
theorem dX4_trySending_36 : decode cX4_trySending 36 = .ok (.iload 6, 2) := by decide +kernel
theorem dX4_trySending_38 : decode cX4_trySending 38 = .ok (.iastore, 1) := by decide +kernel
theorem dX4_trySending_39 : decode cX4_trySending 39 = .ok (.aload_n 0, 1) := by decide +kernel
theorem dX4_trySending_40 : decode cX4_trySending 40 = .ok (.getfield 15, 3) := by decide +kernel
theorem dX4_trySending_43 : decode cX4_trySending 43 = .ok (.iload_n 2, 1) := by decide +kernel
theorem dX4_trySending_44 : decode cX4_trySending 44 = .ok (.iload_n 1, 1) := by decide +kernel
theorem dX4_trySending_45 : decode cX4_trySending 45 = .ok (.iastore, 1) := by decide +kernel
theorem dX4_trySending_46 : decode cX4_trySending 46 = .ok (.aload_n 0, 1) := by decide +kernel
theorem dX4_trySending_47 : decode cX4_trySending 47 = .ok (.iload_n 2, 1) := by decide +kernel
theorem dX4_trySending_48 : decode cX4_trySending 48 = .ok (.iconst 1, 1) := by decide +kernel
theorem dX4_trySending_49 : decode cX4_trySending 49 = .ok (.iadd, 1) := by decide +kernel
theorem dX4_trySending_50 : decode cX4_trySending 50 = .ok (.iload_n 3, 1) := by decide +kernel
theorem dX4_trySending_51 : decode cX4_trySending 51 = .ok (.iload 6, 2) := by decide +kernel
theorem dX4_trySending_53 : decode cX4_trySending 53 = .ok (.aload 5, 2) := by decide +kernel
theorem dX4_trySending_55 : decode cX4_trySending 55 = .ok (.invokevirtual 43, 3) := by decide +kernel
theorem dX4_trySending_58 : decode cX4_trySending 58 = .ok (.return_, 1) := by decide +kernel
theorem dX5_init_0 : decode cX5_init 0 = .ok (.aload_n 0, 1) := by decide +kernel
theorem dX5_init_1 : decode cX5_init 1 = .ok (.invokespecial 3, 3) := by decide +kernel
theorem dX5_init_4 : decode cX5_init 4 = .ok (.aload_n 0, 1) := by decide +kernel
theorem dX5_init_5 : decode cX5_init 5 = .ok (.bipush 48, 2) := by decide +kernel
theorem dX5_init_7 : decode cX5_init 7 = .ok (.newarray .int, 2) := by decide +kernel
theorem dX5_init_9 : decode cX5_init 9 = .ok (.putfield 9, 3) := by decide +kernel
theorem dX5_init_12 : decode cX5_init 12 = .ok (.aload_n 0, 1) := by decide +kernel
theorem dX5_init_13 : decode cX5_init 13 = .ok (.bipush 6, 2) := by decide +kernel
theorem dX5_init_15 : decode cX5_init 15 = .ok (.newarray .int, 2) := by decide +kernel
theorem dX5_init_17 : decode cX5_init 17 = .ok (.putfield 15, 3) := by decide +kernel
theorem dX5_init_20 : decode cX5_init 20 = .ok (.return_, 1) := by decide +kernel
set_option maxRecDepth 20000 in
theorem ggX5_find_X5_countSharedNothing : GoodIn wsX5_find wsX5_countSharedNothing := goodIn_r _ [8, 52, 53, 54, 55, 56, 57, 58, 59, 60, 61, 62, 63] (by decide +kernel) (by decide +kernel)
set_option maxRecDepth 20000 in
theorem gX5_find_X5_countSharedNothing : GoodIn wsX5_find (va_wsS RX5 28 yX5_countSharedNothing wsX5_countSharedNothing) := goodIn_app (goodIn_of _ (by decide +kernel)) ggX5_find_X5_countSharedNothing
set_option maxRecDepth 20000 in
theorem ggX5_find_X5_noteEmptyPurse : GoodIn wsX5_find wsX5_noteEmptyPurse := goodIn_r _ [12, 1, 2, 3, 45, 46, 47, 48, 49, 50, 51] (by decide +kernel) (by decide +kernel)
set_option maxRecDepth 20000 in
theorem gX5_find_X5_noteEmptyPurse : GoodIn wsX5_find (wsV RX5 37 RX5 yX5_noteEmptyPurse wsX5_noteEmptyPurse) := goodIn_app (goodIn_of _ (by decide +kernel)) ggX5_find_X5_noteEmptyPurse
set_option maxRecDepth 20000 in
theorem ggX5_find_X5_findUnit : GoodIn wsX5_find wsX5_findUnit := goodIn_r _ [16, 4, 17, 18, 19, 20, 45, 46, 47, 48, 49, 50, 51, 52, 53, 54, 55, 56, 57, 58, 59, 60, 61, 62, 63] (by decide +kernel) (by decide +kernel)
set_option maxRecDepth 20000 in
theorem gX5_find_X5_findUnit : GoodIn wsX5_find (wsV RX5 41 RX5 yX5_findUnit wsX5_findUnit) := goodIn_app (goodIn_of _ (by decide +kernel)) ggX5_find_X5_findUnit
set_option maxRecDepth 20000 in
theorem ggX5_find_X5_findPrimes : GoodIn wsX5_find wsX5_findPrimes := goodIn_r _ [24, 25, 26, 4, 27, 18, 28, 20, 29, 30, 31, 7, 32, 33, 45, 46, 47, 48, 49, 50, 51, 52, 53, 54, 55, 56, 57, 58, 59, 60, 61, 62, 63] (by decide +kernel) (by decide +kernel)
set_option maxRecDepth 20000 in
theorem gX5_find_X5_findPrimes : GoodIn wsX5_find (wsV RX5 45 RX5 yX5_findPrimes wsX5_findPrimes) := goodIn_app (goodIn_of _ (by decide +kernel)) ggX5_find_X5_findPrimes
set_option maxRecDepth 20000 in
theorem ggX5_find_X5_noteMultiples : GoodIn wsX5_find wsX5_noteMultiples := goodIn_r _ [37, 33, 25, 1, 4, 2, 3, 38, 39, 7, 40, 41, 42, 43, 44, 45, 46, 47, 48, 49, 50, 51] (by decide +kernel) (by decide +kernel)
set_option maxRecDepth 20000 in
theorem gX5_find_X5_noteMultiples : GoodIn wsX5_find (wsV RX5 52 RX5 yX5_noteMultiples wsX5_noteMultiples) := goodIn_app (goodIn_of _ (by decide +kernel)) ggX5_find_X5_noteMultiples
theorem dX5_find_0 : decode cX5_find 0 = .ok (.aload_n 0, 1) := by decide +kernel
theorem dX5_find_1 : decode cX5_find 1 = .ok (.iconst 0, 1) := by decide +kernel
theorem dX5_find_2 : decode cX5_find 2 = .ok (.putfield 18, 3) := by decide +kernel
theorem dX5_find_5 : decode cX5_find 5 = .ok (.aload_n 0, 1) := by decide +kernel
theorem dX5_find_6 : decode cX5_find 6 = .ok (.bipush (-9), 2) := by decide +kernel
theorem dX5_find_8 : decode cX5_find 8 = .ok (.putfield 22, 3) := by decide +kernel
theorem dX5_find_11 : decode cX5_find 11 = .ok (.aload_n 0, 1) := by decide +kernel
theorem dX5_find_12 : decode cX5_find 12 = .ok (.bipush (-9), 2) := by decide +kernel
theorem dX5_find_14 : decode cX5_find 14 = .ok (.putfield 25, 3) := by decide +kernel
theorem dX5_find_17 : decode cX5_find 17 = .ok (.aload_n 1, 1) := by decide +kernel
theorem dX5_find_18 : decode cX5_find 18 = .ok (.invokestatic 28, 3) := by decide +kernel
theorem dX5_find_21 : decode cX5_find 21 = .ok (.istore_n 3, 1) := by decide +kernel
theorem dX5_find_22 : decode cX5_find 22 = .ok (.iload_n 3, 1) := by decide +kernel
theorem dX5_find_23 : decode cX5_find 23 = .ok (.aload_n 1, 1) := by decide +kernel
theorem dX5_find_24 : decode cX5_find 24 = .ok (.getfield 32, 3) := by decide +kernel
theorem dX5_find_27 : decode cX5_find 27 = .ok (.if_icmp .ne 22, 3) := by decide +kernel
theorem dX5_find_30 : decode cX5_find 30 = .ok (.aload_n 0, 1) := by decide +kernel
theorem dX5_find_31 : decode cX5_find 31 = .ok (.aload_n 1, 1) := by decide +kernel
theorem dX5_find_32 : decode cX5_find 32 = .ok (.getfield 32, 3) := by decide +kernel
theorem dX5_find_35 : decode cX5_find 35 = .ok (.ifCond .ne 7, 3) := by decide +kernel
theorem dX5_find_38 : decode cX5_find 38 = .ok (.iload_n 2, 1) := by decide +kernel
theorem dX5_find_39 : decode cX5_find 39 = .ok (.goto 4, 3) := by decide +kernel
theorem dX5_find_42 : decode cX5_find 42 = .ok (.iconst 0, 1) := by decide +kernel
theorem dX5_find_43 : decode cX5_find 43 = .ok (.invokevirtual 37, 3) := by decide +kernel
theorem dX5_find_46 : decode cX5_find 46 = .ok (.goto 34, 3) := by decide +kernel
theorem dX5_find_49 : decode cX5_find 49 = .ok (.iload_n 3, 1) := by decide +kernel
theorem dX5_find_50 : decode cX5_find 50 = .ok (.ifCond .ne 30, 3) := by decide +kernel
theorem dX5_find_53 : decode cX5_find 53 = .ok (.aload_n 0, 1) := by decide +kernel
theorem dX5_find_54 : decode cX5_find 54 = .ok (.aload_n 1, 1) := by decide +kernel
theorem dX5_find_55 : decode cX5_find 55 = .ok (.iload_n 2, 1) := by decide +kernel
theorem dX5_find_56 : decode cX5_find 56 = .ok (.invokevirtual 41, 3) := by decide +kernel
theorem dX5_find_59 : decode cX5_find 59 = .ok (.ifCond .eq 21, 3) := by decide +kernel
theorem dX5_find_62 : decode cX5_find 62 = .ok (.aload_n 0, 1) := by decide +kernel
theorem dX5_find_63 : decode cX5_find 63 = .ok (.aload_n 1, 1) := by decide +kernel
theorem dX5_find_64 : decode cX5_find 64 = .ok (.invokevirtual 45, 3) := by decide +kernel
theorem dX5_find_67 : decode cX5_find 67 = .ok (.ifCond .eq 13, 3) := by decide +kernel
theorem dX5_find_70 : decode cX5_find 70 = .ok (.aload_n 0, 1) := by decide +kernel
theorem dX5_find_71 : decode cX5_find 71 = .ok (.iload_n 2, 1) := by decide +kernel
theorem dX5_find_72 : decode cX5_find 72 = .ok (.aload_n 0, 1) := by decide +kernel
theorem dX5_find_73 : decode cX5_find 73 = .ok (.getfield 49, 3) := by decide +kernel
theorem dX5_find_76 : decode cX5_find 76 = .ok (.idiv, 1) := by decide +kernel
theorem dX5_find_77 : decode cX5_find 77 = .ok (.invokevirtual 52, 3) := by decide +kernel
theorem dX5_find_80 : decode cX5_find 80 = .ok (.return_, 1) := by decide +kernel
theorem dX5_countSharedNothing_0 : decode cX5_countSharedNothing 0 = .ok (.iconst 0, 1) := by decide +kernel
theorem dX5_countSharedNothing_1 : decode cX5_countSharedNothing 1 = .ok (.istore_n 1, 1) := by decide +kernel
theorem dX5_countSharedNothing_2 : decode cX5_countSharedNothing 2 = .ok (.iconst 0, 1) := by decide +kernel
theorem dX5_countSharedNothing_3 : decode cX5_countSharedNothing 3 = .ok (.istore_n 2, 1) := by decide +kernel
theorem dX5_countSharedNothing_4 : decode cX5_countSharedNothing 4 = .ok (.iload_n 2, 1) := by decide +kernel
theorem dX5_countSharedNothing_5 : decode cX5_countSharedNothing 5 = .ok (.aload_n 0, 1) := by decide +kernel
theorem dX5_countSharedNothing_6 : decode cX5_countSharedNothing 6 = .ok (.getfield 32, 3) := by decide +kernel
theorem dX5_countSharedNothing_9 : decode cX5_countSharedNothing 9 = .ok (.if_icmp .ge 21, 3) := by decide +kernel
theorem dX5_countSharedNothing_12 : decode cX5_countSharedNothing 12 = .ok (.aload_n 0, 1) := by decide +kernel
theorem dX5_countSharedNothing_13 : decode cX5_countSharedNothing 13 = .ok (.getfield 55, 3) := by decide +kernel
theorem dX5_countSharedNothing_16 : decode cX5_countSharedNothing 16 = .ok (.iload_n 2, 1) := by decide +kernel
theorem dX5_countSharedNothing_17 : decode cX5_countSharedNothing 17 = .ok (.iaload, 1) := by decide +kernel
theorem dX5_countSharedNothing_18 : decode cX5_countSharedNothing 18 = .ok (.ifCond .ne 6, 3) := by decide +kernel
theorem dX5_countSharedNothing_21 : decode cX5_countSharedNothing 21 = .ok (.iinc 1 1, 3) := by decide +kernel
theorem dX5_countSharedNothing_24 : decode cX5_countSharedNothing 24 = .ok (.iinc 2 1, 3) := by decide +kernel
theorem dX5_countSharedNothing_27 : decode cX5_countSharedNothing 27 = .ok (.goto (-23), 3) := by decide +kernel
theorem dX5_countSharedNothing_30 : decode cX5_countSharedNothing 30 = .ok (.iload_n 1, 1) := by decide +kernel
theorem dX5_countSharedNothing_31 : decode cX5_countSharedNothing 31 = .ok (.ireturn, 1) := by decide +kernel
theorem dX5_noteEmptyPurse_0 : decode cX5_noteEmptyPurse 0 = .ok (.aload_n 0, 1) := by decide +kernel
theorem dX5_noteEmptyPurse_1 : decode cX5_noteEmptyPurse 1 = .ok (.iload_n 1, 1) := by decide +kernel
theorem dX5_noteEmptyPurse_2 : decode cX5_noteEmptyPurse 2 = .ok (.iconst 1, 1) := by decide +kernel
theorem dX5_noteEmptyPurse_3 : decode cX5_noteEmptyPurse 3 = .ok (.iadd, 1) := by decide +kernel
theorem dX5_noteEmptyPurse_4 : decode cX5_noteEmptyPurse 4 = .ok (.putfield 18, 3) := by decide +kernel
theorem dX5_noteEmptyPurse_7 : decode cX5_noteEmptyPurse 7 = .ok (.aload_n 0, 1) := by decide +kernel
theorem dX5_noteEmptyPurse_8 : decode cX5_noteEmptyPurse 8 = .ok (.iconst 0, 1) := by decide +kernel
theorem dX5_noteEmptyPurse_9 : decode cX5_noteEmptyPurse 9 = .ok (.putfield 22, 3) := by decide +kernel
theorem dX5_noteEmptyPurse_12 : decode cX5_noteEmptyPurse 12 = .ok (.aload_n 0, 1) := by decide +kernel
theorem dX5_noteEmptyPurse_13 : decode cX5_noteEmptyPurse 13 = .ok (.iload_n 1, 1) := by decide +kernel
theorem dX5_noteEmptyPurse_14 : decode cX5_noteEmptyPurse 14 = .ok (.putfield 25, 3) := by decide +kernel
theorem dX5_noteEmptyPurse_17 : decode cX5_noteEmptyPurse 17 = .ok (.return_, 1) := by decide +kernel
set_option maxRecDepth 20000 in
theorem ggX5_findUnit_X8_greatestDivisor : GoodIn wsX5_findUnit wsX8_greatestDivisor := goodIn_r _ [4, 5] (by decide +kernel) (by decide +kernel)
set_option maxRecDepth 20000 in
theorem gX5_findUnit_X8_greatestDivisor_n61 : GoodIn wsX5_findUnit (wsX8_greatestDivisor) := ggX5_findUnit_X8_greatestDivisor
theorem dX5_findUnit_0 : decode cX5_findUnit 0 = .ok (.aload_n 0, 1) := by decide +kernel
theorem dX5_findUnit_1 : decode cX5_findUnit 1 = .ok (.iconst 1, 1) := by decide +kernel
theorem dX5_findUnit_2 : decode cX5_findUnit 2 = .ok (.putfield 49, 3) := by decide +kernel
theorem dX5_findUnit_5 : decode cX5_findUnit 5 = .ok (.iconst 0, 1) := by decide +kernel
theorem dX5_findUnit_6 : decode cX5_findUnit 6 = .ok (.istore_n 3, 1) := by decide +kernel
theorem dX5_findUnit_7 : decode cX5_findUnit 7 = .ok (.iload_n 3, 1) := by decide +kernel
theorem dX5_findUnit_8 : decode cX5_findUnit 8 = .ok (.aload_n 1, 1) := by decide +kernel
theorem dX5_findUnit_9 : decode cX5_findUnit 9 = .ok (.getfield 32, 3) := by decide +kernel
theorem dX5_findUnit_12 : decode cX5_findUnit 12 = .ok (.if_icmp .ge 88, 3) := by decide +kernel
theorem dX5_findUnit_15 : decode cX5_findUnit 15 = .ok (.aload_n 1, 1) := by decide +kernel
theorem dX5_findUnit_16 : decode cX5_findUnit 16 = .ok (.getfield 55, 3) := by decide +kernel
theorem dX5_findUnit_19 : decode cX5_findUnit 19 = .ok (.iload_n 3, 1) := by decide +kernel
theorem dX5_findUnit_20 : decode cX5_findUnit 20 = .ok (.iaload, 1) := by decide +kernel
theorem dX5_findUnit_21 : decode cX5_findUnit 21 = .ok (.istore 4, 2) := by decide +kernel
theorem dX5_findUnit_23 : decode cX5_findUnit 23 = .ok (.iload 4, 2) := by decide +kernel
theorem dX5_findUnit_25 : decode cX5_findUnit 25 = .ok (.iconst 1, 1) := by decide +kernel
