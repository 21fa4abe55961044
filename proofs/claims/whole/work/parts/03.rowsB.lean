theorem dX2_init_0 : decode cX2_init 0 = .ok (.aload_n 0, 1) := by decide +kernel
theorem dX2_init_1 : decode cX2_init 1 = .ok (.invokespecial 5, 3) := by decide +kernel
theorem dX2_init_4 : decode cX2_init 4 = .ok (.aload_n 0, 1) := by decide +kernel
theorem dX2_init_5 : decode cX2_init 5 = .ok (.bipush 25, 2) := by decide +kernel
theorem dX2_init_7 : decode cX2_init 7 = .ok (.newarray .int, 2) := by decide +kernel
theorem dX2_init_9 : decode cX2_init 9 = .ok (.putfield 13, 3) := by decide +kernel
theorem dX2_init_12 : decode cX2_init 12 = .ok (.aload_n 0, 1) := by decide +kernel
theorem dX2_init_13 : decode cX2_init 13 = .ok (.bipush 100, 2) := by decide +kernel
theorem dX2_init_15 : decode cX2_init 15 = .ok (.newarray .int, 2) := by decide +kernel
theorem dX2_init_17 : decode cX2_init 17 = .ok (.putfield 17, 3) := by decide +kernel
theorem dX2_init_20 : decode cX2_init 20 = .ok (.aload_n 0, 1) := by decide +kernel
theorem dX2_init_21 : decode cX2_init 21 = .ok (.bipush 12, 2) := by decide +kernel
theorem dX2_init_23 : decode cX2_init 23 = .ok (.newarray .int, 2) := by decide +kernel
theorem dX2_init_25 : decode cX2_init 25 = .ok (.putfield 20, 3) := by decide +kernel
theorem dX2_init_28 : decode cX2_init 28 = .ok (.aload_n 0, 1) := by decide +kernel
theorem dX2_init_29 : decode cX2_init 29 = .ok (.bipush 12, 2) := by decide +kernel
theorem dX2_init_31 : decode cX2_init 31 = .ok (.newarray .int, 2) := by decide +kernel
theorem dX2_init_33 : decode cX2_init 33 = .ok (.putfield 23, 3) := by decide +kernel
theorem dX2_init_36 : decode cX2_init 36 = .ok (.aload_n 0, 1) := by decide +kernel
theorem dX2_init_37 : decode cX2_init 37 = .ok (.iconst 0, 1) := by decide +kernel
theorem dX2_init_38 : decode cX2_init 38 = .ok (.putfield 26, 3) := by decide +kernel
theorem dX2_init_41 : decode cX2_init 41 = .ok (.aload_n 0, 1) := by decide +kernel
theorem dX2_init_42 : decode cX2_init 42 = .ok (.sipush 204, 3) := by decide +kernel
theorem dX2_init_45 : decode cX2_init 45 = .ok (.newarray .int, 2) := by decide +kernel
theorem dX2_init_47 : decode cX2_init 47 = .ok (.putfield 30, 3) := by decide +kernel
theorem dX2_init_50 : decode cX2_init 50 = .ok (.aload_n 0, 1) := by decide +kernel
theorem dX2_init_51 : decode cX2_init 51 = .ok (.sipush 204, 3) := by decide +kernel
theorem dX2_init_54 : decode cX2_init 54 = .ok (.newarray .int, 2) := by decide +kernel
theorem dX2_init_56 : decode cX2_init 56 = .ok (.putfield 33, 3) := by decide +kernel
theorem dX2_init_59 : decode cX2_init 59 = .ok (.aload_n 0, 1) := by decide +kernel
theorem dX2_init_60 : decode cX2_init 60 = .ok (.bipush 17, 2) := by decide +kernel
theorem dX2_init_62 : decode cX2_init 62 = .ok (.newarray .int, 2) := by decide +kernel
theorem dX2_init_64 : decode cX2_init 64 = .ok (.putfield 36, 3) := by decide +kernel
theorem dX2_init_67 : decode cX2_init 67 = .ok (.aload_n 0, 1) := by decide +kernel
theorem dX2_init_68 : decode cX2_init 68 = .ok (.bipush 12, 2) := by decide +kernel
theorem dX2_init_70 : decode cX2_init 70 = .ok (.newarray .int, 2) := by decide +kernel
theorem dX2_init_72 : decode cX2_init 72 = .ok (.putfield 39, 3) := by decide +kernel
theorem dX2_init_75 : decode cX2_init 75 = .ok (.aload_n 0, 1) := by decide +kernel
theorem dX2_init_76 : decode cX2_init 76 = .ok (.bipush 17, 2) := by decide +kernel
theorem dX2_init_78 : decode cX2_init 78 = .ok (.newarray .int, 2) := by decide +kernel
theorem dX2_init_80 : decode cX2_init 80 = .ok (.putfield 42, 3) := by decide +kernel
theorem dX2_init_83 : decode cX2_init 83 = .ok (.aload_n 0, 1) := by decide +kernel
theorem dX2_init_84 : decode cX2_init 84 = .ok (.bipush 12, 2) := by decide +kernel
theorem dX2_init_86 : decode cX2_init 86 = .ok (.newarray .int, 2) := by decide +kernel
theorem dX2_init_88 : decode cX2_init 88 = .ok (.putfield 45, 3) := by decide +kernel
theorem dX2_init_91 : decode cX2_init 91 = .ok (.aload_n 0, 1) := by decide +kernel
theorem dX2_init_92 : decode cX2_init 92 = .ok (.bipush 17, 2) := by decide +kernel
theorem dX2_init_94 : decode cX2_init 94 = .ok (.newarray .int, 2) := by decide +kernel
theorem dX2_init_96 : decode cX2_init 96 = .ok (.putfield 48, 3) := by decide +kernel
theorem dX2_init_99 : decode cX2_init 99 = .ok (.aload_n 0, 1) := by decide +kernel
theorem dX2_init_100 : decode cX2_init 100 = .ok (.bipush 12, 2) := by decide +kernel
theorem dX2_init_102 : decode cX2_init 102 = .ok (.newarray .int, 2) := by decide +kernel
theorem dX2_init_104 : decode cX2_init 104 = .ok (.putfield 51, 3) := by decide +kernel
theorem dX2_init_107 : decode cX2_init 107 = .ok (.iconst 0, 1) := by decide +kernel
theorem dX2_init_108 : decode cX2_init 108 = .ok (.istore_n 1, 1) := by decide +kernel
theorem dX2_init_109 : decode cX2_init 109 = .ok (.iload_n 1, 1) := by decide +kernel
theorem dX2_init_110 : decode cX2_init 110 = .ok (.bipush 25, 2) := by decide +kernel
theorem dX2_init_112 : decode cX2_init 112 = .ok (.if_icmp .ge 29, 3) := by decide +kernel
theorem dX2_init_115 : decode cX2_init 115 = .ok (.aload_n 0, 1) := by decide +kernel
theorem dX2_init_116 : decode cX2_init 116 = .ok (.getfield 13, 3) := by decide +kernel
theorem dX2_init_119 : decode cX2_init 119 = .ok (.iload_n 1, 1) := by decide +kernel
theorem dX2_init_120 : decode cX2_init 120 = .ok (.iload_n 1, 1) := by decide +kernel
theorem dX2_init_121 : decode cX2_init 121 = .ok (.iconst 5, 1) := by decide +kernel
theorem dX2_init_122 : decode cX2_init 122 = .ok (.idiv, 1) := by decide +kernel
theorem dX2_init_123 : decode cX2_init 123 = .ok (.iload_n 1, 1) := by decide +kernel
theorem dX2_init_124 : decode cX2_init 124 = .ok (.iconst 5, 1) := by decide +kernel
theorem dX2_init_125 : decode cX2_init 125 = .ok (.irem, 1) := by decide +kernel
theorem dX2_init_126 : decode cX2_init 126 = .ok (.if_icmp .ne 7, 3) := by decide +kernel
theorem dX2_init_129 : decode cX2_init 129 = .ok (.iconst 0, 1) := by decide +kernel
theorem dX2_init_130 : decode cX2_init 130 = .ok (.goto 4, 3) := by decide +kernel
theorem dX2_init_133 : decode cX2_init 133 = .ok (.iconst 1, 1) := by decide +kernel
theorem dX2_init_134 : decode cX2_init 134 = .ok (.iastore, 1) := by decide +kernel
theorem dX2_init_135 : decode cX2_init 135 = .ok (.iinc 1 1, 3) := by decide +kernel
theorem dX2_init_138 : decode cX2_init 138 = .ok (.goto (-29), 3) := by decide +kernel
theorem dX2_init_141 : decode cX2_init 141 = .ok (.return_, 1) := by decide +kernel
theorem dX2_setFar_0 : decode cX2_setFar 0 = .ok (.aload_n 0, 1) := by decide +kernel
theorem dX2_setFar_1 : decode cX2_setFar 1 = .ok (.getfield 13, 3) := by decide +kernel
theorem dX2_setFar_4 : decode cX2_setFar 4 = .ok (.iload_n 1, 1) := by decide +kernel
theorem dX2_setFar_5 : decode cX2_setFar 5 = .ok (.iconst 5, 1) := by decide +kernel
theorem dX2_setFar_6 : decode cX2_setFar 6 = .ok (.imul, 1) := by decide +kernel
theorem dX2_setFar_7 : decode cX2_setFar 7 = .ok (.iload_n 2, 1) := by decide +kernel
theorem dX2_setFar_8 : decode cX2_setFar 8 = .ok (.iadd, 1) := by decide +kernel
theorem dX2_setFar_9 : decode cX2_setFar 9 = .ok (.iaload, 1) := by decide +kernel
theorem dX2_setFar_10 : decode cX2_setFar 10 = .ok (.istore 4, 2) := by decide +kernel
theorem dX2_setFar_12 : decode cX2_setFar 12 = .ok (.aload_n 0, 1) := by decide +kernel
theorem dX2_setFar_13 : decode cX2_setFar 13 = .ok (.getfield 13, 3) := by decide +kernel
theorem dX2_setFar_16 : decode cX2_setFar 16 = .ok (.iload_n 1, 1) := by decide +kernel
theorem dX2_setFar_17 : decode cX2_setFar 17 = .ok (.iconst 5, 1) := by decide +kernel
theorem dX2_setFar_18 : decode cX2_setFar 18 = .ok (.imul, 1) := by decide +kernel
theorem dX2_setFar_19 : decode cX2_setFar 19 = .ok (.iload_n 2, 1) := by decide +kernel
theorem dX2_setFar_20 : decode cX2_setFar 20 = .ok (.iadd, 1) := by decide +kernel
theorem dX2_setFar_21 : decode cX2_setFar 21 = .ok (.iload_n 3, 1) := by decide +kernel
theorem dX2_setFar_22 : decode cX2_setFar 22 = .ok (.iastore, 1) := by decide +kernel
theorem dX2_setFar_23 : decode cX2_setFar 23 = .ok (.aload_n 0, 1) := by decide +kernel
theorem dX2_setFar_24 : decode cX2_setFar 24 = .ok (.getfield 13, 3) := by decide +kernel
theorem dX2_setFar_27 : decode cX2_setFar 27 = .ok (.iload_n 2, 1) := by decide +kernel
theorem dX2_setFar_28 : decode cX2_setFar 28 = .ok (.iconst 5, 1) := by decide +kernel
theorem dX2_setFar_29 : decode cX2_setFar 29 = .ok (.imul, 1) := by decide +kernel
theorem dX2_setFar_30 : decode cX2_setFar 30 = .ok (.iload_n 1, 1) := by decide +kernel
theorem dX2_setFar_31 : decode cX2_setFar 31 = .ok (.iadd, 1) := by decide +kernel
theorem dX2_setFar_32 : decode cX2_setFar 32 = .ok (.iload_n 3, 1) := by decide +kernel
theorem dX2_setFar_33 : decode cX2_setFar 33 = .ok (.iastore, 1) := by decide +kernel
theorem dX2_setFar_34 : decode cX2_setFar 34 = .ok (.iload 4, 2) := by decide +kernel
theorem dX2_setFar_36 : decode cX2_setFar 36 = .ok (.ireturn, 1) := by decide +kernel
set_option maxRecDepth 20000 in
theorem ggX2_firstShortDay_X2_gather : GoodIn wsX2_firstShortDay wsX2_gather := goodIn_r _ [5, 6, 7, 8, 9, 10, 11, 4, 12, 25, 26, 27, 28, 29, 30, 31, 32, 33, 34, 35, 36, 37, 38, 39, 40, 41, 42, 43] rfl (by decide +kernel)
set_option maxRecDepth 20000 in
theorem gX2_firstShortDay_X2_gather : GoodIn wsX2_firstShortDay (wsV RX2 54 RX2 yX2_gather wsX2_gather) := goodIn_app (goodIn_of _ (by decide +kernel)) ggX2_firstShortDay_X2_gather
set_option maxRecDepth 20000 in
theorem ggX2_firstShortDay_X8_bookedOf : GoodIn wsX2_firstShortDay wsX8_bookedOf := goodIn_r _ [16, 17, 18, 19, 20, 44, 45] rfl (by decide +kernel)
set_option maxRecDepth 20000 in
theorem gX2_firstShortDay_X8_bookedOf_n58 : GoodIn wsX2_firstShortDay (wsX8_bookedOf) := ggX2_firstShortDay_X8_bookedOf
set_option maxRecDepth 20000 in
theorem ggX2_firstShortDay_X2_shortDay : GoodIn wsX2_firstShortDay wsX2_shortDay := goodIn_r _ [24, 6, 8, 7, 25, 26, 27, 28, 29, 30, 31, 32, 33, 34, 35, 36, 37, 38, 39, 40, 41, 42, 43] rfl (by decide +kernel)
set_option maxRecDepth 20000 in
theorem gX2_firstShortDay_X2_shortDay : GoodIn wsX2_firstShortDay (wsV RX2 64 RX2 yX2_shortDay wsX2_shortDay) := goodIn_app (goodIn_of _ (by decide +kernel)) ggX2_firstShortDay_X2_shortDay
theorem dX2_firstShortDay_0 : decode cX2_firstShortDay 0 = .ok (.aload_n 0, 1) := by decide +kernel
theorem dX2_firstShortDay_1 : decode cX2_firstShortDay 1 = .ok (.aload_n 1, 1) := by decide +kernel
theorem dX2_firstShortDay_2 : decode cX2_firstShortDay 2 = .ok (.iload_n 3, 1) := by decide +kernel
theorem dX2_firstShortDay_3 : decode cX2_firstShortDay 3 = .ok (.bipush (-9), 2) := by decide +kernel
theorem dX2_firstShortDay_5 : decode cX2_firstShortDay 5 = .ok (.invokevirtual 54, 3) := by decide +kernel
theorem dX2_firstShortDay_8 : decode cX2_firstShortDay 8 = .ok (.aload_n 0, 1) := by decide +kernel
theorem dX2_firstShortDay_9 : decode cX2_firstShortDay 9 = .ok (.aload_n 1, 1) := by decide +kernel
theorem dX2_firstShortDay_10 : decode cX2_firstShortDay 10 = .ok (.aload_n 2, 1) := by decide +kernel
theorem dX2_firstShortDay_11 : decode cX2_firstShortDay 11 = .ok (.iload_n 3, 1) := by decide +kernel
theorem dX2_firstShortDay_12 : decode cX2_firstShortDay 12 = .ok (.invokevirtual 58, 3) := by decide +kernel
theorem dX2_firstShortDay_15 : decode cX2_firstShortDay 15 = .ok (.invokevirtual 64, 3) := by decide +kernel
theorem dX2_firstShortDay_18 : decode cX2_firstShortDay 18 = .ok (.ireturn, 1) := by decide +kernel
set_option maxRecDepth 20000 in
theorem ggX2_leastFor_X2_gather : GoodIn wsX2_leastFor wsX2_gather := goodIn_r _ [5, 6, 7, 8, 9, 10, 11, 4, 12, 92, 93, 94, 95, 96, 97, 98, 99, 100, 101, 102, 103, 104, 105, 106, 107, 108, 109, 110] rfl (by decide +kernel)
set_option maxRecDepth 20000 in
theorem gX2_leastFor_X2_gather : GoodIn wsX2_leastFor (wsV RX2 54 RX2 yX2_gather wsX2_gather) := goodIn_app (goodIn_of _ (by decide +kernel)) ggX2_leastFor_X2_gather
set_option maxRecDepth 20000 in
theorem ggX2_leastFor_X8_bookedOf : GoodIn wsX2_leastFor wsX8_bookedOf := goodIn_r _ [16, 17, 18, 19, 20, 111, 112] rfl (by decide +kernel)
set_option maxRecDepth 20000 in
theorem gX2_leastFor_X8_bookedOf_n58 : GoodIn wsX2_leastFor (wsX8_bookedOf) := ggX2_leastFor_X8_bookedOf
set_option maxRecDepth 20000 in
theorem ggX2_leastFor_X2_shortDay : GoodIn wsX2_leastFor wsX2_shortDay := goodIn_r _ [24, 6, 8, 7, 92, 93, 94, 95, 96, 97, 98, 99, 100, 101, 102, 103, 104, 105, 106, 107, 108, 109, 110] rfl (by decide +kernel)
set_option maxRecDepth 20000 in
theorem gX2_leastFor_X2_shortDay : GoodIn wsX2_leastFor (wsV RX2 64 RX2 yX2_shortDay wsX2_shortDay) := goodIn_app (goodIn_of _ (by decide +kernel)) ggX2_leastFor_X2_shortDay
set_option maxRecDepth 20000 in
theorem ggX2_leastFor_X2_layWays : GoodIn wsX2_leastFor wsX2_layWays := goodIn_r _ [28, 29, 30, 31, 32, 33, 34, 35, 36, 37, 4, 38, 39, 40, 41, 42, 43, 92, 93, 94, 95, 96, 97, 98, 99, 100, 101, 102, 103, 104] rfl (by decide +kernel)
set_option maxRecDepth 20000 in
theorem gX2_leastFor_X2_layWays : GoodIn wsX2_leastFor (wsV RX2 68 RX2 yX2_layWays wsX2_layWays) := goodIn_app (goodIn_of _ (by decide +kernel)) ggX2_leastFor_X2_layWays
set_option maxRecDepth 20000 in
theorem ggX2_leastFor_X2_setOut : GoodIn wsX2_leastFor wsX2_setOut := goodIn_r _ [47, 48, 49, 6, 7, 50, 51, 52, 53, 54, 18, 19, 20, 55, 56, 57, 4, 58, 59, 8, 60, 61, 62, 63, 39, 30, 40, 41, 42, 43, 92, 93, 94, 95, 96, 97, 98, 99, 100, 101, 102, 103, 104, 111, 112, 105, 106, 107, 108, 109, 110] rfl (by decide +kernel)
set_option maxRecDepth 20000 in
theorem gX2_leastFor_X2_setOut : GoodIn wsX2_leastFor (wsV RX2 71 RX2 yX2_setOut wsX2_setOut) := goodIn_app (goodIn_of _ (by decide +kernel)) ggX2_leastFor_X2_setOut
set_option maxRecDepth 20000 in
theorem ggX2_leastFor_X2_sendAll : GoodIn wsX2_leastFor wsX2_sendAll := goodIn_r _ [67, 6, 50, 68, 39, 69, 70, 71, 4, 72, 73, 49, 74, 75, 51, 52, 53, 54, 76, 77, 78, 79, 59, 80, 81, 82, 83, 48, 84, 85, 86, 87, 88, 89, 90, 91, 40, 41, 42, 43, 92, 93, 94, 95, 96, 97, 98, 99, 100, 101, 102, 103, 104] rfl (by decide +kernel)
set_option maxRecDepth 20000 in
theorem gX2_leastFor_X2_sendAll : GoodIn wsX2_leastFor (wsV RX2 75 RX2 yX2_sendAll wsX2_sendAll) := goodIn_app (goodIn_of _ (by decide +kernel)) ggX2_leastFor_X2_sendAll
theorem dX2_leastFor_0 : decode cX2_leastFor 0 = .ok (.aload_n 0, 1) := by decide +kernel
theorem dX2_leastFor_1 : decode cX2_leastFor 1 = .ok (.aload_n 1, 1) := by decide +kernel
theorem dX2_leastFor_2 : decode cX2_leastFor 2 = .ok (.iload_n 3, 1) := by decide +kernel
theorem dX2_leastFor_3 : decode cX2_leastFor 3 = .ok (.iload 4, 2) := by decide +kernel
theorem dX2_leastFor_5 : decode cX2_leastFor 5 = .ok (.invokevirtual 54, 3) := by decide +kernel
theorem dX2_leastFor_8 : decode cX2_leastFor 8 = .ok (.aload_n 0, 1) := by decide +kernel
theorem dX2_leastFor_9 : decode cX2_leastFor 9 = .ok (.aload_n 1, 1) := by decide +kernel
theorem dX2_leastFor_10 : decode cX2_leastFor 10 = .ok (.aload_n 2, 1) := by decide +kernel
theorem dX2_leastFor_11 : decode cX2_leastFor 11 = .ok (.iload_n 3, 1) := by decide +kernel
theorem dX2_leastFor_12 : decode cX2_leastFor 12 = .ok (.invokevirtual 58, 3) := by decide +kernel
theorem dX2_leastFor_15 : decode cX2_leastFor 15 = .ok (.invokevirtual 64, 3) := by decide +kernel
theorem dX2_leastFor_18 : decode cX2_leastFor 18 = .ok (.bipush (-9), 2) := by decide +kernel
theorem dX2_leastFor_20 : decode cX2_leastFor 20 = .ok (.if_icmp .eq 6, 3) := by decide +kernel
theorem dX2_leastFor_23 : decode cX2_leastFor 23 = .ok (.bipush (-9), 2) := by decide +kernel
theorem dX2_leastFor_25 : decode cX2_leastFor 25 = .ok (.ireturn, 1) := by decide +kernel
theorem dX2_leastFor_26 : decode cX2_leastFor 26 = .ok (.aload_n 0, 1) := by decide +kernel
theorem dX2_leastFor_27 : decode cX2_leastFor 27 = .ok (.invokevirtual 68, 3) := by decide +kernel
theorem dX2_leastFor_30 : decode cX2_leastFor 30 = .ok (.aload_n 0, 1) := by decide +kernel
theorem dX2_leastFor_31 : decode cX2_leastFor 31 = .ok (.aload_n 1, 1) := by decide +kernel
theorem dX2_leastFor_32 : decode cX2_leastFor 32 = .ok (.aload_n 2, 1) := by decide +kernel
theorem dX2_leastFor_33 : decode cX2_leastFor 33 = .ok (.iload_n 3, 1) := by decide +kernel
theorem dX2_leastFor_34 : decode cX2_leastFor 34 = .ok (.invokevirtual 71, 3) := by decide +kernel
theorem dX2_leastFor_37 : decode cX2_leastFor 37 = .ok (.aload_n 0, 1) := by decide +kernel
theorem dX2_leastFor_38 : decode cX2_leastFor 38 = .ok (.invokevirtual 75, 3) := by decide +kernel
theorem dX2_leastFor_41 : decode cX2_leastFor 41 = .ok (.ireturn, 1) := by decide +kernel
set_option maxRecDepth 20000 in
theorem ggX2_gather_X2_insert : GoodIn wsX2_gather wsX2_insert := goodIn_r _ [8, 1, 2, 9, 10, 11, 12, 13, 14, 15, 16, 17, 18, 19, 20, 21, 22, 23, 24, 25, 26, 27] rfl (by decide +kernel)
set_option maxRecDepth 20000 in
theorem gX2_gather_X2_insert : GoodIn wsX2_gather (wsV RX2 87 RX2 yX2_insert wsX2_insert) := goodIn_app (goodIn_of _ (by decide +kernel)) ggX2_gather_X2_insert
theorem dX2_gather_0 : decode cX2_gather 0 = .ok (.aload_n 0, 1) := by decide +kernel
theorem dX2_gather_1 : decode cX2_gather 1 = .ok (.iconst 0, 1) := by decide +kernel
theorem dX2_gather_2 : decode cX2_gather 2 = .ok (.putfield 26, 3) := by decide +kernel
theorem dX2_gather_5 : decode cX2_gather 5 = .ok (.iconst 0, 1) := by decide +kernel
theorem dX2_gather_6 : decode cX2_gather 6 = .ok (.istore 4, 2) := by decide +kernel
theorem dX2_gather_8 : decode cX2_gather 8 = .ok (.iload 4, 2) := by decide +kernel
theorem dX2_gather_10 : decode cX2_gather 10 = .ok (.aload_n 1, 1) := by decide +kernel
theorem dX2_gather_11 : decode cX2_gather 11 = .ok (.getfield 79, 3) := by decide +kernel
theorem dX2_gather_14 : decode cX2_gather 14 = .ok (.if_icmp .ge 43, 3) := by decide +kernel
theorem dX2_gather_17 : decode cX2_gather 17 = .ok (.aload_n 1, 1) := by decide +kernel
theorem dX2_gather_18 : decode cX2_gather 18 = .ok (.getfield 80, 3) := by decide +kernel
theorem dX2_gather_21 : decode cX2_gather 21 = .ok (.iload 4, 2) := by decide +kernel
theorem dX2_gather_23 : decode cX2_gather 23 = .ok (.baload, 1) := by decide +kernel
theorem dX2_gather_24 : decode cX2_gather 24 = .ok (.ifCond .eq 27, 3) := by decide +kernel
theorem dX2_gather_27 : decode cX2_gather 27 = .ok (.aload_n 1, 1) := by decide +kernel
theorem dX2_gather_28 : decode cX2_gather 28 = .ok (.getfield 84, 3) := by decide +kernel
theorem dX2_gather_31 : decode cX2_gather 31 = .ok (.iload 4, 2) := by decide +kernel
theorem dX2_gather_33 : decode cX2_gather 33 = .ok (.iaload, 1) := by decide +kernel
theorem dX2_gather_34 : decode cX2_gather 34 = .ok (.iload_n 2, 1) := by decide +kernel
theorem dX2_gather_35 : decode cX2_gather 35 = .ok (.if_icmp .ne 16, 3) := by decide +kernel
theorem dX2_gather_38 : decode cX2_gather 38 = .ok (.iload 4, 2) := by decide +kernel
theorem dX2_gather_40 : decode cX2_gather 40 = .ok (.iload_n 3, 1) := by decide +kernel
theorem dX2_gather_41 : decode cX2_gather 41 = .ok (.if_icmp .eq 10, 3) := by decide +kernel
theorem dX2_gather_44 : decode cX2_gather 44 = .ok (.aload_n 0, 1) := by decide +kernel
theorem dX2_gather_45 : decode cX2_gather 45 = .ok (.aload_n 1, 1) := by decide +kernel
theorem dX2_gather_46 : decode cX2_gather 46 = .ok (.iload 4, 2) := by decide +kernel
theorem dX2_gather_48 : decode cX2_gather 48 = .ok (.invokevirtual 87, 3) := by decide +kernel
theorem dX2_gather_51 : decode cX2_gather 51 = .ok (.iinc 4 1, 3) := by decide +kernel
theorem dX2_gather_54 : decode cX2_gather 54 = .ok (.goto (-46), 3) := by decide +kernel
theorem dX2_gather_57 : decode cX2_gather 57 = .ok (.iconst 0, 1) := by decide +kernel
theorem dX2_gather_58 : decode cX2_gather 58 = .ok (.istore 4, 2) := by decide +kernel
theorem dX2_gather_60 : decode cX2_gather 60 = .ok (.iload 4, 2) := by decide +kernel
theorem dX2_gather_62 : decode cX2_gather 62 = .ok (.aload_n 0, 1) := by decide +kernel
theorem dX2_gather_63 : decode cX2_gather 63 = .ok (.getfield 26, 3) := by decide +kernel
theorem dX2_gather_66 : decode cX2_gather 66 = .ok (.if_icmp .ge 86, 3) := by decide +kernel
theorem dX2_gather_69 : decode cX2_gather 69 = .ok (.iload 4, 2) := by decide +kernel
theorem dX2_gather_71 : decode cX2_gather 71 = .ok (.ifCond .le 36, 3) := by decide +kernel
theorem dX2_gather_74 : decode cX2_gather 74 = .ok (.aload_n 1, 1) := by decide +kernel
theorem dX2_gather_75 : decode cX2_gather 75 = .ok (.getfield 91, 3) := by decide +kernel
theorem dX2_gather_78 : decode cX2_gather 78 = .ok (.aload_n 0, 1) := by decide +kernel
theorem dX2_gather_79 : decode cX2_gather 79 = .ok (.getfield 20, 3) := by decide +kernel
theorem dX2_gather_82 : decode cX2_gather 82 = .ok (.iload 4, 2) := by decide +kernel
theorem dX2_gather_84 : decode cX2_gather 84 = .ok (.iaload, 1) := by decide +kernel
theorem dX2_gather_85 : decode cX2_gather 85 = .ok (.iaload, 1) := by decide +kernel
theorem dX2_gather_86 : decode cX2_gather 86 = .ok (.aload_n 1, 1) := by decide +kernel
theorem dX2_gather_87 : decode cX2_gather 87 = .ok (.getfield 91, 3) := by decide +kernel
theorem dX2_gather_90 : decode cX2_gather 90 = .ok (.aload_n 0, 1) := by decide +kernel
theorem dX2_gather_91 : decode cX2_gather 91 = .ok (.getfield 20, 3) := by decide +kernel
theorem dX2_gather_94 : decode cX2_gather 94 = .ok (.iload 4, 2) := by decide +kernel
theorem dX2_gather_96 : decode cX2_gather 96 = .ok (.iconst 1, 1) := by decide +kernel
theorem dX2_gather_97 : decode cX2_gather 97 = .ok (.isub, 1) := by decide +kernel
theorem dX2_gather_98 : decode cX2_gather 98 = .ok (.iaload, 1) := by decide +kernel
theorem dX2_gather_99 : decode cX2_gather 99 = .ok (.iaload, 1) := by decide +kernel
theorem dX2_gather_100 : decode cX2_gather 100 = .ok (.if_icmp .ne 7, 3) := by decide +kernel
theorem dX2_gather_103 : decode cX2_gather 103 = .ok (.iconst 1, 1) := by decide +kernel
theorem dX2_gather_104 : decode cX2_gather 104 = .ok (.goto 4, 3) := by decide +kernel
theorem dX2_gather_107 : decode cX2_gather 107 = .ok (.iconst 0, 1) := by decide +kernel
theorem dX2_gather_108 : decode cX2_gather 108 = .ok (.istore 5, 2) := by decide +kernel
theorem dX2_gather_110 : decode cX2_gather 110 = .ok (.aload_n 0, 1) := by decide +kernel
theorem dX2_gather_111 : decode cX2_gather 111 = .ok (.getfield 23, 3) := by decide +kernel
theorem dX2_gather_114 : decode cX2_gather 114 = .ok (.iload 4, 2) := by decide +kernel
theorem dX2_gather_116 : decode cX2_gather 116 = .ok (.iload 4, 2) := by decide +kernel
theorem dX2_gather_118 : decode cX2_gather 118 = .ok (.ifCond .ne 7, 3) := by decide +kernel
theorem dX2_gather_121 : decode cX2_gather 121 = .ok (.iconst 0, 1) := by decide +kernel
theorem dX2_gather_122 : decode cX2_gather 122 = .ok (.goto 23, 3) := by decide +kernel
theorem dX2_gather_125 : decode cX2_gather 125 = .ok (.aload_n 0, 1) := by decide +kernel
theorem dX2_gather_126 : decode cX2_gather 126 = .ok (.getfield 23, 3) := by decide +kernel
theorem dX2_gather_129 : decode cX2_gather 129 = .ok (.iload 4, 2) := by decide +kernel
theorem dX2_gather_131 : decode cX2_gather 131 = .ok (.iconst 1, 1) := by decide +kernel
theorem dX2_gather_132 : decode cX2_gather 132 = .ok (.isub, 1) := by decide +kernel
theorem dX2_gather_133 : decode cX2_gather 133 = .ok (.iaload, 1) := by decide +kernel
theorem dX2_gather_134 : decode cX2_gather 134 = .ok (.iload 5, 2) := by decide +kernel
theorem dX2_gather_136 : decode cX2_gather 136 = .ok (.ifCond .eq 7, 3) := by decide +kernel
theorem dX2_gather_139 : decode cX2_gather 139 = .ok (.iconst 0, 1) := by decide +kernel
theorem dX2_gather_140 : decode cX2_gather 140 = .ok (.goto 4, 3) := by decide +kernel
theorem dX2_gather_143 : decode cX2_gather 143 = .ok (.iconst 1, 1) := by decide +kernel
theorem dX2_gather_144 : decode cX2_gather 144 = .ok (.iadd, 1) := by decide +kernel
theorem dX2_gather_145 : decode cX2_gather 145 = .ok (.iastore, 1) := by decide +kernel
theorem dX2_gather_146 : decode cX2_gather 146 = .ok (.iinc 4 1, 3) := by decide +kernel
theorem dX2_gather_149 : decode cX2_gather 149 = .ok (.goto (-89), 3) := by decide +kernel
theorem dX2_gather_152 : decode cX2_gather 152 = .ok (.return_, 1) := by decide +kernel
theorem dX2_insert_0 : decode cX2_insert 0 = .ok (.aload_n 0, 1) := by decide +kernel
theorem dX2_insert_1 : decode cX2_insert 1 = .ok (.getfield 26, 3) := by decide +kernel
theorem dX2_insert_4 : decode cX2_insert 4 = .ok (.istore_n 3, 1) := by decide +kernel
theorem dX2_insert_5 : decode cX2_insert 5 = .ok (.aload_n 0, 1) := by decide +kernel
theorem dX2_insert_6 : decode cX2_insert 6 = .ok (.getfield 26, 3) := by decide +kernel
theorem dX2_insert_9 : decode cX2_insert 9 = .ok (.istore 4, 2) := by decide +kernel
theorem dX2_insert_11 : decode cX2_insert 11 = .ok (.iload 4, 2) := by decide +kernel
theorem dX2_insert_13 : decode cX2_insert 13 = .ok (.ifCond .le 53, 3) := by decide +kernel
theorem dX2_insert_16 : decode cX2_insert 16 = .ok (.aload_n 1, 1) := by decide +kernel
theorem dX2_insert_17 : decode cX2_insert 17 = .ok (.getfield 91, 3) := by decide +kernel
theorem dX2_insert_20 : decode cX2_insert 20 = .ok (.aload_n 0, 1) := by decide +kernel
theorem dX2_insert_21 : decode cX2_insert 21 = .ok (.getfield 20, 3) := by decide +kernel
theorem dX2_insert_24 : decode cX2_insert 24 = .ok (.iload 4, 2) := by decide +kernel
theorem dX2_insert_26 : decode cX2_insert 26 = .ok (.iconst 1, 1) := by decide +kernel
theorem dX2_insert_27 : decode cX2_insert 27 = .ok (.isub, 1) := by decide +kernel
theorem dX2_insert_28 : decode cX2_insert 28 = .ok (.iaload, 1) := by decide +kernel
theorem dX2_insert_29 : decode cX2_insert 29 = .ok (.iaload, 1) := by decide +kernel
theorem dX2_insert_30 : decode cX2_insert 30 = .ok (.aload_n 1, 1) := by decide +kernel
theorem dX2_insert_31 : decode cX2_insert 31 = .ok (.getfield 91, 3) := by decide +kernel
theorem dX2_insert_34 : decode cX2_insert 34 = .ok (.iload_n 2, 1) := by decide +kernel
theorem dX2_insert_35 : decode cX2_insert 35 = .ok (.iaload, 1) := by decide +kernel
theorem dX2_insert_36 : decode cX2_insert 36 = .ok (.if_icmp .le 30, 3) := by decide +kernel
theorem dX2_insert_39 : decode cX2_insert 39 = .ok (.aload_n 0, 1) := by decide +kernel
theorem dX2_insert_40 : decode cX2_insert 40 = .ok (.getfield 20, 3) := by decide +kernel
theorem dX2_insert_43 : decode cX2_insert 43 = .ok (.iload 4, 2) := by decide +kernel
theorem dX2_insert_45 : decode cX2_insert 45 = .ok (.aload_n 0, 1) := by decide +kernel
theorem dX2_insert_46 : decode cX2_insert 46 = .ok (.getfield 20, 3) := by decide +kernel
theorem dX2_insert_49 : decode cX2_insert 49 = .ok (.iload 4, 2) := by decide +kernel
theorem dX2_insert_51 : decode cX2_insert 51 = .ok (.iconst 1, 1) := by decide +kernel
theorem dX2_insert_52 : decode cX2_insert 52 = .ok (.isub, 1) := by decide +kernel
theorem dX2_insert_53 : decode cX2_insert 53 = .ok (.iaload, 1) := by decide +kernel
theorem dX2_insert_54 : decode cX2_insert 54 = .ok (.iastore, 1) := by decide +kernel
theorem dX2_insert_55 : decode cX2_insert 55 = .ok (.iload 4, 2) := by decide +kernel
theorem dX2_insert_57 : decode cX2_insert 57 = .ok (.iconst 1, 1) := by decide +kernel
theorem dX2_insert_58 : decode cX2_insert 58 = .ok (.isub, 1) := by decide +kernel
theorem dX2_insert_59 : decode cX2_insert 59 = .ok (.istore_n 3, 1) := by decide +kernel
theorem dX2_insert_60 : decode cX2_insert 60 = .ok (.iinc 4 (-1), 3) := by decide +kernel
theorem dX2_insert_63 : decode cX2_insert 63 = .ok (.goto (-52), 3) := by decide +kernel
theorem dX2_insert_66 : decode cX2_insert 66 = .ok (.aload_n 0, 1) := by decide +kernel
theorem dX2_insert_67 : decode cX2_insert 67 = .ok (.getfield 20, 3) := by decide +kernel
theorem dX2_insert_70 : decode cX2_insert 70 = .ok (.iload_n 3, 1) := by decide +kernel
theorem dX2_insert_71 : decode cX2_insert 71 = .ok (.iload_n 2, 1) := by decide +kernel
theorem dX2_insert_72 : decode cX2_insert 72 = .ok (.iastore, 1) := by decide +kernel
theorem dX2_insert_73 : decode cX2_insert 73 = .ok (.aload_n 0, 1) := by decide +kernel
theorem dX2_insert_74 : decode cX2_insert 74 = .ok (.dup, 1) := by decide +kernel
theorem dX2_insert_75 : decode cX2_insert 75 = .ok (.getfield 26, 3) := by decide +kernel
theorem dX2_insert_78 : decode cX2_insert 78 = .ok (.iconst 1, 1) := by decide +kernel
theorem dX2_insert_79 : decode cX2_insert 79 = .ok (.iadd, 1) := by decide +kernel
theorem dX2_insert_80 : decode cX2_insert 80 = .ok (.putfield 26, 3) := by decide +kernel
theorem dX2_insert_83 : decode cX2_insert 83 = .ok (.return_, 1) := by decide +kernel
theorem dX2_shortDay_0 : decode cX2_shortDay 0 = .ok (.iconst 0, 1) := by decide +kernel
theorem dX2_shortDay_1 : decode cX2_shortDay 1 = .ok (.istore_n 3, 1) := by decide +kernel
theorem dX2_shortDay_2 : decode cX2_shortDay 2 = .ok (.iconst 0, 1) := by decide +kernel
theorem dX2_shortDay_3 : decode cX2_shortDay 3 = .ok (.istore 4, 2) := by decide +kernel
theorem dX2_shortDay_5 : decode cX2_shortDay 5 = .ok (.iload 4, 2) := by decide +kernel
theorem dX2_shortDay_7 : decode cX2_shortDay 7 = .ok (.aload_n 0, 1) := by decide +kernel
theorem dX2_shortDay_8 : decode cX2_shortDay 8 = .ok (.getfield 26, 3) := by decide +kernel
theorem dX2_shortDay_11 : decode cX2_shortDay 11 = .ok (.if_icmp .ge 82, 3) := by decide +kernel
theorem dX2_shortDay_14 : decode cX2_shortDay 14 = .ok (.iload 4, 2) := by decide +kernel
theorem dX2_shortDay_16 : decode cX2_shortDay 16 = .ok (.ifCond .le 26, 3) := by decide +kernel
theorem dX2_shortDay_19 : decode cX2_shortDay 19 = .ok (.aload_n 0, 1) := by decide +kernel
theorem dX2_shortDay_20 : decode cX2_shortDay 20 = .ok (.getfield 23, 3) := by decide +kernel
theorem dX2_shortDay_23 : decode cX2_shortDay 23 = .ok (.iload 4, 2) := by decide +kernel
theorem dX2_shortDay_25 : decode cX2_shortDay 25 = .ok (.iaload, 1) := by decide +kernel
theorem dX2_shortDay_26 : decode cX2_shortDay 26 = .ok (.aload_n 0, 1) := by decide +kernel
theorem dX2_shortDay_27 : decode cX2_shortDay 27 = .ok (.getfield 23, 3) := by decide +kernel
theorem dX2_shortDay_30 : decode cX2_shortDay 30 = .ok (.iload 4, 2) := by decide +kernel
theorem dX2_shortDay_32 : decode cX2_shortDay 32 = .ok (.iconst 1, 1) := by decide +kernel
theorem dX2_shortDay_33 : decode cX2_shortDay 33 = .ok (.isub, 1) := by decide +kernel
theorem dX2_shortDay_34 : decode cX2_shortDay 34 = .ok (.iaload, 1) := by decide +kernel
theorem dX2_shortDay_35 : decode cX2_shortDay 35 = .ok (.if_icmp .ne 7, 3) := by decide +kernel
theorem dX2_shortDay_38 : decode cX2_shortDay 38 = .ok (.iconst 1, 1) := by decide +kernel
theorem dX2_shortDay_39 : decode cX2_shortDay 39 = .ok (.goto 4, 3) := by decide +kernel
theorem dX2_shortDay_42 : decode cX2_shortDay 42 = .ok (.iconst 0, 1) := by decide +kernel
theorem dX2_shortDay_43 : decode cX2_shortDay 43 = .ok (.istore 5, 2) := by decide +kernel
theorem dX2_shortDay_45 : decode cX2_shortDay 45 = .ok (.iload 5, 2) := by decide +kernel
theorem dX2_shortDay_47 : decode cX2_shortDay 47 = .ok (.ifCond .eq 7, 3) := by decide +kernel
theorem dX2_shortDay_50 : decode cX2_shortDay 50 = .ok (.iload_n 3, 1) := by decide +kernel
theorem dX2_shortDay_51 : decode cX2_shortDay 51 = .ok (.goto 4, 3) := by decide +kernel
theorem dX2_shortDay_54 : decode cX2_shortDay 54 = .ok (.iconst 0, 1) := by decide +kernel
theorem dX2_shortDay_55 : decode cX2_shortDay 55 = .ok (.aload_n 1, 1) := by decide +kernel
theorem dX2_shortDay_56 : decode cX2_shortDay 56 = .ok (.getfield 94, 3) := by decide +kernel
theorem dX2_shortDay_59 : decode cX2_shortDay 59 = .ok (.aload_n 0, 1) := by decide +kernel
theorem dX2_shortDay_60 : decode cX2_shortDay 60 = .ok (.getfield 20, 3) := by decide +kernel
theorem dX2_shortDay_63 : decode cX2_shortDay 63 = .ok (.iload 4, 2) := by decide +kernel
theorem dX2_shortDay_65 : decode cX2_shortDay 65 = .ok (.iaload, 1) := by decide +kernel
theorem dX2_shortDay_66 : decode cX2_shortDay 66 = .ok (.iaload, 1) := by decide +kernel
theorem dX2_shortDay_67 : decode cX2_shortDay 67 = .ok (.iadd, 1) := by decide +kernel
theorem dX2_shortDay_68 : decode cX2_shortDay 68 = .ok (.istore_n 3, 1) := by decide +kernel
theorem dX2_shortDay_69 : decode cX2_shortDay 69 = .ok (.iload_n 3, 1) := by decide +kernel
theorem dX2_shortDay_70 : decode cX2_shortDay 70 = .ok (.iload_n 2, 1) := by decide +kernel
theorem dX2_shortDay_71 : decode cX2_shortDay 71 = .ok (.if_icmp .le 16, 3) := by decide +kernel
theorem dX2_shortDay_74 : decode cX2_shortDay 74 = .ok (.aload_n 1, 1) := by decide +kernel
theorem dX2_shortDay_75 : decode cX2_shortDay 75 = .ok (.getfield 91, 3) := by decide +kernel
theorem dX2_shortDay_78 : decode cX2_shortDay 78 = .ok (.aload_n 0, 1) := by decide +kernel
theorem dX2_shortDay_79 : decode cX2_shortDay 79 = .ok (.getfield 20, 3) := by decide +kernel
theorem dX2_shortDay_82 : decode cX2_shortDay 82 = .ok (.iload 4, 2) := by decide +kernel
theorem dX2_shortDay_84 : decode cX2_shortDay 84 = .ok (.iaload, 1) := by decide +kernel
theorem dX2_shortDay_85 : decode cX2_shortDay 85 = .ok (.iaload, 1) := by decide +kernel
theorem dX2_shortDay_86 : decode cX2_shortDay 86 = .ok (.ireturn, 1) := by decide +kernel
theorem dX2_shortDay_87 : decode cX2_shortDay 87 = .ok (.iinc 4 1, 3) := by decide +kernel
theorem dX2_shortDay_90 : decode cX2_shortDay 90 = .ok (.goto (-85), 3) := by decide +kernel
theorem dX2_shortDay_93 : decode cX2_shortDay 93 = .ok (.bipush (-9), 2) := by decide +kernel
theorem dX2_shortDay_95 : decode cX2_shortDay 95 = .ok (.ireturn, 1) := by decide +kernel
set_option maxRecDepth 20000 in
theorem ggX2_layWays_X2_leastBetween : GoodIn wsX2_layWays wsX2_leastBetween := goodIn_r _ [11, 12, 2, 1, 13, 14, 15, 16, 17, 18, 19, 20, 21, 22, 23, 24, 25, 26, 27, 28, 29] rfl (by decide +kernel)
set_option maxRecDepth 20000 in
theorem gX2_layWays_X2_leastBetween : GoodIn wsX2_layWays (wsV RX2 103 RX2 yX2_leastBetween wsX2_leastBetween) := goodIn_app (goodIn_of _ (by decide +kernel)) ggX2_layWays_X2_leastBetween
theorem dX2_layWays_0 : decode cX2_layWays 0 = .ok (.aload_n 0, 1) := by decide +kernel
theorem dX2_layWays_1 : decode cX2_layWays 1 = .ok (.getfield 13, 3) := by decide +kernel
theorem dX2_layWays_4 : decode cX2_layWays 4 = .ok (.iconst 0, 1) := by decide +kernel
theorem dX2_layWays_5 : decode cX2_layWays 5 = .ok (.aload_n 0, 1) := by decide +kernel
theorem dX2_layWays_6 : decode cX2_layWays 6 = .ok (.getfield 17, 3) := by decide +kernel
theorem dX2_layWays_9 : decode cX2_layWays 9 = .ok (.iconst 0, 1) := by decide +kernel
theorem dX2_layWays_10 : decode cX2_layWays 10 = .ok (.bipush 25, 2) := by decide +kernel
theorem dX2_layWays_12 : decode cX2_layWays 12 = .ok (.invokestatic 97, 3) := by decide +kernel
theorem dX2_layWays_15 : decode cX2_layWays 15 = .ok (.iconst 2, 1) := by decide +kernel
theorem dX2_layWays_16 : decode cX2_layWays 16 = .ok (.istore_n 1, 1) := by decide +kernel
theorem dX2_layWays_17 : decode cX2_layWays 17 = .ok (.iload_n 1, 1) := by decide +kernel
theorem dX2_layWays_18 : decode cX2_layWays 18 = .ok (.iconst 4, 1) := by decide +kernel
theorem dX2_layWays_19 : decode cX2_layWays 19 = .ok (.if_icmp .gt 47, 3) := by decide +kernel
theorem dX2_layWays_22 : decode cX2_layWays 22 = .ok (.iconst 0, 1) := by decide +kernel
theorem dX2_layWays_23 : decode cX2_layWays 23 = .ok (.istore_n 2, 1) := by decide +kernel
theorem dX2_layWays_24 : decode cX2_layWays 24 = .ok (.iload_n 2, 1) := by decide +kernel
theorem dX2_layWays_25 : decode cX2_layWays 25 = .ok (.bipush 25, 2) := by decide +kernel
theorem dX2_layWays_27 : decode cX2_layWays 27 = .ok (.if_icmp .ge 33, 3) := by decide +kernel
theorem dX2_layWays_30 : decode cX2_layWays 30 = .ok (.aload_n 0, 1) := by decide +kernel
theorem dX2_layWays_31 : decode cX2_layWays 31 = .ok (.getfield 17, 3) := by decide +kernel
theorem dX2_layWays_34 : decode cX2_layWays 34 = .ok (.iload_n 1, 1) := by decide +kernel
theorem dX2_layWays_35 : decode cX2_layWays 35 = .ok (.iconst 1, 1) := by decide +kernel
theorem dX2_layWays_36 : decode cX2_layWays 36 = .ok (.isub, 1) := by decide +kernel
theorem dX2_layWays_37 : decode cX2_layWays 37 = .ok (.bipush 25, 2) := by decide +kernel
theorem dX2_layWays_39 : decode cX2_layWays 39 = .ok (.imul, 1) := by decide +kernel
theorem dX2_layWays_40 : decode cX2_layWays 40 = .ok (.iload_n 2, 1) := by decide +kernel
theorem dX2_layWays_41 : decode cX2_layWays 41 = .ok (.iadd, 1) := by decide +kernel
theorem dX2_layWays_42 : decode cX2_layWays 42 = .ok (.aload_n 0, 1) := by decide +kernel
theorem dX2_layWays_43 : decode cX2_layWays 43 = .ok (.iload_n 1, 1) := by decide +kernel
theorem dX2_layWays_44 : decode cX2_layWays 44 = .ok (.iload_n 2, 1) := by decide +kernel
theorem dX2_layWays_45 : decode cX2_layWays 45 = .ok (.iconst 5, 1) := by decide +kernel
theorem dX2_layWays_46 : decode cX2_layWays 46 = .ok (.idiv, 1) := by decide +kernel
theorem dX2_layWays_47 : decode cX2_layWays 47 = .ok (.iload_n 2, 1) := by decide +kernel
theorem dX2_layWays_48 : decode cX2_layWays 48 = .ok (.iconst 5, 1) := by decide +kernel
theorem dX2_layWays_49 : decode cX2_layWays 49 = .ok (.irem, 1) := by decide +kernel
theorem dX2_layWays_50 : decode cX2_layWays 50 = .ok (.invokevirtual 103, 3) := by decide +kernel
theorem dX2_layWays_53 : decode cX2_layWays 53 = .ok (.iastore, 1) := by decide +kernel
theorem dX2_layWays_54 : decode cX2_layWays 54 = .ok (.iinc 2 1, 3) := by decide +kernel
theorem dX2_layWays_57 : decode cX2_layWays 57 = .ok (.goto (-33), 3) := by decide +kernel
theorem dX2_layWays_60 : decode cX2_layWays 60 = .ok (.iinc 1 1, 3) := by decide +kernel
theorem dX2_layWays_63 : decode cX2_layWays 63 = .ok (.goto (-46), 3) := by decide +kernel
theorem dX2_layWays_66 : decode cX2_layWays 66 = .ok (.return_, 1) := by decide +kernel
theorem dX2_leastBetween_0 : decode cX2_leastBetween 0 = .ok (.ldc 107, 2) := by decide +kernel
theorem dX2_leastBetween_2 : decode cX2_leastBetween 2 = .ok (.istore 4, 2) := by decide +kernel
theorem dX2_leastBetween_4 : decode cX2_leastBetween 4 = .ok (.iload_n 1, 1) := by decide +kernel
theorem dX2_leastBetween_5 : decode cX2_leastBetween 5 = .ok (.iconst 2, 1) := by decide +kernel
theorem dX2_leastBetween_6 : decode cX2_leastBetween 6 = .ok (.isub, 1) := by decide +kernel
theorem dX2_leastBetween_7 : decode cX2_leastBetween 7 = .ok (.bipush 25, 2) := by decide +kernel
theorem dX2_leastBetween_9 : decode cX2_leastBetween 9 = .ok (.imul, 1) := by decide +kernel
theorem dX2_leastBetween_10 : decode cX2_leastBetween 10 = .ok (.istore 5, 2) := by decide +kernel
theorem dX2_leastBetween_12 : decode cX2_leastBetween 12 = .ok (.iconst 0, 1) := by decide +kernel
theorem dX2_leastBetween_13 : decode cX2_leastBetween 13 = .ok (.istore 6, 2) := by decide +kernel
theorem dX2_leastBetween_15 : decode cX2_leastBetween 15 = .ok (.iload 6, 2) := by decide +kernel
theorem dX2_leastBetween_17 : decode cX2_leastBetween 17 = .ok (.iconst 5, 1) := by decide +kernel
theorem dX2_leastBetween_18 : decode cX2_leastBetween 18 = .ok (.if_icmp .ge 42, 3) := by decide +kernel
theorem dX2_leastBetween_21 : decode cX2_leastBetween 21 = .ok (.iload 4, 2) := by decide +kernel
theorem dX2_leastBetween_23 : decode cX2_leastBetween 23 = .ok (.aload_n 0, 1) := by decide +kernel
theorem dX2_leastBetween_24 : decode cX2_leastBetween 24 = .ok (.getfield 17, 3) := by decide +kernel
theorem dX2_leastBetween_27 : decode cX2_leastBetween 27 = .ok (.iload 5, 2) := by decide +kernel
theorem dX2_leastBetween_29 : decode cX2_leastBetween 29 = .ok (.iload_n 2, 1) := by decide +kernel
theorem dX2_leastBetween_30 : decode cX2_leastBetween 30 = .ok (.iconst 5, 1) := by decide +kernel
theorem dX2_leastBetween_31 : decode cX2_leastBetween 31 = .ok (.imul, 1) := by decide +kernel
theorem dX2_leastBetween_32 : decode cX2_leastBetween 32 = .ok (.iadd, 1) := by decide +kernel
theorem dX2_leastBetween_33 : decode cX2_leastBetween 33 = .ok (.iload 6, 2) := by decide +kernel
theorem dX2_leastBetween_35 : decode cX2_leastBetween 35 = .ok (.iadd, 1) := by decide +kernel
theorem dX2_leastBetween_36 : decode cX2_leastBetween 36 = .ok (.iaload, 1) := by decide +kernel
theorem dX2_leastBetween_37 : decode cX2_leastBetween 37 = .ok (.aload_n 0, 1) := by decide +kernel
theorem dX2_leastBetween_38 : decode cX2_leastBetween 38 = .ok (.getfield 13, 3) := by decide +kernel
theorem dX2_leastBetween_41 : decode cX2_leastBetween 41 = .ok (.iload 6, 2) := by decide +kernel
theorem dX2_leastBetween_43 : decode cX2_leastBetween 43 = .ok (.iconst 5, 1) := by decide +kernel
theorem dX2_leastBetween_44 : decode cX2_leastBetween 44 = .ok (.imul, 1) := by decide +kernel
theorem dX2_leastBetween_45 : decode cX2_leastBetween 45 = .ok (.iload_n 3, 1) := by decide +kernel
theorem dX2_leastBetween_46 : decode cX2_leastBetween 46 = .ok (.iadd, 1) := by decide +kernel
theorem dX2_leastBetween_47 : decode cX2_leastBetween 47 = .ok (.iaload, 1) := by decide +kernel
theorem dX2_leastBetween_48 : decode cX2_leastBetween 48 = .ok (.iadd, 1) := by decide +kernel
theorem dX2_leastBetween_49 : decode cX2_leastBetween 49 = .ok (.invokestatic 108, 3) := by decide +kernel
theorem dX2_leastBetween_52 : decode cX2_leastBetween 52 = .ok (.istore 4, 2) := by decide +kernel
theorem dX2_leastBetween_54 : decode cX2_leastBetween 54 = .ok (.iinc 6 1, 3) := by decide +kernel
theorem dX2_leastBetween_57 : decode cX2_leastBetween 57 = .ok (.goto (-42), 3) := by decide +kernel
theorem dX2_leastBetween_60 : decode cX2_leastBetween 60 = .ok (.iload 4, 2) := by decide +kernel
theorem dX2_leastBetween_62 : decode cX2_leastBetween 62 = .ok (.ireturn, 1) := by decide +kernel
theorem dX2_way_0 : decode cX2_way 0 = .ok (.iload_n 1, 1) := by decide +kernel
theorem dX2_way_1 : decode cX2_way 1 = .ok (.iconst 1, 1) := by decide +kernel
theorem dX2_way_2 : decode cX2_way 2 = .ok (.if_icmp .ge 6, 3) := by decide +kernel
theorem dX2_way_5 : decode cX2_way 5 = .ok (.ldc 107, 2) := by decide +kernel
theorem dX2_way_7 : decode cX2_way 7 = .ok (.ireturn, 1) := by decide +kernel
theorem dX2_way_8 : decode cX2_way 8 = .ok (.aload_n 0, 1) := by decide +kernel
theorem dX2_way_9 : decode cX2_way 9 = .ok (.getfield 17, 3) := by decide +kernel
theorem dX2_way_12 : decode cX2_way 12 = .ok (.iload_n 1, 1) := by decide +kernel
theorem dX2_way_13 : decode cX2_way 13 = .ok (.iconst 4, 1) := by decide +kernel
theorem dX2_way_14 : decode cX2_way 14 = .ok (.invokestatic 108, 3) := by decide +kernel
theorem dX2_way_17 : decode cX2_way 17 = .ok (.iconst 1, 1) := by decide +kernel
theorem dX2_way_18 : decode cX2_way 18 = .ok (.isub, 1) := by decide +kernel
theorem dX2_way_19 : decode cX2_way 19 = .ok (.bipush 25, 2) := by decide +kernel
theorem dX2_way_21 : decode cX2_way 21 = .ok (.imul, 1) := by decide +kernel
theorem dX2_way_22 : decode cX2_way 22 = .ok (.iload_n 2, 1) := by decide +kernel
theorem dX2_way_23 : decode cX2_way 23 = .ok (.iconst 5, 1) := by decide +kernel
theorem dX2_way_24 : decode cX2_way 24 = .ok (.imul, 1) := by decide +kernel
theorem dX2_way_25 : decode cX2_way 25 = .ok (.iadd, 1) := by decide +kernel
theorem dX2_way_26 : decode cX2_way 26 = .ok (.iload_n 3, 1) := by decide +kernel
theorem dX2_way_27 : decode cX2_way 27 = .ok (.iadd, 1) := by decide +kernel
theorem dX2_way_28 : decode cX2_way 28 = .ok (.iaload, 1) := by decide +kernel
theorem dX2_way_29 : decode cX2_way 29 = .ok (.ireturn, 1) := by decide +kernel
set_option maxRecDepth 20000 in
theorem ggX2_setOut_J7_fill_53178 : GoodIn wsX2_setOut wsJ7_fill_53178 := goodIn_r _ [9] rfl (by decide +kernel)
set_option maxRecDepth 20000 in
theorem gX2_setOut_J7_fill_53178 : GoodIn wsX2_setOut (va_wsS RX2 114 yJ7_fill_53178 wsJ7_fill_53178) := goodIn_app (goodIn_of _ (by decide +kernel)) ggX2_setOut_J7_fill_53178
set_option maxRecDepth 20000 in
theorem ggX2_setOut_X10_cell : GoodIn wsX2_setOut wsX10_cell := goodIn_r _ [12] rfl (by decide +kernel)
set_option maxRecDepth 20000 in
theorem gX2_setOut_X10_cell_n123 : GoodIn wsX2_setOut (wsX10_cell) := ggX2_setOut_X10_cell
set_option maxRecDepth 20000 in
theorem ggX2_setOut_X2_setPrices : GoodIn wsX2_setOut wsX2_setPrices := goodIn_r _ [17, 4, 18, 19, 3, 20, 21, 22, 16, 23, 24, 25, 26, 27, 28, 29, 45, 46, 47, 48, 49, 50, 30, 31, 32, 33, 34, 35, 36, 37, 38, 39, 40, 41, 42] rfl (by decide +kernel)
set_option maxRecDepth 20000 in
theorem gX2_setOut_X2_setPrices : GoodIn wsX2_setOut (wsV RX2 126 RX2 yX2_setPrices wsX2_setPrices) := goodIn_app (goodIn_of _ (by decide +kernel)) ggX2_setOut_X2_setPrices
theorem dX2_setOut_0 : decode cX2_setOut 0 = .ok (.aload_n 0, 1) := by decide +kernel
theorem dX2_setOut_1 : decode cX2_setOut 1 = .ok (.getfield 33, 3) := by decide +kernel
theorem dX2_setOut_4 : decode cX2_setOut 4 = .ok (.iconst 0, 1) := by decide +kernel
theorem dX2_setOut_5 : decode cX2_setOut 5 = .ok (.invokestatic 114, 3) := by decide +kernel
theorem dX2_setOut_8 : decode cX2_setOut 8 = .ok (.iconst 0, 1) := by decide +kernel
theorem dX2_setOut_9 : decode cX2_setOut 9 = .ok (.istore 4, 2) := by decide +kernel
theorem dX2_setOut_11 : decode cX2_setOut 11 = .ok (.iload 4, 2) := by decide +kernel
theorem dX2_setOut_13 : decode cX2_setOut 13 = .ok (.iconst 5, 1) := by decide +kernel
theorem dX2_setOut_14 : decode cX2_setOut 14 = .ok (.if_icmp .ge 27, 3) := by decide +kernel
theorem dX2_setOut_17 : decode cX2_setOut 17 = .ok (.aload_n 0, 1) := by decide +kernel
theorem dX2_setOut_18 : decode cX2_setOut 18 = .ok (.getfield 36, 3) := by decide +kernel
theorem dX2_setOut_21 : decode cX2_setOut 21 = .ok (.iload 4, 2) := by decide +kernel
theorem dX2_setOut_23 : decode cX2_setOut 23 = .ok (.aload_n 2, 1) := by decide +kernel
theorem dX2_setOut_24 : decode cX2_setOut 24 = .ok (.getfield 120, 3) := by decide +kernel
theorem dX2_setOut_27 : decode cX2_setOut 27 = .ok (.iload 4, 2) := by decide +kernel
theorem dX2_setOut_29 : decode cX2_setOut 29 = .ok (.iload_n 3, 1) := by decide +kernel
theorem dX2_setOut_30 : decode cX2_setOut 30 = .ok (.invokestatic 123, 3) := by decide +kernel
theorem dX2_setOut_33 : decode cX2_setOut 33 = .ok (.iaload, 1) := by decide +kernel
theorem dX2_setOut_34 : decode cX2_setOut 34 = .ok (.iastore, 1) := by decide +kernel
theorem dX2_setOut_35 : decode cX2_setOut 35 = .ok (.iinc 4 1, 3) := by decide +kernel
theorem dX2_setOut_38 : decode cX2_setOut 38 = .ok (.goto (-27), 3) := by decide +kernel
theorem dX2_setOut_41 : decode cX2_setOut 41 = .ok (.iconst 0, 1) := by decide +kernel
theorem dX2_setOut_42 : decode cX2_setOut 42 = .ok (.istore 4, 2) := by decide +kernel
theorem dX2_setOut_44 : decode cX2_setOut 44 = .ok (.iload 4, 2) := by decide +kernel
theorem dX2_setOut_46 : decode cX2_setOut 46 = .ok (.aload_n 0, 1) := by decide +kernel
theorem dX2_setOut_47 : decode cX2_setOut 47 = .ok (.getfield 26, 3) := by decide +kernel
theorem dX2_setOut_50 : decode cX2_setOut 50 = .ok (.if_icmp .ge 50, 3) := by decide +kernel
theorem dX2_setOut_53 : decode cX2_setOut 53 = .ok (.aload_n 1, 1) := by decide +kernel
theorem dX2_setOut_54 : decode cX2_setOut 54 = .ok (.getfield 94, 3) := by decide +kernel
theorem dX2_setOut_57 : decode cX2_setOut 57 = .ok (.aload_n 0, 1) := by decide +kernel
theorem dX2_setOut_58 : decode cX2_setOut 58 = .ok (.getfield 20, 3) := by decide +kernel
theorem dX2_setOut_61 : decode cX2_setOut 61 = .ok (.iload 4, 2) := by decide +kernel
theorem dX2_setOut_63 : decode cX2_setOut 63 = .ok (.iaload, 1) := by decide +kernel
theorem dX2_setOut_64 : decode cX2_setOut 64 = .ok (.iaload, 1) := by decide +kernel
theorem dX2_setOut_65 : decode cX2_setOut 65 = .ok (.istore 5, 2) := by decide +kernel
theorem dX2_setOut_67 : decode cX2_setOut 67 = .ok (.aload_n 0, 1) := by decide +kernel
theorem dX2_setOut_68 : decode cX2_setOut 68 = .ok (.getfield 36, 3) := by decide +kernel
theorem dX2_setOut_71 : decode cX2_setOut 71 = .ok (.iconst 5, 1) := by decide +kernel
theorem dX2_setOut_72 : decode cX2_setOut 72 = .ok (.iload 4, 2) := by decide +kernel
theorem dX2_setOut_74 : decode cX2_setOut 74 = .ok (.iadd, 1) := by decide +kernel
theorem dX2_setOut_75 : decode cX2_setOut 75 = .ok (.iload 5, 2) := by decide +kernel
theorem dX2_setOut_77 : decode cX2_setOut 77 = .ok (.iastore, 1) := by decide +kernel
theorem dX2_setOut_78 : decode cX2_setOut 78 = .ok (.aload_n 0, 1) := by decide +kernel
theorem dX2_setOut_79 : decode cX2_setOut 79 = .ok (.getfield 39, 3) := by decide +kernel
theorem dX2_setOut_82 : decode cX2_setOut 82 = .ok (.iload 4, 2) := by decide +kernel
theorem dX2_setOut_84 : decode cX2_setOut 84 = .ok (.iload 5, 2) := by decide +kernel
theorem dX2_setOut_86 : decode cX2_setOut 86 = .ok (.iastore, 1) := by decide +kernel
theorem dX2_setOut_87 : decode cX2_setOut 87 = .ok (.aload_n 0, 1) := by decide +kernel
theorem dX2_setOut_88 : decode cX2_setOut 88 = .ok (.aload_n 1, 1) := by decide +kernel
theorem dX2_setOut_89 : decode cX2_setOut 89 = .ok (.iload 4, 2) := by decide +kernel
theorem dX2_setOut_91 : decode cX2_setOut 91 = .ok (.invokevirtual 126, 3) := by decide +kernel
theorem dX2_setOut_94 : decode cX2_setOut 94 = .ok (.iinc 4 1, 3) := by decide +kernel
theorem dX2_setOut_97 : decode cX2_setOut 97 = .ok (.goto (-53), 3) := by decide +kernel
theorem dX2_setOut_100 : decode cX2_setOut 100 = .ok (.return_, 1) := by decide +kernel
set_option maxRecDepth 20000 in
theorem ggX2_setPrices_X2_way : GoodIn wsX2_setPrices wsX2_way := goodIn_r _ [9, 10, 11, 12, 13, 14, 15, 22, 23, 24, 25, 26, 27, 28, 29, 30, 31, 32, 33, 34] rfl (by decide +kernel)
set_option maxRecDepth 20000 in
theorem gX2_setPrices_X2_way : GoodIn wsX2_setPrices (wsV RX2 132 RX2 yX2_way wsX2_way) := goodIn_app (goodIn_of _ (by decide +kernel)) ggX2_setPrices_X2_way
theorem dX2_setPrices_0 : decode cX2_setPrices 0 = .ok (.aload_n 1, 1) := by decide +kernel
theorem dX2_setPrices_1 : decode cX2_setPrices 1 = .ok (.getfield 129, 3) := by decide +kernel
theorem dX2_setPrices_4 : decode cX2_setPrices 4 = .ok (.aload_n 0, 1) := by decide +kernel
theorem dX2_setPrices_5 : decode cX2_setPrices 5 = .ok (.getfield 20, 3) := by decide +kernel
theorem dX2_setPrices_8 : decode cX2_setPrices 8 = .ok (.iload_n 2, 1) := by decide +kernel
theorem dX2_setPrices_9 : decode cX2_setPrices 9 = .ok (.iaload, 1) := by decide +kernel
theorem dX2_setPrices_10 : decode cX2_setPrices 10 = .ok (.iaload, 1) := by decide +kernel
theorem dX2_setPrices_11 : decode cX2_setPrices 11 = .ok (.istore_n 3, 1) := by decide +kernel
theorem dX2_setPrices_12 : decode cX2_setPrices 12 = .ok (.iconst 0, 1) := by decide +kernel
theorem dX2_setPrices_13 : decode cX2_setPrices 13 = .ok (.istore 4, 2) := by decide +kernel
theorem dX2_setPrices_15 : decode cX2_setPrices 15 = .ok (.iload 4, 2) := by decide +kernel
theorem dX2_setPrices_17 : decode cX2_setPrices 17 = .ok (.iconst 5, 1) := by decide +kernel
theorem dX2_setPrices_18 : decode cX2_setPrices 18 = .ok (.if_icmp .ge 36, 3) := by decide +kernel
theorem dX2_setPrices_21 : decode cX2_setPrices 21 = .ok (.aload_n 0, 1) := by decide +kernel
theorem dX2_setPrices_22 : decode cX2_setPrices 22 = .ok (.getfield 30, 3) := by decide +kernel
theorem dX2_setPrices_25 : decode cX2_setPrices 25 = .ok (.iload 4, 2) := by decide +kernel
theorem dX2_setPrices_27 : decode cX2_setPrices 27 = .ok (.bipush 12, 2) := by decide +kernel
theorem dX2_setPrices_29 : decode cX2_setPrices 29 = .ok (.imul, 1) := by decide +kernel
theorem dX2_setPrices_30 : decode cX2_setPrices 30 = .ok (.iload_n 2, 1) := by decide +kernel
theorem dX2_setPrices_31 : decode cX2_setPrices 31 = .ok (.iadd, 1) := by decide +kernel
theorem dX2_setPrices_32 : decode cX2_setPrices 32 = .ok (.aload_n 0, 1) := by decide +kernel
theorem dX2_setPrices_33 : decode cX2_setPrices 33 = .ok (.aload_n 0, 1) := by decide +kernel
theorem dX2_setPrices_34 : decode cX2_setPrices 34 = .ok (.getfield 23, 3) := by decide +kernel
theorem dX2_setPrices_37 : decode cX2_setPrices 37 = .ok (.iload_n 2, 1) := by decide +kernel
theorem dX2_setPrices_38 : decode cX2_setPrices 38 = .ok (.iaload, 1) := by decide +kernel
theorem dX2_setPrices_39 : decode cX2_setPrices 39 = .ok (.iconst 1, 1) := by decide +kernel
theorem dX2_setPrices_40 : decode cX2_setPrices 40 = .ok (.iadd, 1) := by decide +kernel
theorem dX2_setPrices_41 : decode cX2_setPrices 41 = .ok (.iload 4, 2) := by decide +kernel
theorem dX2_setPrices_43 : decode cX2_setPrices 43 = .ok (.iload_n 3, 1) := by decide +kernel
theorem dX2_setPrices_44 : decode cX2_setPrices 44 = .ok (.invokevirtual 132, 3) := by decide +kernel
theorem dX2_setPrices_47 : decode cX2_setPrices 47 = .ok (.iastore, 1) := by decide +kernel
theorem dX2_setPrices_48 : decode cX2_setPrices 48 = .ok (.iinc 4 1, 3) := by decide +kernel
theorem dX2_setPrices_51 : decode cX2_setPrices 51 = .ok (.goto (-36), 3) := by decide +kernel
theorem dX2_setPrices_54 : decode cX2_setPrices 54 = .ok (.iconst 0, 1) := by decide +kernel
theorem dX2_setPrices_55 : decode cX2_setPrices 55 = .ok (.istore 4, 2) := by decide +kernel
theorem dX2_setPrices_57 : decode cX2_setPrices 57 = .ok (.iload 4, 2) := by decide +kernel
theorem dX2_setPrices_59 : decode cX2_setPrices 59 = .ok (.aload_n 0, 1) := by decide +kernel
theorem dX2_setPrices_60 : decode cX2_setPrices 60 = .ok (.getfield 26, 3) := by decide +kernel
theorem dX2_setPrices_63 : decode cX2_setPrices 63 = .ok (.if_icmp .ge 58, 3) := by decide +kernel
theorem dX2_setPrices_66 : decode cX2_setPrices 66 = .ok (.aload_n 1, 1) := by decide +kernel
theorem dX2_setPrices_67 : decode cX2_setPrices 67 = .ok (.getfield 129, 3) := by decide +kernel
theorem dX2_setPrices_70 : decode cX2_setPrices 70 = .ok (.aload_n 0, 1) := by decide +kernel
theorem dX2_setPrices_71 : decode cX2_setPrices 71 = .ok (.getfield 20, 3) := by decide +kernel
theorem dX2_setPrices_74 : decode cX2_setPrices 74 = .ok (.iload 4, 2) := by decide +kernel
theorem dX2_setPrices_76 : decode cX2_setPrices 76 = .ok (.iaload, 1) := by decide +kernel
theorem dX2_setPrices_77 : decode cX2_setPrices 77 = .ok (.iaload, 1) := by decide +kernel
theorem dX2_setPrices_78 : decode cX2_setPrices 78 = .ok (.istore 5, 2) := by decide +kernel
theorem dX2_setPrices_80 : decode cX2_setPrices 80 = .ok (.aload_n 0, 1) := by decide +kernel
theorem dX2_setPrices_81 : decode cX2_setPrices 81 = .ok (.getfield 30, 3) := by decide +kernel
theorem dX2_setPrices_84 : decode cX2_setPrices 84 = .ok (.iconst 5, 1) := by decide +kernel
theorem dX2_setPrices_85 : decode cX2_setPrices 85 = .ok (.iload 4, 2) := by decide +kernel
theorem dX2_setPrices_87 : decode cX2_setPrices 87 = .ok (.iadd, 1) := by decide +kernel
theorem dX2_setPrices_88 : decode cX2_setPrices 88 = .ok (.bipush 12, 2) := by decide +kernel
theorem dX2_setPrices_90 : decode cX2_setPrices 90 = .ok (.imul, 1) := by decide +kernel
theorem dX2_setPrices_91 : decode cX2_setPrices 91 = .ok (.iload_n 2, 1) := by decide +kernel
theorem dX2_setPrices_92 : decode cX2_setPrices 92 = .ok (.iadd, 1) := by decide +kernel
theorem dX2_setPrices_93 : decode cX2_setPrices 93 = .ok (.aload_n 0, 1) := by decide +kernel
theorem dX2_setPrices_94 : decode cX2_setPrices 94 = .ok (.aload_n 0, 1) := by decide +kernel
theorem dX2_setPrices_95 : decode cX2_setPrices 95 = .ok (.getfield 23, 3) := by decide +kernel
theorem dX2_setPrices_98 : decode cX2_setPrices 98 = .ok (.iload_n 2, 1) := by decide +kernel
theorem dX2_setPrices_99 : decode cX2_setPrices 99 = .ok (.iaload, 1) := by decide +kernel
theorem dX2_setPrices_100 : decode cX2_setPrices 100 = .ok (.aload_n 0, 1) := by decide +kernel
theorem dX2_setPrices_101 : decode cX2_setPrices 101 = .ok (.getfield 23, 3) := by decide +kernel
theorem dX2_setPrices_104 : decode cX2_setPrices 104 = .ok (.iload 4, 2) := by decide +kernel
theorem dX2_setPrices_106 : decode cX2_setPrices 106 = .ok (.iaload, 1) := by decide +kernel
theorem dX2_setPrices_107 : decode cX2_setPrices 107 = .ok (.isub, 1) := by decide +kernel
theorem dX2_setPrices_108 : decode cX2_setPrices 108 = .ok (.iload 5, 2) := by decide +kernel
theorem dX2_setPrices_110 : decode cX2_setPrices 110 = .ok (.iload_n 3, 1) := by decide +kernel
theorem dX2_setPrices_111 : decode cX2_setPrices 111 = .ok (.invokevirtual 132, 3) := by decide +kernel
theorem dX2_setPrices_114 : decode cX2_setPrices 114 = .ok (.iastore, 1) := by decide +kernel
theorem dX2_setPrices_115 : decode cX2_setPrices 115 = .ok (.iinc 4 1, 3) := by decide +kernel
theorem dX2_setPrices_118 : decode cX2_setPrices 118 = .ok (.goto (-61), 3) := by decide +kernel
theorem dX2_setPrices_121 : decode cX2_setPrices 121 = .ok (.return_, 1) := by decide +kernel
set_option maxRecDepth 20000 in
theorem ggX2_sendAll_X2_seekWays : GoodIn wsX2_sendAll wsX2_seekWays := goodIn_r _ [9, 1, 10, 11, 4, 12, 3, 13, 14, 15, 16, 17, 18, 19, 20, 8, 21, 22, 23, 24, 25, 26, 27, 40, 41, 42, 43, 44, 45, 46, 47, 48, 49, 50, 51, 52] rfl (by decide +kernel)
set_option maxRecDepth 20000 in
theorem gX2_sendAll_X2_seekWays : GoodIn wsX2_sendAll (wsV RX2 135 RX2 yX2_seekWays wsX2_seekWays) := goodIn_app (goodIn_of _ (by decide +kernel)) ggX2_sendAll_X2_seekWays
set_option maxRecDepth 20000 in
theorem ggX2_sendAll_X2_send : GoodIn wsX2_sendAll wsX2_send := goodIn_r _ [31, 13, 27, 12, 11, 2, 32, 33, 34, 8, 35, 36, 37, 38, 39, 40, 41, 42, 43, 44, 45, 46, 47, 48, 49, 50, 51, 52] rfl (by decide +kernel)
set_option maxRecDepth 20000 in
theorem gX2_sendAll_X2_send : GoodIn wsX2_sendAll (wsV RX2 138 RX2 yX2_send wsX2_send) := goodIn_app (goodIn_of _ (by decide +kernel)) ggX2_sendAll_X2_send
theorem dX2_sendAll_0 : decode cX2_sendAll 0 = .ok (.iconst 0, 1) := by decide +kernel
theorem dX2_sendAll_1 : decode cX2_sendAll 1 = .ok (.istore_n 1, 1) := by decide +kernel
theorem dX2_sendAll_2 : decode cX2_sendAll 2 = .ok (.iconst 0, 1) := by decide +kernel
theorem dX2_sendAll_3 : decode cX2_sendAll 3 = .ok (.istore_n 2, 1) := by decide +kernel
theorem dX2_sendAll_4 : decode cX2_sendAll 4 = .ok (.iconst 0, 1) := by decide +kernel
theorem dX2_sendAll_5 : decode cX2_sendAll 5 = .ok (.istore_n 3, 1) := by decide +kernel
theorem dX2_sendAll_6 : decode cX2_sendAll 6 = .ok (.iload_n 3, 1) := by decide +kernel
theorem dX2_sendAll_7 : decode cX2_sendAll 7 = .ok (.sipush 6000, 3) := by decide +kernel
theorem dX2_sendAll_10 : decode cX2_sendAll 10 = .ok (.aload_n 0, 1) := by decide +kernel
theorem dX2_sendAll_11 : decode cX2_sendAll 11 = .ok (.getfield 26, 3) := by decide +kernel
theorem dX2_sendAll_14 : decode cX2_sendAll 14 = .ok (.iadd, 1) := by decide +kernel
theorem dX2_sendAll_15 : decode cX2_sendAll 15 = .ok (.if_icmp .gt 67, 3) := by decide +kernel
theorem dX2_sendAll_18 : decode cX2_sendAll 18 = .ok (.iload_n 2, 1) := by decide +kernel
theorem dX2_sendAll_19 : decode cX2_sendAll 19 = .ok (.aload_n 0, 1) := by decide +kernel
theorem dX2_sendAll_20 : decode cX2_sendAll 20 = .ok (.getfield 26, 3) := by decide +kernel
theorem dX2_sendAll_23 : decode cX2_sendAll 23 = .ok (.if_icmp .lt 5, 3) := by decide +kernel
theorem dX2_sendAll_26 : decode cX2_sendAll 26 = .ok (.iload_n 1, 1) := by decide +kernel
theorem dX2_sendAll_27 : decode cX2_sendAll 27 = .ok (.ireturn, 1) := by decide +kernel
theorem dX2_sendAll_28 : decode cX2_sendAll 28 = .ok (.aload_n 0, 1) := by decide +kernel
theorem dX2_sendAll_29 : decode cX2_sendAll 29 = .ok (.getfield 39, 3) := by decide +kernel
theorem dX2_sendAll_32 : decode cX2_sendAll 32 = .ok (.iload_n 2, 1) := by decide +kernel
theorem dX2_sendAll_33 : decode cX2_sendAll 33 = .ok (.iaload, 1) := by decide +kernel
theorem dX2_sendAll_34 : decode cX2_sendAll 34 = .ok (.ifCond .ne 9, 3) := by decide +kernel
theorem dX2_sendAll_37 : decode cX2_sendAll 37 = .ok (.iinc 2 1, 3) := by decide +kernel
theorem dX2_sendAll_40 : decode cX2_sendAll 40 = .ok (.goto 36, 3) := by decide +kernel
theorem dX2_sendAll_43 : decode cX2_sendAll 43 = .ok (.aload_n 0, 1) := by decide +kernel
theorem dX2_sendAll_44 : decode cX2_sendAll 44 = .ok (.invokevirtual 135, 3) := by decide +kernel
theorem dX2_sendAll_47 : decode cX2_sendAll 47 = .ok (.aload_n 0, 1) := by decide +kernel
theorem dX2_sendAll_48 : decode cX2_sendAll 48 = .ok (.getfield 45, 3) := by decide +kernel
theorem dX2_sendAll_51 : decode cX2_sendAll 51 = .ok (.iload_n 2, 1) := by decide +kernel
theorem dX2_sendAll_52 : decode cX2_sendAll 52 = .ok (.iaload, 1) := by decide +kernel
theorem dX2_sendAll_53 : decode cX2_sendAll 53 = .ok (.ldc 107, 2) := by decide +kernel
theorem dX2_sendAll_55 : decode cX2_sendAll 55 = .ok (.if_icmp .lt 6, 3) := by decide +kernel
theorem dX2_sendAll_58 : decode cX2_sendAll 58 = .ok (.bipush (-9), 2) := by decide +kernel
theorem dX2_sendAll_60 : decode cX2_sendAll 60 = .ok (.ireturn, 1) := by decide +kernel
theorem dX2_sendAll_61 : decode cX2_sendAll 61 = .ok (.iload_n 1, 1) := by decide +kernel
theorem dX2_sendAll_62 : decode cX2_sendAll 62 = .ok (.aload_n 0, 1) := by decide +kernel
theorem dX2_sendAll_63 : decode cX2_sendAll 63 = .ok (.getfield 45, 3) := by decide +kernel
theorem dX2_sendAll_66 : decode cX2_sendAll 66 = .ok (.iload_n 2, 1) := by decide +kernel
theorem dX2_sendAll_67 : decode cX2_sendAll 67 = .ok (.iaload, 1) := by decide +kernel
theorem dX2_sendAll_68 : decode cX2_sendAll 68 = .ok (.aload_n 0, 1) := by decide +kernel
theorem dX2_sendAll_69 : decode cX2_sendAll 69 = .ok (.iload_n 2, 1) := by decide +kernel
theorem dX2_sendAll_70 : decode cX2_sendAll 70 = .ok (.invokevirtual 138, 3) := by decide +kernel
theorem dX2_sendAll_73 : decode cX2_sendAll 73 = .ok (.imul, 1) := by decide +kernel
theorem dX2_sendAll_74 : decode cX2_sendAll 74 = .ok (.iadd, 1) := by decide +kernel
theorem dX2_sendAll_75 : decode cX2_sendAll 75 = .ok (.istore_n 1, 1) := by decide +kernel
theorem dX2_sendAll_76 : decode cX2_sendAll 76 = .ok (.iinc 3 1, 3) := by decide +kernel
theorem dX2_sendAll_79 : decode cX2_sendAll 79 = .ok (.goto (-73), 3) := by decide +kernel
theorem dX2_sendAll_82 : decode cX2_sendAll 82 = .ok (.bipush (-9), 2) := by decide +kernel
theorem dX2_sendAll_84 : decode cX2_sendAll 84 = .ok (.ireturn, 1) := by decide +kernel
set_option maxRecDepth 20000 in
theorem ggX2_seekWays_J7_fill_53178 : GoodIn wsX2_seekWays wsJ7_fill_53178 := goodIn_r _ [11] rfl (by decide +kernel)
set_option maxRecDepth 20000 in
theorem gX2_seekWays_J7_fill_53178 : GoodIn wsX2_seekWays (va_wsS RX2 114 yJ7_fill_53178 wsJ7_fill_53178) := goodIn_app (goodIn_of _ (by decide +kernel)) ggX2_seekWays_J7_fill_53178
set_option maxRecDepth 20000 in
theorem ggX2_seekWays_X2_reachEvents : GoodIn wsX2_seekWays wsX2_reachEvents := goodIn_r _ [16, 1, 2, 4, 17, 6, 7, 23, 24, 25, 26, 27, 28, 29, 30, 31, 32, 33, 34, 35] rfl (by decide +kernel)
set_option maxRecDepth 20000 in
theorem gX2_seekWays_X2_reachEvents : GoodIn wsX2_seekWays (wsV RX2 141 RX2 yX2_reachEvents wsX2_reachEvents) := goodIn_app (goodIn_of _ (by decide +kernel)) ggX2_seekWays_X2_reachEvents
set_option maxRecDepth 20000 in
theorem ggX2_seekWays_X2_reachSources : GoodIn wsX2_seekWays wsX2_reachSources := goodIn_r _ [21, 1, 6, 4, 22, 17, 2, 5, 23, 24, 25, 26, 27, 28, 29, 30, 31, 32, 33, 34, 35] rfl (by decide +kernel)
set_option maxRecDepth 20000 in
theorem gX2_seekWays_X2_reachSources : GoodIn wsX2_seekWays (wsV RX2 144 RX2 yX2_reachSources wsX2_reachSources) := goodIn_app (goodIn_of _ (by decide +kernel)) ggX2_seekWays_X2_reachSources
theorem dX2_seekWays_0 : decode cX2_seekWays 0 = .ok (.iconst 0, 1) := by decide +kernel
theorem dX2_seekWays_1 : decode cX2_seekWays 1 = .ok (.istore_n 1, 1) := by decide +kernel
theorem dX2_seekWays_2 : decode cX2_seekWays 2 = .ok (.iload_n 1, 1) := by decide +kernel
theorem dX2_seekWays_3 : decode cX2_seekWays 3 = .ok (.iconst 5, 1) := by decide +kernel
theorem dX2_seekWays_4 : decode cX2_seekWays 4 = .ok (.aload_n 0, 1) := by decide +kernel
theorem dX2_seekWays_5 : decode cX2_seekWays 5 = .ok (.getfield 26, 3) := by decide +kernel
theorem dX2_seekWays_8 : decode cX2_seekWays 8 = .ok (.iadd, 1) := by decide +kernel
theorem dX2_seekWays_9 : decode cX2_seekWays 9 = .ok (.if_icmp .ge 38, 3) := by decide +kernel
theorem dX2_seekWays_12 : decode cX2_seekWays 12 = .ok (.aload_n 0, 1) := by decide +kernel
theorem dX2_seekWays_13 : decode cX2_seekWays 13 = .ok (.getfield 42, 3) := by decide +kernel
theorem dX2_seekWays_16 : decode cX2_seekWays 16 = .ok (.iload_n 1, 1) := by decide +kernel
theorem dX2_seekWays_17 : decode cX2_seekWays 17 = .ok (.aload_n 0, 1) := by decide +kernel
theorem dX2_seekWays_18 : decode cX2_seekWays 18 = .ok (.getfield 36, 3) := by decide +kernel
theorem dX2_seekWays_21 : decode cX2_seekWays 21 = .ok (.iload_n 1, 1) := by decide +kernel
theorem dX2_seekWays_22 : decode cX2_seekWays 22 = .ok (.iaload, 1) := by decide +kernel
theorem dX2_seekWays_23 : decode cX2_seekWays 23 = .ok (.ifCond .le 7, 3) := by decide +kernel
theorem dX2_seekWays_26 : decode cX2_seekWays 26 = .ok (.iconst 0, 1) := by decide +kernel
theorem dX2_seekWays_27 : decode cX2_seekWays 27 = .ok (.goto 5, 3) := by decide +kernel
theorem dX2_seekWays_30 : decode cX2_seekWays 30 = .ok (.ldc 107, 2) := by decide +kernel
theorem dX2_seekWays_32 : decode cX2_seekWays 32 = .ok (.iastore, 1) := by decide +kernel
theorem dX2_seekWays_33 : decode cX2_seekWays 33 = .ok (.aload_n 0, 1) := by decide +kernel
theorem dX2_seekWays_34 : decode cX2_seekWays 34 = .ok (.getfield 48, 3) := by decide +kernel
theorem dX2_seekWays_37 : decode cX2_seekWays 37 = .ok (.iload_n 1, 1) := by decide +kernel
theorem dX2_seekWays_38 : decode cX2_seekWays 38 = .ok (.bipush (-9), 2) := by decide +kernel
theorem dX2_seekWays_40 : decode cX2_seekWays 40 = .ok (.iastore, 1) := by decide +kernel
theorem dX2_seekWays_41 : decode cX2_seekWays 41 = .ok (.iinc 1 1, 3) := by decide +kernel
theorem dX2_seekWays_44 : decode cX2_seekWays 44 = .ok (.goto (-42), 3) := by decide +kernel
theorem dX2_seekWays_47 : decode cX2_seekWays 47 = .ok (.aload_n 0, 1) := by decide +kernel
theorem dX2_seekWays_48 : decode cX2_seekWays 48 = .ok (.getfield 45, 3) := by decide +kernel
theorem dX2_seekWays_51 : decode cX2_seekWays 51 = .ok (.ldc 107, 2) := by decide +kernel
theorem dX2_seekWays_53 : decode cX2_seekWays 53 = .ok (.invokestatic 114, 3) := by decide +kernel
theorem dX2_seekWays_56 : decode cX2_seekWays 56 = .ok (.aload_n 0, 1) := by decide +kernel
theorem dX2_seekWays_57 : decode cX2_seekWays 57 = .ok (.getfield 51, 3) := by decide +kernel
theorem dX2_seekWays_60 : decode cX2_seekWays 60 = .ok (.bipush (-9), 2) := by decide +kernel
theorem dX2_seekWays_62 : decode cX2_seekWays 62 = .ok (.invokestatic 114, 3) := by decide +kernel
theorem dX2_seekWays_65 : decode cX2_seekWays 65 = .ok (.iconst 1, 1) := by decide +kernel
theorem dX2_seekWays_66 : decode cX2_seekWays 66 = .ok (.istore_n 1, 1) := by decide +kernel
theorem dX2_seekWays_67 : decode cX2_seekWays 67 = .ok (.iconst 0, 1) := by decide +kernel
theorem dX2_seekWays_68 : decode cX2_seekWays 68 = .ok (.istore_n 2, 1) := by decide +kernel
theorem dX2_seekWays_69 : decode cX2_seekWays 69 = .ok (.iload_n 2, 1) := by decide +kernel
theorem dX2_seekWays_70 : decode cX2_seekWays 70 = .ok (.bipush 29, 2) := by decide +kernel
theorem dX2_seekWays_72 : decode cX2_seekWays 72 = .ok (.if_icmp .ge 22, 3) := by decide +kernel
theorem dX2_seekWays_75 : decode cX2_seekWays 75 = .ok (.iload_n 1, 1) := by decide +kernel
theorem dX2_seekWays_76 : decode cX2_seekWays 76 = .ok (.ifCond .eq 18, 3) := by decide +kernel
theorem dX2_seekWays_79 : decode cX2_seekWays 79 = .ok (.aload_n 0, 1) := by decide +kernel
theorem dX2_seekWays_80 : decode cX2_seekWays 80 = .ok (.invokevirtual 141, 3) := by decide +kernel
theorem dX2_seekWays_83 : decode cX2_seekWays 83 = .ok (.aload_n 0, 1) := by decide +kernel
theorem dX2_seekWays_84 : decode cX2_seekWays 84 = .ok (.invokevirtual 144, 3) := by decide +kernel
theorem dX2_seekWays_87 : decode cX2_seekWays 87 = .ok (.istore_n 1, 1) := by decide +kernel
theorem dX2_seekWays_88 : decode cX2_seekWays 88 = .ok (.iinc 2 1, 3) := by decide +kernel
theorem dX2_seekWays_91 : decode cX2_seekWays 91 = .ok (.goto (-22), 3) := by decide +kernel
theorem dX2_seekWays_94 : decode cX2_seekWays 94 = .ok (.return_, 1) := by decide +kernel
theorem dX2_reachEvents_0 : decode cX2_reachEvents 0 = .ok (.iconst 0, 1) := by decide +kernel
theorem dX2_reachEvents_1 : decode cX2_reachEvents 1 = .ok (.istore_n 1, 1) := by decide +kernel
theorem dX2_reachEvents_2 : decode cX2_reachEvents 2 = .ok (.iload_n 1, 1) := by decide +kernel
theorem dX2_reachEvents_3 : decode cX2_reachEvents 3 = .ok (.iconst 5, 1) := by decide +kernel
theorem dX2_reachEvents_4 : decode cX2_reachEvents 4 = .ok (.aload_n 0, 1) := by decide +kernel
theorem dX2_reachEvents_5 : decode cX2_reachEvents 5 = .ok (.getfield 26, 3) := by decide +kernel
theorem dX2_reachEvents_8 : decode cX2_reachEvents 8 = .ok (.iadd, 1) := by decide +kernel
theorem dX2_reachEvents_9 : decode cX2_reachEvents 9 = .ok (.if_icmp .ge 95, 3) := by decide +kernel
theorem dX2_reachEvents_12 : decode cX2_reachEvents 12 = .ok (.aload_n 0, 1) := by decide +kernel
theorem dX2_reachEvents_13 : decode cX2_reachEvents 13 = .ok (.getfield 42, 3) := by decide +kernel
theorem dX2_reachEvents_16 : decode cX2_reachEvents 16 = .ok (.iload_n 1, 1) := by decide +kernel
theorem dX2_reachEvents_17 : decode cX2_reachEvents 17 = .ok (.iaload, 1) := by decide +kernel
theorem dX2_reachEvents_18 : decode cX2_reachEvents 18 = .ok (.ldc 107, 2) := by decide +kernel
theorem dX2_reachEvents_20 : decode cX2_reachEvents 20 = .ok (.if_icmp .lt 6, 3) := by decide +kernel
theorem dX2_reachEvents_23 : decode cX2_reachEvents 23 = .ok (.goto 75, 3) := by decide +kernel
theorem dX2_reachEvents_26 : decode cX2_reachEvents 26 = .ok (.iconst 0, 1) := by decide +kernel
theorem dX2_reachEvents_27 : decode cX2_reachEvents 27 = .ok (.istore_n 2, 1) := by decide +kernel
theorem dX2_reachEvents_28 : decode cX2_reachEvents 28 = .ok (.iload_n 2, 1) := by decide +kernel
theorem dX2_reachEvents_29 : decode cX2_reachEvents 29 = .ok (.aload_n 0, 1) := by decide +kernel
theorem dX2_reachEvents_30 : decode cX2_reachEvents 30 = .ok (.getfield 26, 3) := by decide +kernel
theorem dX2_reachEvents_33 : decode cX2_reachEvents 33 = .ok (.if_icmp .ge 65, 3) := by decide +kernel
theorem dX2_reachEvents_36 : decode cX2_reachEvents 36 = .ok (.aload_n 0, 1) := by decide +kernel
theorem dX2_reachEvents_37 : decode cX2_reachEvents 37 = .ok (.getfield 30, 3) := by decide +kernel
theorem dX2_reachEvents_40 : decode cX2_reachEvents 40 = .ok (.iload_n 1, 1) := by decide +kernel
theorem dX2_reachEvents_41 : decode cX2_reachEvents 41 = .ok (.bipush 12, 2) := by decide +kernel
theorem dX2_reachEvents_43 : decode cX2_reachEvents 43 = .ok (.imul, 1) := by decide +kernel
theorem dX2_reachEvents_44 : decode cX2_reachEvents 44 = .ok (.iload_n 2, 1) := by decide +kernel
theorem dX2_reachEvents_45 : decode cX2_reachEvents 45 = .ok (.iadd, 1) := by decide +kernel
theorem dX2_reachEvents_46 : decode cX2_reachEvents 46 = .ok (.iaload, 1) := by decide +kernel
theorem dX2_reachEvents_47 : decode cX2_reachEvents 47 = .ok (.istore_n 3, 1) := by decide +kernel
theorem dX2_reachEvents_48 : decode cX2_reachEvents 48 = .ok (.iload_n 3, 1) := by decide +kernel
theorem dX2_reachEvents_49 : decode cX2_reachEvents 49 = .ok (.ldc 107, 2) := by decide +kernel
theorem dX2_reachEvents_51 : decode cX2_reachEvents 51 = .ok (.if_icmp .ge 41, 3) := by decide +kernel
theorem dX2_reachEvents_54 : decode cX2_reachEvents 54 = .ok (.aload_n 0, 1) := by decide +kernel
theorem dX2_reachEvents_55 : decode cX2_reachEvents 55 = .ok (.getfield 42, 3) := by decide +kernel
theorem dX2_reachEvents_58 : decode cX2_reachEvents 58 = .ok (.iload_n 1, 1) := by decide +kernel
theorem dX2_reachEvents_59 : decode cX2_reachEvents 59 = .ok (.iaload, 1) := by decide +kernel
theorem dX2_reachEvents_60 : decode cX2_reachEvents 60 = .ok (.iload_n 3, 1) := by decide +kernel
theorem dX2_reachEvents_61 : decode cX2_reachEvents 61 = .ok (.iadd, 1) := by decide +kernel
theorem dX2_reachEvents_62 : decode cX2_reachEvents 62 = .ok (.aload_n 0, 1) := by decide +kernel
theorem dX2_reachEvents_63 : decode cX2_reachEvents 63 = .ok (.getfield 45, 3) := by decide +kernel
theorem dX2_reachEvents_66 : decode cX2_reachEvents 66 = .ok (.iload_n 2, 1) := by decide +kernel
theorem dX2_reachEvents_67 : decode cX2_reachEvents 67 = .ok (.iaload, 1) := by decide +kernel
theorem dX2_reachEvents_68 : decode cX2_reachEvents 68 = .ok (.if_icmp .ge 24, 3) := by decide +kernel
theorem dX2_reachEvents_71 : decode cX2_reachEvents 71 = .ok (.aload_n 0, 1) := by decide +kernel
theorem dX2_reachEvents_72 : decode cX2_reachEvents 72 = .ok (.getfield 45, 3) := by decide +kernel
theorem dX2_reachEvents_75 : decode cX2_reachEvents 75 = .ok (.iload_n 2, 1) := by decide +kernel
theorem dX2_reachEvents_76 : decode cX2_reachEvents 76 = .ok (.aload_n 0, 1) := by decide +kernel
theorem dX2_reachEvents_77 : decode cX2_reachEvents 77 = .ok (.getfield 42, 3) := by decide +kernel
theorem dX2_reachEvents_80 : decode cX2_reachEvents 80 = .ok (.iload_n 1, 1) := by decide +kernel
theorem dX2_reachEvents_81 : decode cX2_reachEvents 81 = .ok (.iaload, 1) := by decide +kernel
theorem dX2_reachEvents_82 : decode cX2_reachEvents 82 = .ok (.iload_n 3, 1) := by decide +kernel
theorem dX2_reachEvents_83 : decode cX2_reachEvents 83 = .ok (.iadd, 1) := by decide +kernel
theorem dX2_reachEvents_84 : decode cX2_reachEvents 84 = .ok (.iastore, 1) := by decide +kernel
theorem dX2_reachEvents_85 : decode cX2_reachEvents 85 = .ok (.aload_n 0, 1) := by decide +kernel
theorem dX2_reachEvents_86 : decode cX2_reachEvents 86 = .ok (.getfield 51, 3) := by decide +kernel
theorem dX2_reachEvents_89 : decode cX2_reachEvents 89 = .ok (.iload_n 2, 1) := by decide +kernel
theorem dX2_reachEvents_90 : decode cX2_reachEvents 90 = .ok (.iload_n 1, 1) := by decide +kernel
theorem dX2_reachEvents_91 : decode cX2_reachEvents 91 = .ok (.iastore, 1) := by decide +kernel
theorem dX2_reachEvents_92 : decode cX2_reachEvents 92 = .ok (.iinc 2 1, 3) := by decide +kernel
theorem dX2_reachEvents_95 : decode cX2_reachEvents 95 = .ok (.goto (-67), 3) := by decide +kernel
theorem dX2_reachEvents_98 : decode cX2_reachEvents 98 = .ok (.iinc 1 1, 3) := by decide +kernel
theorem dX2_reachEvents_101 : decode cX2_reachEvents 101 = .ok (.goto (-99), 3) := by decide +kernel
theorem dX2_reachEvents_104 : decode cX2_reachEvents 104 = .ok (.return_, 1) := by decide +kernel
theorem dX2_reachSources_0 : decode cX2_reachSources 0 = .ok (.iconst 0, 1) := by decide +kernel
theorem dX2_reachSources_1 : decode cX2_reachSources 1 = .ok (.istore_n 1, 1) := by decide +kernel
theorem dX2_reachSources_2 : decode cX2_reachSources 2 = .ok (.iconst 0, 1) := by decide +kernel
theorem dX2_reachSources_3 : decode cX2_reachSources 3 = .ok (.istore_n 2, 1) := by decide +kernel
theorem dX2_reachSources_4 : decode cX2_reachSources 4 = .ok (.iload_n 2, 1) := by decide +kernel
theorem dX2_reachSources_5 : decode cX2_reachSources 5 = .ok (.aload_n 0, 1) := by decide +kernel
theorem dX2_reachSources_6 : decode cX2_reachSources 6 = .ok (.getfield 26, 3) := by decide +kernel
theorem dX2_reachSources_9 : decode cX2_reachSources 9 = .ok (.if_icmp .ge 111, 3) := by decide +kernel
theorem dX2_reachSources_12 : decode cX2_reachSources 12 = .ok (.aload_n 0, 1) := by decide +kernel
theorem dX2_reachSources_13 : decode cX2_reachSources 13 = .ok (.getfield 45, 3) := by decide +kernel
theorem dX2_reachSources_16 : decode cX2_reachSources 16 = .ok (.iload_n 2, 1) := by decide +kernel
theorem dX2_reachSources_17 : decode cX2_reachSources 17 = .ok (.iaload, 1) := by decide +kernel
theorem dX2_reachSources_18 : decode cX2_reachSources 18 = .ok (.ldc 107, 2) := by decide +kernel
theorem dX2_reachSources_20 : decode cX2_reachSources 20 = .ok (.if_icmp .lt 6, 3) := by decide +kernel
theorem dX2_reachSources_23 : decode cX2_reachSources 23 = .ok (.goto 91, 3) := by decide +kernel
theorem dX2_reachSources_26 : decode cX2_reachSources 26 = .ok (.iconst 0, 1) := by decide +kernel
theorem dX2_reachSources_27 : decode cX2_reachSources 27 = .ok (.istore_n 3, 1) := by decide +kernel
theorem dX2_reachSources_28 : decode cX2_reachSources 28 = .ok (.iload_n 3, 1) := by decide +kernel
theorem dX2_reachSources_29 : decode cX2_reachSources 29 = .ok (.iconst 5, 1) := by decide +kernel
theorem dX2_reachSources_30 : decode cX2_reachSources 30 = .ok (.aload_n 0, 1) := by decide +kernel
theorem dX2_reachSources_31 : decode cX2_reachSources 31 = .ok (.getfield 26, 3) := by decide +kernel
theorem dX2_reachSources_34 : decode cX2_reachSources 34 = .ok (.iadd, 1) := by decide +kernel
theorem dX2_reachSources_35 : decode cX2_reachSources 35 = .ok (.if_icmp .ge 79, 3) := by decide +kernel
theorem dX2_reachSources_38 : decode cX2_reachSources 38 = .ok (.iload_n 3, 1) := by decide +kernel
theorem dX2_reachSources_39 : decode cX2_reachSources 39 = .ok (.bipush 12, 2) := by decide +kernel
theorem dX2_reachSources_41 : decode cX2_reachSources 41 = .ok (.imul, 1) := by decide +kernel
theorem dX2_reachSources_42 : decode cX2_reachSources 42 = .ok (.iload_n 2, 1) := by decide +kernel
theorem dX2_reachSources_43 : decode cX2_reachSources 43 = .ok (.iadd, 1) := by decide +kernel
theorem dX2_reachSources_44 : decode cX2_reachSources 44 = .ok (.istore 4, 2) := by decide +kernel
theorem dX2_reachSources_46 : decode cX2_reachSources 46 = .ok (.aload_n 0, 1) := by decide +kernel
theorem dX2_reachSources_47 : decode cX2_reachSources 47 = .ok (.getfield 33, 3) := by decide +kernel
theorem dX2_reachSources_50 : decode cX2_reachSources 50 = .ok (.iload 4, 2) := by decide +kernel
theorem dX2_reachSources_52 : decode cX2_reachSources 52 = .ok (.iaload, 1) := by decide +kernel
theorem dX2_reachSources_53 : decode cX2_reachSources 53 = .ok (.ifCond .le 55, 3) := by decide +kernel
theorem dX2_reachSources_56 : decode cX2_reachSources 56 = .ok (.aload_n 0, 1) := by decide +kernel
theorem dX2_reachSources_57 : decode cX2_reachSources 57 = .ok (.getfield 45, 3) := by decide +kernel
theorem dX2_reachSources_60 : decode cX2_reachSources 60 = .ok (.iload_n 2, 1) := by decide +kernel
theorem dX2_reachSources_61 : decode cX2_reachSources 61 = .ok (.iaload, 1) := by decide +kernel
theorem dX2_reachSources_62 : decode cX2_reachSources 62 = .ok (.aload_n 0, 1) := by decide +kernel
theorem dX2_reachSources_63 : decode cX2_reachSources 63 = .ok (.getfield 30, 3) := by decide +kernel
theorem dX2_reachSources_66 : decode cX2_reachSources 66 = .ok (.iload 4, 2) := by decide +kernel
theorem dX2_reachSources_68 : decode cX2_reachSources 68 = .ok (.iaload, 1) := by decide +kernel
theorem dX2_reachSources_69 : decode cX2_reachSources 69 = .ok (.isub, 1) := by decide +kernel
theorem dX2_reachSources_70 : decode cX2_reachSources 70 = .ok (.aload_n 0, 1) := by decide +kernel
theorem dX2_reachSources_71 : decode cX2_reachSources 71 = .ok (.getfield 42, 3) := by decide +kernel
theorem dX2_reachSources_74 : decode cX2_reachSources 74 = .ok (.iload_n 3, 1) := by decide +kernel
theorem dX2_reachSources_75 : decode cX2_reachSources 75 = .ok (.iaload, 1) := by decide +kernel
theorem dX2_reachSources_76 : decode cX2_reachSources 76 = .ok (.if_icmp .ge 32, 3) := by decide +kernel
theorem dX2_reachSources_79 : decode cX2_reachSources 79 = .ok (.aload_n 0, 1) := by decide +kernel
theorem dX2_reachSources_80 : decode cX2_reachSources 80 = .ok (.getfield 42, 3) := by decide +kernel
theorem dX2_reachSources_83 : decode cX2_reachSources 83 = .ok (.iload_n 3, 1) := by decide +kernel
theorem dX2_reachSources_84 : decode cX2_reachSources 84 = .ok (.aload_n 0, 1) := by decide +kernel
theorem dX2_reachSources_85 : decode cX2_reachSources 85 = .ok (.getfield 45, 3) := by decide +kernel
theorem dX2_reachSources_88 : decode cX2_reachSources 88 = .ok (.iload_n 2, 1) := by decide +kernel
theorem dX2_reachSources_89 : decode cX2_reachSources 89 = .ok (.iaload, 1) := by decide +kernel
theorem dX2_reachSources_90 : decode cX2_reachSources 90 = .ok (.aload_n 0, 1) := by decide +kernel
theorem dX2_reachSources_91 : decode cX2_reachSources 91 = .ok (.getfield 30, 3) := by decide +kernel
theorem dX2_reachSources_94 : decode cX2_reachSources 94 = .ok (.iload 4, 2) := by decide +kernel
theorem dX2_reachSources_96 : decode cX2_reachSources 96 = .ok (.iaload, 1) := by decide +kernel
theorem dX2_reachSources_97 : decode cX2_reachSources 97 = .ok (.isub, 1) := by decide +kernel
theorem dX2_reachSources_98 : decode cX2_reachSources 98 = .ok (.iastore, 1) := by decide +kernel
theorem dX2_reachSources_99 : decode cX2_reachSources 99 = .ok (.aload_n 0, 1) := by decide +kernel
theorem dX2_reachSources_100 : decode cX2_reachSources 100 = .ok (.getfield 48, 3) := by decide +kernel
theorem dX2_reachSources_103 : decode cX2_reachSources 103 = .ok (.iload_n 3, 1) := by decide +kernel
theorem dX2_reachSources_104 : decode cX2_reachSources 104 = .ok (.iload_n 2, 1) := by decide +kernel
theorem dX2_reachSources_105 : decode cX2_reachSources 105 = .ok (.iastore, 1) := by decide +kernel
theorem dX2_reachSources_106 : decode cX2_reachSources 106 = .ok (.iconst 1, 1) := by decide +kernel
theorem dX2_reachSources_107 : decode cX2_reachSources 107 = .ok (.istore_n 1, 1) := by decide +kernel
theorem dX2_reachSources_108 : decode cX2_reachSources 108 = .ok (.iinc 3 1, 3) := by decide +kernel
theorem dX2_reachSources_111 : decode cX2_reachSources 111 = .ok (.goto (-83), 3) := by decide +kernel
theorem dX2_reachSources_114 : decode cX2_reachSources 114 = .ok (.iinc 2 1, 3) := by decide +kernel
theorem dX2_reachSources_117 : decode cX2_reachSources 117 = .ok (.goto (-113), 3) := by decide +kernel
theorem dX2_reachSources_120 : decode cX2_reachSources 120 = .ok (.iload_n 1, 1) := by decide +kernel
theorem dX2_reachSources_121 : decode cX2_reachSources 121 = .ok (.ireturn, 1) := by decide +kernel
set_option maxRecDepth 20000 in
theorem ggX2_send_X2_mostAlong : GoodIn wsX2_send wsX2_mostAlong := goodIn_r _ [10, 5, 1, 3, 4, 11, 12, 13, 14, 2, 15, 16, 17, 18, 19, 20, 21, 22, 23, 24, 25, 26, 27] rfl (by decide +kernel)
set_option maxRecDepth 20000 in
theorem gX2_send_X2_mostAlong : GoodIn wsX2_send (wsV RX2 148 RX2 yX2_mostAlong wsX2_mostAlong) := goodIn_app (goodIn_of _ (by decide +kernel)) ggX2_send_X2_mostAlong
theorem dX2_send_0 : decode cX2_send 0 = .ok (.aload_n 0, 1) := by decide +kernel
theorem dX2_send_1 : decode cX2_send 1 = .ok (.iload_n 1, 1) := by decide +kernel
theorem dX2_send_2 : decode cX2_send 2 = .ok (.invokevirtual 148, 3) := by decide +kernel
theorem dX2_send_5 : decode cX2_send 5 = .ok (.istore_n 2, 1) := by decide +kernel
theorem dX2_send_6 : decode cX2_send 6 = .ok (.iload_n 1, 1) := by decide +kernel
theorem dX2_send_7 : decode cX2_send 7 = .ok (.istore_n 3, 1) := by decide +kernel
theorem dX2_send_8 : decode cX2_send 8 = .ok (.iconst 0, 1) := by decide +kernel
theorem dX2_send_9 : decode cX2_send 9 = .ok (.istore 4, 2) := by decide +kernel
theorem dX2_send_11 : decode cX2_send 11 = .ok (.iload 4, 2) := by decide +kernel
theorem dX2_send_13 : decode cX2_send 13 = .ok (.bipush 17, 2) := by decide +kernel
theorem dX2_send_15 : decode cX2_send 15 = .ok (.if_icmp .ge 93, 3) := by decide +kernel
theorem dX2_send_18 : decode cX2_send 18 = .ok (.aload_n 0, 1) := by decide +kernel
theorem dX2_send_19 : decode cX2_send 19 = .ok (.getfield 51, 3) := by decide +kernel
theorem dX2_send_22 : decode cX2_send 22 = .ok (.iload_n 3, 1) := by decide +kernel
theorem dX2_send_23 : decode cX2_send 23 = .ok (.iaload, 1) := by decide +kernel
theorem dX2_send_24 : decode cX2_send 24 = .ok (.istore 5, 2) := by decide +kernel
theorem dX2_send_26 : decode cX2_send 26 = .ok (.iload 5, 2) := by decide +kernel
theorem dX2_send_28 : decode cX2_send 28 = .ok (.bipush (-9), 2) := by decide +kernel
theorem dX2_send_30 : decode cX2_send 30 = .ok (.if_icmp .ne 6, 3) := by decide +kernel
theorem dX2_send_33 : decode cX2_send 33 = .ok (.goto 75, 3) := by decide +kernel
theorem dX2_send_36 : decode cX2_send 36 = .ok (.aload_n 0, 1) := by decide +kernel
theorem dX2_send_37 : decode cX2_send 37 = .ok (.getfield 33, 3) := by decide +kernel
theorem dX2_send_40 : decode cX2_send 40 = .ok (.iload 5, 2) := by decide +kernel
theorem dX2_send_42 : decode cX2_send 42 = .ok (.bipush 12, 2) := by decide +kernel
theorem dX2_send_44 : decode cX2_send 44 = .ok (.imul, 1) := by decide +kernel
theorem dX2_send_45 : decode cX2_send 45 = .ok (.iload_n 3, 1) := by decide +kernel
theorem dX2_send_46 : decode cX2_send 46 = .ok (.iadd, 1) := by decide +kernel
theorem dX2_send_47 : decode cX2_send 47 = .ok (.dup2, 1) := by decide +kernel
theorem dX2_send_48 : decode cX2_send 48 = .ok (.iaload, 1) := by decide +kernel
theorem dX2_send_49 : decode cX2_send 49 = .ok (.iload_n 2, 1) := by decide +kernel
theorem dX2_send_50 : decode cX2_send 50 = .ok (.iadd, 1) := by decide +kernel
theorem dX2_send_51 : decode cX2_send 51 = .ok (.iastore, 1) := by decide +kernel
theorem dX2_send_52 : decode cX2_send 52 = .ok (.aload_n 0, 1) := by decide +kernel
theorem dX2_send_53 : decode cX2_send 53 = .ok (.getfield 48, 3) := by decide +kernel
theorem dX2_send_56 : decode cX2_send 56 = .ok (.iload 5, 2) := by decide +kernel
theorem dX2_send_58 : decode cX2_send 58 = .ok (.iaload, 1) := by decide +kernel
theorem dX2_send_59 : decode cX2_send 59 = .ok (.istore 6, 2) := by decide +kernel
theorem dX2_send_61 : decode cX2_send 61 = .ok (.iload 6, 2) := by decide +kernel
theorem dX2_send_63 : decode cX2_send 63 = .ok (.bipush (-9), 2) := by decide +kernel
theorem dX2_send_65 : decode cX2_send 65 = .ok (.if_icmp .ne 17, 3) := by decide +kernel
theorem dX2_send_68 : decode cX2_send 68 = .ok (.aload_n 0, 1) := by decide +kernel
theorem dX2_send_69 : decode cX2_send 69 = .ok (.getfield 36, 3) := by decide +kernel
theorem dX2_send_72 : decode cX2_send 72 = .ok (.iload 5, 2) := by decide +kernel
theorem dX2_send_74 : decode cX2_send 74 = .ok (.dup2, 1) := by decide +kernel
theorem dX2_send_75 : decode cX2_send 75 = .ok (.iaload, 1) := by decide +kernel
theorem dX2_send_76 : decode cX2_send 76 = .ok (.iload_n 2, 1) := by decide +kernel
theorem dX2_send_77 : decode cX2_send 77 = .ok (.isub, 1) := by decide +kernel
theorem dX2_send_78 : decode cX2_send 78 = .ok (.iastore, 1) := by decide +kernel
theorem dX2_send_79 : decode cX2_send 79 = .ok (.goto 29, 3) := by decide +kernel
theorem dX2_send_82 : decode cX2_send 82 = .ok (.aload_n 0, 1) := by decide +kernel
theorem dX2_send_83 : decode cX2_send 83 = .ok (.getfield 33, 3) := by decide +kernel
theorem dX2_send_86 : decode cX2_send 86 = .ok (.iload 5, 2) := by decide +kernel
theorem dX2_send_88 : decode cX2_send 88 = .ok (.bipush 12, 2) := by decide +kernel
theorem dX2_send_90 : decode cX2_send 90 = .ok (.imul, 1) := by decide +kernel
theorem dX2_send_91 : decode cX2_send 91 = .ok (.iload 6, 2) := by decide +kernel
theorem dX2_send_93 : decode cX2_send 93 = .ok (.iadd, 1) := by decide +kernel
theorem dX2_send_94 : decode cX2_send 94 = .ok (.dup2, 1) := by decide +kernel
theorem dX2_send_95 : decode cX2_send 95 = .ok (.iaload, 1) := by decide +kernel
theorem dX2_send_96 : decode cX2_send 96 = .ok (.iload_n 2, 1) := by decide +kernel
theorem dX2_send_97 : decode cX2_send 97 = .ok (.isub, 1) := by decide +kernel
theorem dX2_send_98 : decode cX2_send 98 = .ok (.iastore, 1) := by decide +kernel
theorem dX2_send_99 : decode cX2_send 99 = .ok (.iload 6, 2) := by decide +kernel
theorem dX2_send_101 : decode cX2_send 101 = .ok (.istore_n 3, 1) := by decide +kernel
theorem dX2_send_102 : decode cX2_send 102 = .ok (.iinc 4 1, 3) := by decide +kernel
theorem dX2_send_105 : decode cX2_send 105 = .ok (.goto (-94), 3) := by decide +kernel
theorem dX2_send_108 : decode cX2_send 108 = .ok (.aload_n 0, 1) := by decide +kernel
theorem dX2_send_109 : decode cX2_send 109 = .ok (.getfield 39, 3) := by decide +kernel
theorem dX2_send_112 : decode cX2_send 112 = .ok (.iload_n 1, 1) := by decide +kernel
theorem dX2_send_113 : decode cX2_send 113 = .ok (.dup2, 1) := by decide +kernel
theorem dX2_send_114 : decode cX2_send 114 = .ok (.iaload, 1) := by decide +kernel
theorem dX2_send_115 : decode cX2_send 115 = .ok (.iload_n 2, 1) := by decide +kernel
theorem dX2_send_116 : decode cX2_send 116 = .ok (.isub, 1) := by decide +kernel
theorem dX2_send_117 : decode cX2_send 117 = .ok (.iastore, 1) := by decide +kernel
theorem dX2_send_118 : decode cX2_send 118 = .ok (.iload_n 2, 1) := by decide +kernel
theorem dX2_send_119 : decode cX2_send 119 = .ok (.ireturn, 1) := by decide +kernel
theorem dX2_mostAlong_0 : decode cX2_mostAlong 0 = .ok (.aload_n 0, 1) := by decide +kernel
theorem dX2_mostAlong_1 : decode cX2_mostAlong 1 = .ok (.getfield 39, 3) := by decide +kernel
theorem dX2_mostAlong_4 : decode cX2_mostAlong 4 = .ok (.iload_n 1, 1) := by decide +kernel
theorem dX2_mostAlong_5 : decode cX2_mostAlong 5 = .ok (.iaload, 1) := by decide +kernel
theorem dX2_mostAlong_6 : decode cX2_mostAlong 6 = .ok (.istore_n 2, 1) := by decide +kernel
theorem dX2_mostAlong_7 : decode cX2_mostAlong 7 = .ok (.iload_n 1, 1) := by decide +kernel
theorem dX2_mostAlong_8 : decode cX2_mostAlong 8 = .ok (.istore_n 3, 1) := by decide +kernel
theorem dX2_mostAlong_9 : decode cX2_mostAlong 9 = .ok (.iconst 0, 1) := by decide +kernel
theorem dX2_mostAlong_10 : decode cX2_mostAlong 10 = .ok (.istore 4, 2) := by decide +kernel
theorem dX2_mostAlong_12 : decode cX2_mostAlong 12 = .ok (.iload 4, 2) := by decide +kernel
theorem dX2_mostAlong_14 : decode cX2_mostAlong 14 = .ok (.bipush 17, 2) := by decide +kernel
theorem dX2_mostAlong_16 : decode cX2_mostAlong 16 = .ok (.if_icmp .ge 75, 3) := by decide +kernel
theorem dX2_mostAlong_19 : decode cX2_mostAlong 19 = .ok (.aload_n 0, 1) := by decide +kernel
theorem dX2_mostAlong_20 : decode cX2_mostAlong 20 = .ok (.getfield 51, 3) := by decide +kernel
theorem dX2_mostAlong_23 : decode cX2_mostAlong 23 = .ok (.iload_n 3, 1) := by decide +kernel
theorem dX2_mostAlong_24 : decode cX2_mostAlong 24 = .ok (.iaload, 1) := by decide +kernel
theorem dX2_mostAlong_25 : decode cX2_mostAlong 25 = .ok (.istore 5, 2) := by decide +kernel
theorem dX2_mostAlong_27 : decode cX2_mostAlong 27 = .ok (.iload 5, 2) := by decide +kernel
theorem dX2_mostAlong_29 : decode cX2_mostAlong 29 = .ok (.bipush (-9), 2) := by decide +kernel
theorem dX2_mostAlong_31 : decode cX2_mostAlong 31 = .ok (.if_icmp .ne 5, 3) := by decide +kernel
theorem dX2_mostAlong_34 : decode cX2_mostAlong 34 = .ok (.iconst 0, 1) := by decide +kernel
theorem dX2_mostAlong_35 : decode cX2_mostAlong 35 = .ok (.ireturn, 1) := by decide +kernel
theorem dX2_mostAlong_36 : decode cX2_mostAlong 36 = .ok (.aload_n 0, 1) := by decide +kernel
theorem dX2_mostAlong_37 : decode cX2_mostAlong 37 = .ok (.getfield 48, 3) := by decide +kernel
theorem dX2_mostAlong_40 : decode cX2_mostAlong 40 = .ok (.iload 5, 2) := by decide +kernel
theorem dX2_mostAlong_42 : decode cX2_mostAlong 42 = .ok (.iaload, 1) := by decide +kernel
theorem dX2_mostAlong_43 : decode cX2_mostAlong 43 = .ok (.istore 6, 2) := by decide +kernel
theorem dX2_mostAlong_45 : decode cX2_mostAlong 45 = .ok (.iload 6, 2) := by decide +kernel
theorem dX2_mostAlong_47 : decode cX2_mostAlong 47 = .ok (.bipush (-9), 2) := by decide +kernel
theorem dX2_mostAlong_49 : decode cX2_mostAlong 49 = .ok (.if_icmp .ne 15, 3) := by decide +kernel
theorem dX2_mostAlong_52 : decode cX2_mostAlong 52 = .ok (.iload_n 2, 1) := by decide +kernel
theorem dX2_mostAlong_53 : decode cX2_mostAlong 53 = .ok (.aload_n 0, 1) := by decide +kernel
theorem dX2_mostAlong_54 : decode cX2_mostAlong 54 = .ok (.getfield 36, 3) := by decide +kernel
theorem dX2_mostAlong_57 : decode cX2_mostAlong 57 = .ok (.iload 5, 2) := by decide +kernel
theorem dX2_mostAlong_59 : decode cX2_mostAlong 59 = .ok (.iaload, 1) := by decide +kernel
theorem dX2_mostAlong_60 : decode cX2_mostAlong 60 = .ok (.invokestatic 108, 3) := by decide +kernel
theorem dX2_mostAlong_63 : decode cX2_mostAlong 63 = .ok (.ireturn, 1) := by decide +kernel
theorem dX2_mostAlong_64 : decode cX2_mostAlong 64 = .ok (.iload_n 2, 1) := by decide +kernel
theorem dX2_mostAlong_65 : decode cX2_mostAlong 65 = .ok (.aload_n 0, 1) := by decide +kernel
theorem dX2_mostAlong_66 : decode cX2_mostAlong 66 = .ok (.getfield 33, 3) := by decide +kernel
theorem dX2_mostAlong_69 : decode cX2_mostAlong 69 = .ok (.iload 5, 2) := by decide +kernel
theorem dX2_mostAlong_71 : decode cX2_mostAlong 71 = .ok (.bipush 12, 2) := by decide +kernel
theorem dX2_mostAlong_73 : decode cX2_mostAlong 73 = .ok (.imul, 1) := by decide +kernel
theorem dX2_mostAlong_74 : decode cX2_mostAlong 74 = .ok (.iload 6, 2) := by decide +kernel
theorem dX2_mostAlong_76 : decode cX2_mostAlong 76 = .ok (.iadd, 1) := by decide +kernel
theorem dX2_mostAlong_77 : decode cX2_mostAlong 77 = .ok (.iaload, 1) := by decide +kernel
theorem dX2_mostAlong_78 : decode cX2_mostAlong 78 = .ok (.invokestatic 108, 3) := by decide +kernel
theorem dX2_mostAlong_81 : decode cX2_mostAlong 81 = .ok (.istore_n 2, 1) := by decide +kernel
theorem dX2_mostAlong_82 : decode cX2_mostAlong 82 = .ok (.iload 6, 2) := by decide +kernel
theorem dX2_mostAlong_84 : decode cX2_mostAlong 84 = .ok (.istore_n 3, 1) := by decide +kernel
theorem dX2_mostAlong_85 : decode cX2_mostAlong 85 = .ok (.iinc 4 1, 3) := by decide +kernel
theorem dX2_mostAlong_88 : decode cX2_mostAlong 88 = .ok (.goto (-76), 3) := by decide +kernel
theorem dX2_mostAlong_91 : decode cX2_mostAlong 91 = .ok (.iconst 0, 1) := by decide +kernel
theorem dX2_mostAlong_92 : decode cX2_mostAlong 92 = .ok (.ireturn, 1) := by decide +kernel
theorem dX7_init_0 : decode cX7_init 0 = .ok (.aload_n 0, 1) := by decide +kernel
theorem dX7_init_1 : decode cX7_init 1 = .ok (.invokespecial 3, 3) := by decide +kernel
theorem dX7_init_4 : decode cX7_init 4 = .ok (.aload_n 0, 1) := by decide +kernel
theorem dX7_init_5 : decode cX7_init 5 = .ok (.bipush 16, 2) := by decide +kernel
theorem dX7_init_7 : decode cX7_init 7 = .ok (.newarray .int, 2) := by decide +kernel
theorem dX7_init_9 : decode cX7_init 9 = .ok (.putfield 11, 3) := by decide +kernel
theorem dX7_init_12 : decode cX7_init 12 = .ok (.aload_n 0, 1) := by decide +kernel
theorem dX7_init_13 : decode cX7_init 13 = .ok (.iconst 4, 1) := by decide +kernel
theorem dX7_init_14 : decode cX7_init 14 = .ok (.newarray .int, 2) := by decide +kernel
theorem dX7_init_16 : decode cX7_init 16 = .ok (.putfield 15, 3) := by decide +kernel
theorem dX7_init_19 : decode cX7_init 19 = .ok (.aload_n 0, 1) := by decide +kernel
theorem dX7_init_20 : decode cX7_init 20 = .ok (.sipush 878, 3) := by decide +kernel
theorem dX7_init_23 : decode cX7_init 23 = .ok (.newarray .long, 2) := by decide +kernel
theorem dX7_init_25 : decode cX7_init 25 = .ok (.putfield 18, 3) := by decide +kernel
theorem dX7_init_28 : decode cX7_init 28 = .ok (.aload_n 0, 1) := by decide +kernel
theorem dX7_init_29 : decode cX7_init 29 = .ok (.iconst 1, 1) := by decide +kernel
theorem dX7_init_30 : decode cX7_init 30 = .ok (.putfield 22, 3) := by decide +kernel
theorem dX7_init_33 : decode cX7_init 33 = .ok (.iconst 0, 1) := by decide +kernel
theorem dX7_init_34 : decode cX7_init 34 = .ok (.istore_n 1, 1) := by decide +kernel
theorem dX7_init_35 : decode cX7_init 35 = .ok (.iload_n 1, 1) := by decide +kernel
theorem dX7_init_36 : decode cX7_init 36 = .ok (.bipush 16, 2) := by decide +kernel
theorem dX7_init_38 : decode cX7_init 38 = .ok (.if_icmp .ge 22, 3) := by decide +kernel
theorem dX7_init_41 : decode cX7_init 41 = .ok (.aload_n 0, 1) := by decide +kernel
theorem dX7_init_42 : decode cX7_init 42 = .ok (.getfield 11, 3) := by decide +kernel
theorem dX7_init_45 : decode cX7_init 45 = .ok (.iload_n 1, 1) := by decide +kernel
theorem dX7_init_46 : decode cX7_init 46 = .ok (.getstatic 26, 3) := by decide +kernel
theorem dX7_init_49 : decode cX7_init 49 = .ok (.iload_n 1, 1) := by decide +kernel
theorem dX7_init_50 : decode cX7_init 50 = .ok (.iconst 4, 1) := by decide +kernel
theorem dX7_init_51 : decode cX7_init 51 = .ok (.irem, 1) := by decide +kernel
theorem dX7_init_52 : decode cX7_init 52 = .ok (.iaload, 1) := by decide +kernel
theorem dX7_init_53 : decode cX7_init 53 = .ok (.iastore, 1) := by decide +kernel
theorem dX7_init_54 : decode cX7_init 54 = .ok (.iinc 1 1, 3) := by decide +kernel
theorem dX7_init_57 : decode cX7_init 57 = .ok (.goto (-22), 3) := by decide +kernel
theorem dX7_init_60 : decode cX7_init 60 = .ok (.return_, 1) := by decide +kernel
set_option maxRecDepth 20000 in
theorem ggX7_setValue_J7_fill_d0a16 : GoodIn wsX7_setValue wsJ7_fill_d0a16 := goodIn_r _ [6] rfl (by decide +kernel)
set_option maxRecDepth 20000 in
theorem gX7_setValue_J7_fill_d0a16 : GoodIn wsX7_setValue (va_wsS RX7 29 yJ7_fill_d0a16 wsJ7_fill_d0a16) := goodIn_app (goodIn_of _ (by decide +kernel)) ggX7_setValue_J7_fill_d0a16
theorem dX7_setValue_0 : decode cX7_setValue 0 = .ok (.iload_n 1, 1) := by decide +kernel
theorem dX7_setValue_1 : decode cX7_setValue 1 = .ok (.iconst 4, 1) := by decide +kernel
theorem dX7_setValue_2 : decode cX7_setValue 2 = .ok (.imul, 1) := by decide +kernel
theorem dX7_setValue_3 : decode cX7_setValue 3 = .ok (.iload_n 2, 1) := by decide +kernel
theorem dX7_setValue_4 : decode cX7_setValue 4 = .ok (.iadd, 1) := by decide +kernel
theorem dX7_setValue_5 : decode cX7_setValue 5 = .ok (.istore 4, 2) := by decide +kernel
theorem dX7_setValue_7 : decode cX7_setValue 7 = .ok (.aload_n 0, 1) := by decide +kernel
theorem dX7_setValue_8 : decode cX7_setValue 8 = .ok (.getfield 11, 3) := by decide +kernel
theorem dX7_setValue_11 : decode cX7_setValue 11 = .ok (.iload 4, 2) := by decide +kernel
theorem dX7_setValue_13 : decode cX7_setValue 13 = .ok (.iaload, 1) := by decide +kernel
theorem dX7_setValue_14 : decode cX7_setValue 14 = .ok (.istore 5, 2) := by decide +kernel
theorem dX7_setValue_16 : decode cX7_setValue 16 = .ok (.aload_n 0, 1) := by decide +kernel
theorem dX7_setValue_17 : decode cX7_setValue 17 = .ok (.getfield 11, 3) := by decide +kernel
theorem dX7_setValue_20 : decode cX7_setValue 20 = .ok (.iload 4, 2) := by decide +kernel
theorem dX7_setValue_22 : decode cX7_setValue 22 = .ok (.iload_n 3, 1) := by decide +kernel
theorem dX7_setValue_23 : decode cX7_setValue 23 = .ok (.iastore, 1) := by decide +kernel
theorem dX7_setValue_24 : decode cX7_setValue 24 = .ok (.iload_n 2, 1) := by decide +kernel
theorem dX7_setValue_25 : decode cX7_setValue 25 = .ok (.ifCond .eq 17, 3) := by decide +kernel
theorem dX7_setValue_28 : decode cX7_setValue 28 = .ok (.iload_n 3, 1) := by decide +kernel
theorem dX7_setValue_29 : decode cX7_setValue 29 = .ok (.iload 5, 2) := by decide +kernel
theorem dX7_setValue_31 : decode cX7_setValue 31 = .ok (.if_icmp .eq 11, 3) := by decide +kernel
theorem dX7_setValue_34 : decode cX7_setValue 34 = .ok (.aload_n 0, 1) := by decide +kernel
theorem dX7_setValue_35 : decode cX7_setValue 35 = .ok (.getfield 18, 3) := by decide +kernel
theorem dX7_setValue_38 : decode cX7_setValue 38 = .ok (.lconst 0, 1) := by decide +kernel
theorem dX7_setValue_39 : decode cX7_setValue 39 = .ok (.invokestatic 29, 3) := by decide +kernel
theorem dX7_setValue_42 : decode cX7_setValue 42 = .ok (.iload 5, 2) := by decide +kernel
theorem dX7_setValue_44 : decode cX7_setValue 44 = .ok (.ireturn, 1) := by decide +kernel
set_option maxRecDepth 20000 in
theorem ggX7_setHands_J7_fill_d0a16 : GoodIn wsX7_setHands wsJ7_fill_d0a16 := goodIn_r _ [6] rfl (by decide +kernel)
set_option maxRecDepth 20000 in
theorem gX7_setHands_J7_fill_d0a16 : GoodIn wsX7_setHands (va_wsS RX7 29 yJ7_fill_d0a16 wsJ7_fill_d0a16) := goodIn_app (goodIn_of _ (by decide +kernel)) ggX7_setHands_J7_fill_d0a16
theorem dX7_setHands_0 : decode cX7_setHands 0 = .ok (.aload_n 0, 1) := by decide +kernel
theorem dX7_setHands_1 : decode cX7_setHands 1 = .ok (.getfield 22, 3) := by decide +kernel
theorem dX7_setHands_4 : decode cX7_setHands 4 = .ok (.istore_n 2, 1) := by decide +kernel
theorem dX7_setHands_5 : decode cX7_setHands 5 = .ok (.aload_n 0, 1) := by decide +kernel
theorem dX7_setHands_6 : decode cX7_setHands 6 = .ok (.iload_n 1, 1) := by decide +kernel
theorem dX7_setHands_7 : decode cX7_setHands 7 = .ok (.putfield 22, 3) := by decide +kernel
theorem dX7_setHands_10 : decode cX7_setHands 10 = .ok (.iload_n 1, 1) := by decide +kernel
theorem dX7_setHands_11 : decode cX7_setHands 11 = .ok (.iload_n 2, 1) := by decide +kernel
theorem dX7_setHands_12 : decode cX7_setHands 12 = .ok (.if_icmp .eq 11, 3) := by decide +kernel
theorem dX7_setHands_15 : decode cX7_setHands 15 = .ok (.aload_n 0, 1) := by decide +kernel
theorem dX7_setHands_16 : decode cX7_setHands 16 = .ok (.getfield 18, 3) := by decide +kernel
theorem dX7_setHands_19 : decode cX7_setHands 19 = .ok (.lconst 0, 1) := by decide +kernel
theorem dX7_setHands_20 : decode cX7_setHands 20 = .ok (.invokestatic 29, 3) := by decide +kernel
theorem dX7_setHands_23 : decode cX7_setHands 23 = .ok (.iload_n 2, 1) := by decide +kernel
theorem dX7_setHands_24 : decode cX7_setHands 24 = .ok (.ireturn, 1) := by decide +kernel
theorem dX7_apart_0 : decode cX7_apart 0 = .ok (.aload_n 0, 1) := by decide +kernel
theorem dX7_apart_1 : decode cX7_apart 1 = .ok (.getfield 11, 3) := by decide +kernel
theorem dX7_apart_4 : decode cX7_apart 4 = .ok (.iload_n 1, 1) := by decide +kernel
theorem dX7_apart_5 : decode cX7_apart 5 = .ok (.iconst 4, 1) := by decide +kernel
theorem dX7_apart_6 : decode cX7_apart 6 = .ok (.imul, 1) := by decide +kernel
theorem dX7_apart_7 : decode cX7_apart 7 = .ok (.iconst 0, 1) := by decide +kernel
theorem dX7_apart_8 : decode cX7_apart 8 = .ok (.iadd, 1) := by decide +kernel
theorem dX7_apart_9 : decode cX7_apart 9 = .ok (.iaload, 1) := by decide +kernel
theorem dX7_apart_10 : decode cX7_apart 10 = .ok (.aload_n 0, 1) := by decide +kernel
theorem dX7_apart_11 : decode cX7_apart 11 = .ok (.getfield 11, 3) := by decide +kernel
theorem dX7_apart_14 : decode cX7_apart 14 = .ok (.iload_n 2, 1) := by decide +kernel
theorem dX7_apart_15 : decode cX7_apart 15 = .ok (.iconst 4, 1) := by decide +kernel
theorem dX7_apart_16 : decode cX7_apart 16 = .ok (.imul, 1) := by decide +kernel
theorem dX7_apart_17 : decode cX7_apart 17 = .ok (.iconst 0, 1) := by decide +kernel
theorem dX7_apart_18 : decode cX7_apart 18 = .ok (.iadd, 1) := by decide +kernel
theorem dX7_apart_19 : decode cX7_apart 19 = .ok (.iaload, 1) := by decide +kernel
theorem dX7_apart_20 : decode cX7_apart 20 = .ok (.isub, 1) := by decide +kernel
theorem dX7_apart_21 : decode cX7_apart 21 = .ok (.invokestatic 35, 3) := by decide +kernel
theorem dX7_apart_24 : decode cX7_apart 24 = .ok (.ireturn, 1) := by decide +kernel
theorem dX7_goBy_0 : decode cX7_goBy 0 = .ok (.iconst 0, 1) := by decide +kernel
theorem dX7_goBy_1 : decode cX7_goBy 1 = .ok (.istore_n 2, 1) := by decide +kernel
theorem dX7_goBy_2 : decode cX7_goBy 2 = .ok (.iconst 0, 1) := by decide +kernel
theorem dX7_goBy_3 : decode cX7_goBy 3 = .ok (.istore_n 3, 1) := by decide +kernel
theorem dX7_goBy_4 : decode cX7_goBy 4 = .ok (.iload_n 3, 1) := by decide +kernel
theorem dX7_goBy_5 : decode cX7_goBy 5 = .ok (.iconst 4, 1) := by decide +kernel
theorem dX7_goBy_6 : decode cX7_goBy 6 = .ok (.if_icmp .ge 92, 3) := by decide +kernel
theorem dX7_goBy_9 : decode cX7_goBy 9 = .ok (.iload_n 3, 1) := by decide +kernel
theorem dX7_goBy_10 : decode cX7_goBy 10 = .ok (.iconst 4, 1) := by decide +kernel
theorem dX7_goBy_11 : decode cX7_goBy 11 = .ok (.imul, 1) := by decide +kernel
theorem dX7_goBy_12 : decode cX7_goBy 12 = .ok (.istore 4, 2) := by decide +kernel
theorem dX7_goBy_14 : decode cX7_goBy 14 = .ok (.aload_n 0, 1) := by decide +kernel
theorem dX7_goBy_15 : decode cX7_goBy 15 = .ok (.getfield 11, 3) := by decide +kernel
theorem dX7_goBy_18 : decode cX7_goBy 18 = .ok (.iload 4, 2) := by decide +kernel
theorem dX7_goBy_20 : decode cX7_goBy 20 = .ok (.iload_n 1, 1) := by decide +kernel
theorem dX7_goBy_21 : decode cX7_goBy 21 = .ok (.iload_n 3, 1) := by decide +kernel
theorem dX7_goBy_22 : decode cX7_goBy 22 = .ok (.ishr, 1) := by decide +kernel
theorem dX7_goBy_23 : decode cX7_goBy 23 = .ok (.iconst 1, 1) := by decide +kernel
theorem dX7_goBy_24 : decode cX7_goBy 24 = .ok (.iand, 1) := by decide +kernel
theorem dX7_goBy_25 : decode cX7_goBy 25 = .ok (.iconst 1, 1) := by decide +kernel
theorem dX7_goBy_26 : decode cX7_goBy 26 = .ok (.if_icmp .ne 7, 3) := by decide +kernel
theorem dX7_goBy_29 : decode cX7_goBy 29 = .ok (.iconst 1, 1) := by decide +kernel
theorem dX7_goBy_30 : decode cX7_goBy 30 = .ok (.goto 4, 3) := by decide +kernel
theorem dX7_goBy_33 : decode cX7_goBy 33 = .ok (.iconst 0, 1) := by decide +kernel
theorem dX7_goBy_34 : decode cX7_goBy 34 = .ok (.iadd, 1) := by decide +kernel
theorem dX7_goBy_35 : decode cX7_goBy 35 = .ok (.iaload, 1) := by decide +kernel
theorem dX7_goBy_36 : decode cX7_goBy 36 = .ok (.istore 5, 2) := by decide +kernel
theorem dX7_goBy_38 : decode cX7_goBy 38 = .ok (.aload_n 0, 1) := by decide +kernel
theorem dX7_goBy_39 : decode cX7_goBy 39 = .ok (.getfield 11, 3) := by decide +kernel
theorem dX7_goBy_42 : decode cX7_goBy 42 = .ok (.iload 4, 2) := by decide +kernel
theorem dX7_goBy_44 : decode cX7_goBy 44 = .ok (.iconst 0, 1) := by decide +kernel
theorem dX7_goBy_45 : decode cX7_goBy 45 = .ok (.iadd, 1) := by decide +kernel
theorem dX7_goBy_46 : decode cX7_goBy 46 = .ok (.iconst 0, 1) := by decide +kernel
theorem dX7_goBy_47 : decode cX7_goBy 47 = .ok (.iload 5, 2) := by decide +kernel
theorem dX7_goBy_49 : decode cX7_goBy 49 = .ok (.aload_n 0, 1) := by decide +kernel
theorem dX7_goBy_50 : decode cX7_goBy 50 = .ok (.getfield 11, 3) := by decide +kernel
theorem dX7_goBy_53 : decode cX7_goBy 53 = .ok (.iload 4, 2) := by decide +kernel
theorem dX7_goBy_55 : decode cX7_goBy 55 = .ok (.iconst 2, 1) := by decide +kernel
theorem dX7_goBy_56 : decode cX7_goBy 56 = .ok (.iadd, 1) := by decide +kernel
theorem dX7_goBy_57 : decode cX7_goBy 57 = .ok (.iaload, 1) := by decide +kernel
theorem dX7_goBy_58 : decode cX7_goBy 58 = .ok (.isub, 1) := by decide +kernel
theorem dX7_goBy_59 : decode cX7_goBy 59 = .ok (.invokestatic 41, 3) := by decide +kernel
theorem dX7_goBy_62 : decode cX7_goBy 62 = .ok (.iastore, 1) := by decide +kernel
theorem dX7_goBy_63 : decode cX7_goBy 63 = .ok (.iload_n 2, 1) := by decide +kernel
theorem dX7_goBy_64 : decode cX7_goBy 64 = .ok (.aload_n 0, 1) := by decide +kernel
theorem dX7_goBy_65 : decode cX7_goBy 65 = .ok (.getfield 11, 3) := by decide +kernel
theorem dX7_goBy_68 : decode cX7_goBy 68 = .ok (.iload 4, 2) := by decide +kernel
theorem dX7_goBy_70 : decode cX7_goBy 70 = .ok (.iconst 0, 1) := by decide +kernel
theorem dX7_goBy_71 : decode cX7_goBy 71 = .ok (.iadd, 1) := by decide +kernel
theorem dX7_goBy_72 : decode cX7_goBy 72 = .ok (.iaload, 1) := by decide +kernel
theorem dX7_goBy_73 : decode cX7_goBy 73 = .ok (.aload_n 0, 1) := by decide +kernel
theorem dX7_goBy_74 : decode cX7_goBy 74 = .ok (.getfield 11, 3) := by decide +kernel
theorem dX7_goBy_77 : decode cX7_goBy 77 = .ok (.iload 4, 2) := by decide +kernel
theorem dX7_goBy_79 : decode cX7_goBy 79 = .ok (.iconst 3, 1) := by decide +kernel
theorem dX7_goBy_80 : decode cX7_goBy 80 = .ok (.iadd, 1) := by decide +kernel
theorem dX7_goBy_81 : decode cX7_goBy 81 = .ok (.iaload, 1) := by decide +kernel
theorem dX7_goBy_82 : decode cX7_goBy 82 = .ok (.if_icmp .ge 7, 3) := by decide +kernel
theorem dX7_goBy_85 : decode cX7_goBy 85 = .ok (.iconst 1, 1) := by decide +kernel
theorem dX7_goBy_86 : decode cX7_goBy 86 = .ok (.goto 4, 3) := by decide +kernel
theorem dX7_goBy_89 : decode cX7_goBy 89 = .ok (.iconst 0, 1) := by decide +kernel
theorem dX7_goBy_90 : decode cX7_goBy 90 = .ok (.iadd, 1) := by decide +kernel
theorem dX7_goBy_91 : decode cX7_goBy 91 = .ok (.istore_n 2, 1) := by decide +kernel
theorem dX7_goBy_92 : decode cX7_goBy 92 = .ok (.iinc 3 1, 3) := by decide +kernel
theorem dX7_goBy_95 : decode cX7_goBy 95 = .ok (.goto (-91), 3) := by decide +kernel
theorem dX7_goBy_98 : decode cX7_goBy 98 = .ok (.iload_n 2, 1) := by decide +kernel
theorem dX7_goBy_99 : decode cX7_goBy 99 = .ok (.ireturn, 1) := by decide +kernel
set_option maxRecDepth 20000 in
theorem ggX7_fewestOver_X7_stateNow : GoodIn wsX7_fewestOver wsX7_stateNow := goodIn_r _ [5, 6, 7, 8, 9, 10, 11, 12, 13, 14, 4, 15, 63, 64, 65, 66] rfl (by decide +kernel)
set_option maxRecDepth 20000 in
theorem gX7_fewestOver_X7_stateNow : GoodIn wsX7_fewestOver (wsV RX7 45 RX7 yX7_stateNow wsX7_stateNow) := goodIn_app (goodIn_of _ (by decide +kernel)) ggX7_fewestOver_X7_stateNow
set_option maxRecDepth 20000 in
theorem ggX7_fewestOver_X7_fewestFrom : GoodIn wsX7_fewestOver wsX7_fewestFrom := goodIn_r _ [19, 20, 8, 9, 10, 11, 21, 22, 4, 23, 24, 25, 26, 27, 28, 29, 30, 31, 32, 33, 34, 35, 36, 37, 38, 39, 6, 40, 41, 42, 43, 44, 45, 46, 47, 48, 49, 50, 51, 52, 53, 54, 55, 56, 57, 58, 16, 17, 18, 59, 60, 61, 62, 63, 64, 65, 66] rfl (by decide +kernel)
set_option maxRecDepth 20000 in
theorem gX7_fewestOver_X7_fewestFrom : GoodIn wsX7_fewestOver (wsV RX7 48 RX7 yX7_fewestFrom wsX7_fewestFrom) := goodIn_app (goodIn_of _ (by decide +kernel)) ggX7_fewestOver_X7_fewestFrom
theorem dX7_fewestOver_0 : decode cX7_fewestOver 0 = .ok (.aload_n 0, 1) := by decide +kernel
theorem dX7_fewestOver_1 : decode cX7_fewestOver 1 = .ok (.iload_n 1, 1) := by decide +kernel
theorem dX7_fewestOver_2 : decode cX7_fewestOver 2 = .ok (.aload_n 0, 1) := by decide +kernel
theorem dX7_fewestOver_3 : decode cX7_fewestOver 3 = .ok (.iload_n 1, 1) := by decide +kernel
theorem dX7_fewestOver_4 : decode cX7_fewestOver 4 = .ok (.invokevirtual 45, 3) := by decide +kernel
theorem dX7_fewestOver_7 : decode cX7_fewestOver 7 = .ok (.invokevirtual 48, 3) := by decide +kernel
theorem dX7_fewestOver_10 : decode cX7_fewestOver 10 = .ok (.istore_n 2, 1) := by decide +kernel
theorem dX7_fewestOver_11 : decode cX7_fewestOver 11 = .ok (.iload_n 2, 1) := by decide +kernel
theorem dX7_fewestOver_12 : decode cX7_fewestOver 12 = .ok (.bipush 62, 2) := by decide +kernel
theorem dX7_fewestOver_14 : decode cX7_fewestOver 14 = .ok (.if_icmp .lt 8, 3) := by decide +kernel
theorem dX7_fewestOver_17 : decode cX7_fewestOver 17 = .ok (.bipush (-9), 2) := by decide +kernel
theorem dX7_fewestOver_19 : decode cX7_fewestOver 19 = .ok (.goto 4, 3) := by decide +kernel
theorem dX7_fewestOver_22 : decode cX7_fewestOver 22 = .ok (.iload_n 2, 1) := by decide +kernel
theorem dX7_fewestOver_23 : decode cX7_fewestOver 23 = .ok (.ireturn, 1) := by decide +kernel
set_option maxRecDepth 20000 in
theorem ggX7_setOfMonth_X7_stateNow : GoodIn wsX7_setOfMonth wsX7_stateNow := goodIn_r _ [5, 6, 7, 8, 9, 10, 11, 12, 13, 14, 4, 15, 67, 68, 69, 70] rfl (by decide +kernel)
set_option maxRecDepth 20000 in
theorem gX7_setOfMonth_X7_stateNow : GoodIn wsX7_setOfMonth (wsV RX7 45 RX7 yX7_stateNow wsX7_stateNow) := goodIn_app (goodIn_of _ (by decide +kernel)) ggX7_setOfMonth_X7_stateNow
set_option maxRecDepth 20000 in
theorem ggX7_setOfMonth_X7_leastSet : GoodIn wsX7_setOfMonth wsX7_leastSet := goodIn_r _ [19, 20, 21, 22, 4, 23, 24, 8, 9, 10, 11, 25, 26, 27, 28, 29, 30, 31, 32, 33, 34, 35, 36, 37, 38, 39, 40, 41, 42, 43, 6, 44, 45, 46, 47, 48, 49, 50, 51, 52, 53, 54, 55, 56, 57, 58, 59, 60, 61, 62, 63, 64, 65, 66, 67, 68, 69, 70] rfl (by decide +kernel)
set_option maxRecDepth 20000 in
theorem gX7_setOfMonth_X7_leastSet : GoodIn wsX7_setOfMonth (wsV RX7 51 RX7 yX7_leastSet wsX7_leastSet) := goodIn_app (goodIn_of _ (by decide +kernel)) ggX7_setOfMonth_X7_leastSet
set_option maxRecDepth 20000 in
theorem ggX7_setOfMonth_X7_after : GoodIn wsX7_setOfMonth wsX7_after := goodIn_r _ [59, 6, 8, 9, 10, 11, 60, 61, 62, 28, 29, 4, 30, 67, 68, 69, 70] rfl (by decide +kernel)
set_option maxRecDepth 20000 in
theorem gX7_setOfMonth_X7_after : GoodIn wsX7_setOfMonth (wsV RX7 54 RX7 yX7_after wsX7_after) := goodIn_app (goodIn_of _ (by decide +kernel)) ggX7_setOfMonth_X7_after
theorem dX7_setOfMonth_0 : decode cX7_setOfMonth 0 = .ok (.aload_n 0, 1) := by decide +kernel
theorem dX7_setOfMonth_1 : decode cX7_setOfMonth 1 = .ok (.iload_n 1, 1) := by decide +kernel
theorem dX7_setOfMonth_2 : decode cX7_setOfMonth 2 = .ok (.invokevirtual 45, 3) := by decide +kernel
theorem dX7_setOfMonth_5 : decode cX7_setOfMonth 5 = .ok (.istore_n 3, 1) := by decide +kernel
theorem dX7_setOfMonth_6 : decode cX7_setOfMonth 6 = .ok (.bipush (-9), 2) := by decide +kernel
theorem dX7_setOfMonth_8 : decode cX7_setOfMonth 8 = .ok (.istore 4, 2) := by decide +kernel
theorem dX7_setOfMonth_10 : decode cX7_setOfMonth 10 = .ok (.iconst 0, 1) := by decide +kernel
theorem dX7_setOfMonth_11 : decode cX7_setOfMonth 11 = .ok (.istore 5, 2) := by decide +kernel
theorem dX7_setOfMonth_13 : decode cX7_setOfMonth 13 = .ok (.iload 5, 2) := by decide +kernel
theorem dX7_setOfMonth_15 : decode cX7_setOfMonth 15 = .ok (.iload_n 2, 1) := by decide +kernel
theorem dX7_setOfMonth_16 : decode cX7_setOfMonth 16 = .ok (.if_icmp .gt 42, 3) := by decide +kernel
theorem dX7_setOfMonth_19 : decode cX7_setOfMonth 19 = .ok (.aload_n 0, 1) := by decide +kernel
theorem dX7_setOfMonth_20 : decode cX7_setOfMonth 20 = .ok (.iload_n 1, 1) := by decide +kernel
theorem dX7_setOfMonth_21 : decode cX7_setOfMonth 21 = .ok (.iload 5, 2) := by decide +kernel
theorem dX7_setOfMonth_23 : decode cX7_setOfMonth 23 = .ok (.isub, 1) := by decide +kernel
theorem dX7_setOfMonth_24 : decode cX7_setOfMonth 24 = .ok (.iload_n 3, 1) := by decide +kernel
theorem dX7_setOfMonth_25 : decode cX7_setOfMonth 25 = .ok (.invokevirtual 51, 3) := by decide +kernel
theorem dX7_setOfMonth_28 : decode cX7_setOfMonth 28 = .ok (.istore 4, 2) := by decide +kernel
theorem dX7_setOfMonth_30 : decode cX7_setOfMonth 30 = .ok (.iload 4, 2) := by decide +kernel
theorem dX7_setOfMonth_32 : decode cX7_setOfMonth 32 = .ok (.bipush (-9), 2) := by decide +kernel
theorem dX7_setOfMonth_34 : decode cX7_setOfMonth 34 = .ok (.if_icmp .ne 6, 3) := by decide +kernel
theorem dX7_setOfMonth_37 : decode cX7_setOfMonth 37 = .ok (.bipush (-9), 2) := by decide +kernel
theorem dX7_setOfMonth_39 : decode cX7_setOfMonth 39 = .ok (.ireturn, 1) := by decide +kernel
theorem dX7_setOfMonth_40 : decode cX7_setOfMonth 40 = .ok (.aload_n 0, 1) := by decide +kernel
theorem dX7_setOfMonth_41 : decode cX7_setOfMonth 41 = .ok (.iload_n 1, 1) := by decide +kernel
theorem dX7_setOfMonth_42 : decode cX7_setOfMonth 42 = .ok (.iload 5, 2) := by decide +kernel
theorem dX7_setOfMonth_44 : decode cX7_setOfMonth 44 = .ok (.isub, 1) := by decide +kernel
theorem dX7_setOfMonth_45 : decode cX7_setOfMonth 45 = .ok (.iload_n 3, 1) := by decide +kernel
theorem dX7_setOfMonth_46 : decode cX7_setOfMonth 46 = .ok (.iload 4, 2) := by decide +kernel
theorem dX7_setOfMonth_48 : decode cX7_setOfMonth 48 = .ok (.invokevirtual 54, 3) := by decide +kernel
theorem dX7_setOfMonth_51 : decode cX7_setOfMonth 51 = .ok (.istore_n 3, 1) := by decide +kernel
theorem dX7_setOfMonth_52 : decode cX7_setOfMonth 52 = .ok (.iinc 5 1, 3) := by decide +kernel
theorem dX7_setOfMonth_55 : decode cX7_setOfMonth 55 = .ok (.goto (-42), 3) := by decide +kernel
theorem dX7_setOfMonth_58 : decode cX7_setOfMonth 58 = .ok (.iload 4, 2) := by decide +kernel
theorem dX7_setOfMonth_60 : decode cX7_setOfMonth 60 = .ok (.ireturn, 1) := by decide +kernel
theorem dX7_lasts_0 : decode cX7_lasts 0 = .ok (.aload_n 0, 1) := by decide +kernel
theorem dX7_lasts_1 : decode cX7_lasts 1 = .ok (.getfield 11, 3) := by decide +kernel
theorem dX7_lasts_4 : decode cX7_lasts 4 = .ok (.iload_n 1, 1) := by decide +kernel
theorem dX7_lasts_5 : decode cX7_lasts 5 = .ok (.iconst 4, 1) := by decide +kernel
theorem dX7_lasts_6 : decode cX7_lasts 6 = .ok (.imul, 1) := by decide +kernel
theorem dX7_lasts_7 : decode cX7_lasts 7 = .ok (.iconst 2, 1) := by decide +kernel
theorem dX7_lasts_8 : decode cX7_lasts 8 = .ok (.iadd, 1) := by decide +kernel
theorem dX7_lasts_9 : decode cX7_lasts 9 = .ok (.iaload, 1) := by decide +kernel
theorem dX7_lasts_10 : decode cX7_lasts 10 = .ok (.istore_n 3, 1) := by decide +kernel
theorem dX7_lasts_11 : decode cX7_lasts 11 = .ok (.aload_n 0, 1) := by decide +kernel
theorem dX7_lasts_12 : decode cX7_lasts 12 = .ok (.getfield 11, 3) := by decide +kernel
theorem dX7_lasts_15 : decode cX7_lasts 15 = .ok (.iload_n 1, 1) := by decide +kernel
theorem dX7_lasts_16 : decode cX7_lasts 16 = .ok (.iconst 4, 1) := by decide +kernel
theorem dX7_lasts_17 : decode cX7_lasts 17 = .ok (.imul, 1) := by decide +kernel
theorem dX7_lasts_18 : decode cX7_lasts 18 = .ok (.iconst 3, 1) := by decide +kernel
theorem dX7_lasts_19 : decode cX7_lasts 19 = .ok (.iadd, 1) := by decide +kernel
theorem dX7_lasts_20 : decode cX7_lasts 20 = .ok (.iaload, 1) := by decide +kernel
theorem dX7_lasts_21 : decode cX7_lasts 21 = .ok (.istore 4, 2) := by decide +kernel
theorem dX7_lasts_23 : decode cX7_lasts 23 = .ok (.iload 4, 2) := by decide +kernel
theorem dX7_lasts_25 : decode cX7_lasts 25 = .ok (.ifCond .ne 6, 3) := by decide +kernel
theorem dX7_lasts_28 : decode cX7_lasts 28 = .ok (.bipush 8, 2) := by decide +kernel
theorem dX7_lasts_30 : decode cX7_lasts 30 = .ok (.ireturn, 1) := by decide +kernel
theorem dX7_lasts_31 : decode cX7_lasts 31 = .ok (.iload_n 2, 1) := by decide +kernel
theorem dX7_lasts_32 : decode cX7_lasts 32 = .ok (.iload 4, 2) := by decide +kernel
theorem dX7_lasts_34 : decode cX7_lasts 34 = .ok (.if_icmp .ge 5, 3) := by decide +kernel
theorem dX7_lasts_37 : decode cX7_lasts 37 = .ok (.iconst 0, 1) := by decide +kernel
theorem dX7_lasts_38 : decode cX7_lasts 38 = .ok (.ireturn, 1) := by decide +kernel
theorem dX7_lasts_39 : decode cX7_lasts 39 = .ok (.iload_n 3, 1) := by decide +kernel
theorem dX7_lasts_40 : decode cX7_lasts 40 = .ok (.iconst 1, 1) := by decide +kernel
theorem dX7_lasts_41 : decode cX7_lasts 41 = .ok (.if_icmp .ge 8, 3) := by decide +kernel
theorem dX7_lasts_44 : decode cX7_lasts 44 = .ok (.bipush 8, 2) := by decide +kernel
theorem dX7_lasts_46 : decode cX7_lasts 46 = .ok (.goto 14, 3) := by decide +kernel
theorem dX7_lasts_49 : decode cX7_lasts 49 = .ok (.bipush 8, 2) := by decide +kernel
theorem dX7_lasts_51 : decode cX7_lasts 51 = .ok (.iload_n 2, 1) := by decide +kernel
theorem dX7_lasts_52 : decode cX7_lasts 52 = .ok (.iload 4, 2) := by decide +kernel
theorem dX7_lasts_54 : decode cX7_lasts 54 = .ok (.isub, 1) := by decide +kernel
theorem dX7_lasts_55 : decode cX7_lasts 55 = .ok (.iload_n 3, 1) := by decide +kernel
theorem dX7_lasts_56 : decode cX7_lasts 56 = .ok (.idiv, 1) := by decide +kernel
theorem dX7_lasts_57 : decode cX7_lasts 57 = .ok (.invokestatic 58, 3) := by decide +kernel
theorem dX7_lasts_60 : decode cX7_lasts 60 = .ok (.ireturn, 1) := by decide +kernel
set_option maxRecDepth 20000 in
theorem ggX7_stateNow_X7_lasts : GoodIn wsX7_stateNow wsX7_lasts := goodIn_r _ [11, 2, 3, 4, 5, 6, 12, 13, 14, 15] rfl (by decide +kernel)
set_option maxRecDepth 20000 in
theorem gX7_stateNow_X7_lasts : GoodIn wsX7_stateNow (wsV RX7 61 RX7 yX7_lasts wsX7_lasts) := goodIn_app (goodIn_of _ (by decide +kernel)) ggX7_stateNow_X7_lasts
theorem dX7_stateNow_0 : decode cX7_stateNow 0 = .ok (.iconst 0, 1) := by decide +kernel
theorem dX7_stateNow_1 : decode cX7_stateNow 1 = .ok (.istore_n 2, 1) := by decide +kernel
theorem dX7_stateNow_2 : decode cX7_stateNow 2 = .ok (.iconst 0, 1) := by decide +kernel
theorem dX7_stateNow_3 : decode cX7_stateNow 3 = .ok (.istore_n 3, 1) := by decide +kernel
theorem dX7_stateNow_4 : decode cX7_stateNow 4 = .ok (.iload_n 3, 1) := by decide +kernel
theorem dX7_stateNow_5 : decode cX7_stateNow 5 = .ok (.iconst 4, 1) := by decide +kernel
theorem dX7_stateNow_6 : decode cX7_stateNow 6 = .ok (.if_icmp .ge 56, 3) := by decide +kernel
theorem dX7_stateNow_9 : decode cX7_stateNow 9 = .ok (.aload_n 0, 1) := by decide +kernel
theorem dX7_stateNow_10 : decode cX7_stateNow 10 = .ok (.getfield 15, 3) := by decide +kernel
theorem dX7_stateNow_13 : decode cX7_stateNow 13 = .ok (.iload_n 3, 1) := by decide +kernel
theorem dX7_stateNow_14 : decode cX7_stateNow 14 = .ok (.aload_n 0, 1) := by decide +kernel
theorem dX7_stateNow_15 : decode cX7_stateNow 15 = .ok (.iload_n 3, 1) := by decide +kernel
theorem dX7_stateNow_16 : decode cX7_stateNow 16 = .ok (.aload_n 0, 1) := by decide +kernel
theorem dX7_stateNow_17 : decode cX7_stateNow 17 = .ok (.getfield 11, 3) := by decide +kernel
theorem dX7_stateNow_20 : decode cX7_stateNow 20 = .ok (.iload_n 3, 1) := by decide +kernel
theorem dX7_stateNow_21 : decode cX7_stateNow 21 = .ok (.iconst 4, 1) := by decide +kernel
theorem dX7_stateNow_22 : decode cX7_stateNow 22 = .ok (.imul, 1) := by decide +kernel
theorem dX7_stateNow_23 : decode cX7_stateNow 23 = .ok (.iconst 1, 1) := by decide +kernel
theorem dX7_stateNow_24 : decode cX7_stateNow 24 = .ok (.iadd, 1) := by decide +kernel
theorem dX7_stateNow_25 : decode cX7_stateNow 25 = .ok (.iaload, 1) := by decide +kernel
theorem dX7_stateNow_26 : decode cX7_stateNow 26 = .ok (.invokevirtual 61, 3) := by decide +kernel
theorem dX7_stateNow_29 : decode cX7_stateNow 29 = .ok (.iastore, 1) := by decide +kernel
theorem dX7_stateNow_30 : decode cX7_stateNow 30 = .ok (.iload_n 2, 1) := by decide +kernel
theorem dX7_stateNow_31 : decode cX7_stateNow 31 = .ok (.iload_n 1, 1) := by decide +kernel
theorem dX7_stateNow_32 : decode cX7_stateNow 32 = .ok (.aload_n 0, 1) := by decide +kernel
theorem dX7_stateNow_33 : decode cX7_stateNow 33 = .ok (.iload_n 3, 1) := by decide +kernel
theorem dX7_stateNow_34 : decode cX7_stateNow 34 = .ok (.aload_n 0, 1) := by decide +kernel
theorem dX7_stateNow_35 : decode cX7_stateNow 35 = .ok (.getfield 11, 3) := by decide +kernel
theorem dX7_stateNow_38 : decode cX7_stateNow 38 = .ok (.iload_n 3, 1) := by decide +kernel
theorem dX7_stateNow_39 : decode cX7_stateNow 39 = .ok (.iconst 4, 1) := by decide +kernel
theorem dX7_stateNow_40 : decode cX7_stateNow 40 = .ok (.imul, 1) := by decide +kernel
theorem dX7_stateNow_41 : decode cX7_stateNow 41 = .ok (.iconst 0, 1) := by decide +kernel
theorem dX7_stateNow_42 : decode cX7_stateNow 42 = .ok (.iadd, 1) := by decide +kernel
theorem dX7_stateNow_43 : decode cX7_stateNow 43 = .ok (.iaload, 1) := by decide +kernel
theorem dX7_stateNow_44 : decode cX7_stateNow 44 = .ok (.invokevirtual 61, 3) := by decide +kernel
theorem dX7_stateNow_47 : decode cX7_stateNow 47 = .ok (.invokestatic 58, 3) := by decide +kernel
theorem dX7_stateNow_50 : decode cX7_stateNow 50 = .ok (.iconst 4, 1) := by decide +kernel
theorem dX7_stateNow_51 : decode cX7_stateNow 51 = .ok (.iload_n 3, 1) := by decide +kernel
theorem dX7_stateNow_52 : decode cX7_stateNow 52 = .ok (.imul, 1) := by decide +kernel
theorem dX7_stateNow_53 : decode cX7_stateNow 53 = .ok (.ishl, 1) := by decide +kernel
theorem dX7_stateNow_54 : decode cX7_stateNow 54 = .ok (.ior, 1) := by decide +kernel
theorem dX7_stateNow_55 : decode cX7_stateNow 55 = .ok (.istore_n 2, 1) := by decide +kernel
theorem dX7_stateNow_56 : decode cX7_stateNow 56 = .ok (.iinc 3 1, 3) := by decide +kernel
theorem dX7_stateNow_59 : decode cX7_stateNow 59 = .ok (.goto (-55), 3) := by decide +kernel
theorem dX7_stateNow_62 : decode cX7_stateNow 62 = .ok (.iload_n 2, 1) := by decide +kernel
theorem dX7_stateNow_63 : decode cX7_stateNow 63 = .ok (.ireturn, 1) := by decide +kernel
set_option maxRecDepth 20000 in
theorem ggX7_fewestFrom_X7_slotOf : GoodIn wsX7_fewestFrom wsX7_slotOf := goodIn_r _ [9, 1, 10, 11, 8, 12] rfl (by decide +kernel)
set_option maxRecDepth 20000 in
theorem gX7_fewestFrom_X7_slotOf : GoodIn wsX7_fewestFrom (va_wsS RX7 67 yX7_slotOf wsX7_slotOf) := goodIn_app (goodIn_of _ (by decide +kernel)) ggX7_fewestFrom_X7_slotOf
set_option maxRecDepth 20000 in
theorem ggX7_fewestFrom_X7_recall : GoodIn wsX7_fewestFrom wsX7_recall := goodIn_r _ [16, 17, 18, 53, 54, 55, 56] rfl (by decide +kernel)
set_option maxRecDepth 20000 in
theorem gX7_fewestFrom_X7_recall : GoodIn wsX7_fewestFrom (wsV RX7 70 RX7 yX7_recall wsX7_recall) := goodIn_app (goodIn_of _ (by decide +kernel)) ggX7_fewestFrom_X7_recall
set_option maxRecDepth 20000 in
theorem ggX7_fewestFrom_X7_lotsThatMust : GoodIn wsX7_fewestFrom wsX7_lotsThatMust := goodIn_r _ [21, 10, 11, 8, 12] rfl (by decide +kernel)
set_option maxRecDepth 20000 in
theorem gX7_fewestFrom_X7_lotsThatMust : GoodIn wsX7_fewestFrom (va_wsS RX7 73 yX7_lotsThatMust wsX7_lotsThatMust) := goodIn_app (goodIn_of _ (by decide +kernel)) ggX7_fewestFrom_X7_lotsThatMust
set_option maxRecDepth 20000 in
theorem ggX7_fewestFrom_X7_lotsThatMay : GoodIn wsX7_fewestFrom wsX7_lotsThatMay := goodIn_r _ [25, 26, 2, 3, 4, 5, 10, 11, 8, 12, 53, 54, 55, 56] rfl (by decide +kernel)
set_option maxRecDepth 20000 in
theorem gX7_fewestFrom_X7_lotsThatMay : GoodIn wsX7_fewestFrom (wsV RX7 76 RX7 yX7_lotsThatMay wsX7_lotsThatMay) := goodIn_app (goodIn_of _ (by decide +kernel)) ggX7_fewestFrom_X7_lotsThatMay
set_option maxRecDepth 20000 in
theorem ggX7_fewestFrom_X7_allowed : GoodIn wsX7_fewestFrom wsX7_allowed := goodIn_r _ [30, 31, 32, 33, 34, 35, 36, 37, 38, 53, 54, 55, 56] rfl (by decide +kernel)
set_option maxRecDepth 20000 in
theorem gX7_fewestFrom_X7_allowed : GoodIn wsX7_fewestFrom (wsV RX7 79 RX7 yX7_allowed wsX7_allowed) := goodIn_app (goodIn_of _ (by decide +kernel)) ggX7_fewestFrom_X7_allowed
set_option maxRecDepth 20000 in
theorem ggX7_fewestFrom_X7_after : GoodIn wsX7_fewestFrom wsX7_after := goodIn_r _ [42, 26, 2, 3, 4, 5, 43, 44, 45, 10, 11, 8, 12, 53, 54, 55, 56] rfl (by decide +kernel)
set_option maxRecDepth 20000 in
theorem gX7_fewestFrom_X7_after : GoodIn wsX7_fewestFrom (wsV RX7 54 RX7 yX7_after wsX7_after) := goodIn_app (goodIn_of _ (by decide +kernel)) ggX7_fewestFrom_X7_after
set_option maxRecDepth 20000 in
theorem ggX7_fewestFrom_X7_fewestFrom : GoodIn wsX7_fewestFrom wsX7_fewestFrom := goodIn_r _ [0, 1, 2, 3, 4, 5, 6, 7, 8, 9, 10, 11, 12, 13, 14, 15, 16, 17, 18, 19, 20, 21, 22, 23, 24, 25, 26, 27, 28, 29, 30, 31, 32, 33, 34, 35, 36, 37, 38, 39, 40, 41, 42, 43, 44, 45, 46, 47, 48, 49, 50, 51, 52, 53, 54, 55, 56] rfl (by decide +kernel)
set_option maxRecDepth 20000 in
theorem gX7_fewestFrom_X7_fewestFrom : GoodIn wsX7_fewestFrom (wsV RX7 48 RX7 yX7_fewestFrom wsX7_fewestFrom) := goodIn_app (goodIn_of _ (by decide +kernel)) ggX7_fewestFrom_X7_fewestFrom
set_option maxRecDepth 20000 in
theorem ggX7_fewestFrom_J6_bitCount_0f7a4 : GoodIn wsX7_fewestFrom wsJ6_bitCount_0f7a4 := goodIn_r _ [35, 36, 37, 38] rfl (by decide +kernel)
set_option maxRecDepth 20000 in
theorem gX7_fewestFrom_J6_bitCount_0f7a4 : GoodIn wsX7_fewestFrom (va_wsS RX7 83 yJ6_bitCount_0f7a4 wsJ6_bitCount_0f7a4) := goodIn_app (goodIn_of _ (by decide +kernel)) ggX7_fewestFrom_J6_bitCount_0f7a4
set_option maxRecDepth 20000 in
theorem ggX7_fewestFrom_X7_keep : GoodIn wsX7_fewestFrom wsX7_keep := goodIn_r _ [52, 17, 53, 54, 55, 56] rfl (by decide +kernel)
set_option maxRecDepth 20000 in
theorem gX7_fewestFrom_X7_keep : GoodIn wsX7_fewestFrom (wsV RX7 88 RX7 yX7_keep wsX7_keep) := goodIn_app (goodIn_of _ (by decide +kernel)) ggX7_fewestFrom_X7_keep
theorem dX7_fewestFrom_0 : decode cX7_fewestFrom 0 = .ok (.iload_n 1, 1) := by decide +kernel
theorem dX7_fewestFrom_1 : decode cX7_fewestFrom 1 = .ok (.iconst 1, 1) := by decide +kernel
theorem dX7_fewestFrom_2 : decode cX7_fewestFrom 2 = .ok (.if_icmp .ge 5, 3) := by decide +kernel
theorem dX7_fewestFrom_5 : decode cX7_fewestFrom 5 = .ok (.iconst 0, 1) := by decide +kernel
theorem dX7_fewestFrom_6 : decode cX7_fewestFrom 6 = .ok (.ireturn, 1) := by decide +kernel
theorem dX7_fewestFrom_7 : decode cX7_fewestFrom 7 = .ok (.iload_n 1, 1) := by decide +kernel
theorem dX7_fewestFrom_8 : decode cX7_fewestFrom 8 = .ok (.getstatic 64, 3) := by decide +kernel
theorem dX7_fewestFrom_11 : decode cX7_fewestFrom 11 = .ok (.arraylength, 1) := by decide +kernel
theorem dX7_fewestFrom_12 : decode cX7_fewestFrom 12 = .ok (.if_icmp .ge 11, 3) := by decide +kernel
theorem dX7_fewestFrom_15 : decode cX7_fewestFrom 15 = .ok (.iload_n 1, 1) := by decide +kernel
theorem dX7_fewestFrom_16 : decode cX7_fewestFrom 16 = .ok (.iload_n 2, 1) := by decide +kernel
theorem dX7_fewestFrom_17 : decode cX7_fewestFrom 17 = .ok (.invokestatic 67, 3) := by decide +kernel
theorem dX7_fewestFrom_20 : decode cX7_fewestFrom 20 = .ok (.goto 6, 3) := by decide +kernel
theorem dX7_fewestFrom_23 : decode cX7_fewestFrom 23 = .ok (.sipush 8771, 3) := by decide +kernel
theorem dX7_fewestFrom_26 : decode cX7_fewestFrom 26 = .ok (.istore_n 3, 1) := by decide +kernel
theorem dX7_fewestFrom_27 : decode cX7_fewestFrom 27 = .ok (.iload_n 3, 1) := by decide +kernel
theorem dX7_fewestFrom_28 : decode cX7_fewestFrom 28 = .ok (.sipush 8771, 3) := by decide +kernel
theorem dX7_fewestFrom_31 : decode cX7_fewestFrom 31 = .ok (.if_icmp .ge 11, 3) := by decide +kernel
theorem dX7_fewestFrom_34 : decode cX7_fewestFrom 34 = .ok (.aload_n 0, 1) := by decide +kernel
theorem dX7_fewestFrom_35 : decode cX7_fewestFrom 35 = .ok (.iload_n 3, 1) := by decide +kernel
theorem dX7_fewestFrom_36 : decode cX7_fewestFrom 36 = .ok (.invokevirtual 70, 3) := by decide +kernel
theorem dX7_fewestFrom_39 : decode cX7_fewestFrom 39 = .ok (.goto 4, 3) := by decide +kernel
theorem dX7_fewestFrom_42 : decode cX7_fewestFrom 42 = .ok (.iconst 0, 1) := by decide +kernel
theorem dX7_fewestFrom_43 : decode cX7_fewestFrom 43 = .ok (.istore 4, 2) := by decide +kernel
theorem dX7_fewestFrom_45 : decode cX7_fewestFrom 45 = .ok (.iload 4, 2) := by decide +kernel
theorem dX7_fewestFrom_47 : decode cX7_fewestFrom 47 = .ok (.ifCond .le 8, 3) := by decide +kernel
theorem dX7_fewestFrom_50 : decode cX7_fewestFrom 50 = .ok (.iload 4, 2) := by decide +kernel
theorem dX7_fewestFrom_52 : decode cX7_fewestFrom 52 = .ok (.iconst 1, 1) := by decide +kernel
theorem dX7_fewestFrom_53 : decode cX7_fewestFrom 53 = .ok (.isub, 1) := by decide +kernel
theorem dX7_fewestFrom_54 : decode cX7_fewestFrom 54 = .ok (.ireturn, 1) := by decide +kernel
theorem dX7_fewestFrom_55 : decode cX7_fewestFrom 55 = .ok (.bipush 62, 2) := by decide +kernel
theorem dX7_fewestFrom_57 : decode cX7_fewestFrom 57 = .ok (.istore 5, 2) := by decide +kernel
theorem dX7_fewestFrom_59 : decode cX7_fewestFrom 59 = .ok (.iload_n 2, 1) := by decide +kernel
theorem dX7_fewestFrom_60 : decode cX7_fewestFrom 60 = .ok (.invokestatic 73, 3) := by decide +kernel
theorem dX7_fewestFrom_63 : decode cX7_fewestFrom 63 = .ok (.istore 6, 2) := by decide +kernel
theorem dX7_fewestFrom_65 : decode cX7_fewestFrom 65 = .ok (.aload_n 0, 1) := by decide +kernel
theorem dX7_fewestFrom_66 : decode cX7_fewestFrom 66 = .ok (.iload_n 1, 1) := by decide +kernel
theorem dX7_fewestFrom_67 : decode cX7_fewestFrom 67 = .ok (.iload_n 2, 1) := by decide +kernel
theorem dX7_fewestFrom_68 : decode cX7_fewestFrom 68 = .ok (.invokevirtual 76, 3) := by decide +kernel
theorem dX7_fewestFrom_71 : decode cX7_fewestFrom 71 = .ok (.istore 7, 2) := by decide +kernel
theorem dX7_fewestFrom_73 : decode cX7_fewestFrom 73 = .ok (.iconst 0, 1) := by decide +kernel
theorem dX7_fewestFrom_74 : decode cX7_fewestFrom 74 = .ok (.istore 8, 2) := by decide +kernel
theorem dX7_fewestFrom_76 : decode cX7_fewestFrom 76 = .ok (.iload 8, 2) := by decide +kernel
theorem dX7_fewestFrom_78 : decode cX7_fewestFrom 78 = .ok (.bipush 16, 2) := by decide +kernel
theorem dX7_fewestFrom_80 : decode cX7_fewestFrom 80 = .ok (.if_icmp .ge 54, 3) := by decide +kernel
theorem dX7_fewestFrom_83 : decode cX7_fewestFrom 83 = .ok (.aload_n 0, 1) := by decide +kernel
theorem dX7_fewestFrom_84 : decode cX7_fewestFrom 84 = .ok (.iload 8, 2) := by decide +kernel
theorem dX7_fewestFrom_86 : decode cX7_fewestFrom 86 = .ok (.iload 6, 2) := by decide +kernel
theorem dX7_fewestFrom_88 : decode cX7_fewestFrom 88 = .ok (.iload 7, 2) := by decide +kernel
theorem dX7_fewestFrom_90 : decode cX7_fewestFrom 90 = .ok (.invokevirtual 79, 3) := by decide +kernel
theorem dX7_fewestFrom_93 : decode cX7_fewestFrom 93 = .ok (.ifCond .eq 35, 3) := by decide +kernel
theorem dX7_fewestFrom_96 : decode cX7_fewestFrom 96 = .ok (.aload_n 0, 1) := by decide +kernel
theorem dX7_fewestFrom_97 : decode cX7_fewestFrom 97 = .ok (.iload_n 1, 1) := by decide +kernel
theorem dX7_fewestFrom_98 : decode cX7_fewestFrom 98 = .ok (.iconst 1, 1) := by decide +kernel
theorem dX7_fewestFrom_99 : decode cX7_fewestFrom 99 = .ok (.isub, 1) := by decide +kernel
theorem dX7_fewestFrom_100 : decode cX7_fewestFrom 100 = .ok (.aload_n 0, 1) := by decide +kernel
theorem dX7_fewestFrom_101 : decode cX7_fewestFrom 101 = .ok (.iload_n 1, 1) := by decide +kernel
theorem dX7_fewestFrom_102 : decode cX7_fewestFrom 102 = .ok (.iload_n 2, 1) := by decide +kernel
theorem dX7_fewestFrom_103 : decode cX7_fewestFrom 103 = .ok (.iload 8, 2) := by decide +kernel
theorem dX7_fewestFrom_105 : decode cX7_fewestFrom 105 = .ok (.invokevirtual 54, 3) := by decide +kernel
theorem dX7_fewestFrom_108 : decode cX7_fewestFrom 108 = .ok (.invokevirtual 48, 3) := by decide +kernel
theorem dX7_fewestFrom_111 : decode cX7_fewestFrom 111 = .ok (.istore 9, 2) := by decide +kernel
theorem dX7_fewestFrom_113 : decode cX7_fewestFrom 113 = .ok (.iload 5, 2) := by decide +kernel
theorem dX7_fewestFrom_115 : decode cX7_fewestFrom 115 = .ok (.iload 8, 2) := by decide +kernel
theorem dX7_fewestFrom_117 : decode cX7_fewestFrom 117 = .ok (.invokestatic 83, 3) := by decide +kernel
theorem dX7_fewestFrom_120 : decode cX7_fewestFrom 120 = .ok (.iload 9, 2) := by decide +kernel
theorem dX7_fewestFrom_122 : decode cX7_fewestFrom 122 = .ok (.iadd, 1) := by decide +kernel
theorem dX7_fewestFrom_123 : decode cX7_fewestFrom 123 = .ok (.invokestatic 58, 3) := by decide +kernel
theorem dX7_fewestFrom_126 : decode cX7_fewestFrom 126 = .ok (.istore 5, 2) := by decide +kernel
theorem dX7_fewestFrom_128 : decode cX7_fewestFrom 128 = .ok (.iinc 8 1, 3) := by decide +kernel
theorem dX7_fewestFrom_131 : decode cX7_fewestFrom 131 = .ok (.goto (-55), 3) := by decide +kernel
theorem dX7_fewestFrom_134 : decode cX7_fewestFrom 134 = .ok (.iload_n 3, 1) := by decide +kernel
theorem dX7_fewestFrom_135 : decode cX7_fewestFrom 135 = .ok (.sipush 8771, 3) := by decide +kernel
theorem dX7_fewestFrom_138 : decode cX7_fewestFrom 138 = .ok (.if_icmp .ge 12, 3) := by decide +kernel
theorem dX7_fewestFrom_141 : decode cX7_fewestFrom 141 = .ok (.aload_n 0, 1) := by decide +kernel
theorem dX7_fewestFrom_142 : decode cX7_fewestFrom 142 = .ok (.iload_n 3, 1) := by decide +kernel
theorem dX7_fewestFrom_143 : decode cX7_fewestFrom 143 = .ok (.iload 5, 2) := by decide +kernel
theorem dX7_fewestFrom_145 : decode cX7_fewestFrom 145 = .ok (.iconst 1, 1) := by decide +kernel
theorem dX7_fewestFrom_146 : decode cX7_fewestFrom 146 = .ok (.iadd, 1) := by decide +kernel
theorem dX7_fewestFrom_147 : decode cX7_fewestFrom 147 = .ok (.invokevirtual 88, 3) := by decide +kernel
theorem dX7_fewestFrom_150 : decode cX7_fewestFrom 150 = .ok (.iload 5, 2) := by decide +kernel
theorem dX7_fewestFrom_152 : decode cX7_fewestFrom 152 = .ok (.ireturn, 1) := by decide +kernel
set_option maxRecDepth 20000 in
theorem ggX7_leastSet_X7_fewestFrom : GoodIn wsX7_leastSet wsX7_fewestFrom := goodIn_r _ [5, 6, 7, 8, 9, 10, 11, 12, 4, 13, 14, 15, 16, 17, 18, 19, 20, 21, 22, 23, 24, 25, 26, 27, 28, 29, 30, 31, 32, 33, 34, 35, 36, 37, 38, 39, 40, 41, 42, 43, 44, 45, 46, 47, 48, 49, 1, 2, 3, 50, 51, 52, 53, 54, 55, 56, 57] rfl (by decide +kernel)
set_option maxRecDepth 20000 in
theorem gX7_leastSet_X7_fewestFrom : GoodIn wsX7_leastSet (wsV RX7 48 RX7 yX7_fewestFrom wsX7_fewestFrom) := goodIn_app (goodIn_of _ (by decide +kernel)) ggX7_leastSet_X7_fewestFrom
set_option maxRecDepth 20000 in
theorem ggX7_leastSet_X7_lotsThatMust : GoodIn wsX7_leastSet wsX7_lotsThatMust := goodIn_r _ [25, 14, 15, 4, 16] rfl (by decide +kernel)
set_option maxRecDepth 20000 in
theorem gX7_leastSet_X7_lotsThatMust : GoodIn wsX7_leastSet (va_wsS RX7 73 yX7_lotsThatMust wsX7_lotsThatMust) := goodIn_app (goodIn_of _ (by decide +kernel)) ggX7_leastSet_X7_lotsThatMust
set_option maxRecDepth 20000 in
theorem ggX7_leastSet_X7_lotsThatMay : GoodIn wsX7_leastSet wsX7_lotsThatMay := goodIn_r _ [29, 30, 7, 8, 9, 10, 14, 15, 4, 16, 54, 55, 56, 57] rfl (by decide +kernel)
set_option maxRecDepth 20000 in
theorem gX7_leastSet_X7_lotsThatMay : GoodIn wsX7_leastSet (wsV RX7 76 RX7 yX7_lotsThatMay wsX7_lotsThatMay) := goodIn_app (goodIn_of _ (by decide +kernel)) ggX7_leastSet_X7_lotsThatMay
set_option maxRecDepth 20000 in
theorem ggX7_leastSet_X7_allowed : GoodIn wsX7_leastSet wsX7_allowed := goodIn_r _ [34, 35, 36, 37, 38, 39, 40, 41, 42, 54, 55, 56, 57] rfl (by decide +kernel)
set_option maxRecDepth 20000 in
theorem gX7_leastSet_X7_allowed : GoodIn wsX7_leastSet (wsV RX7 79 RX7 yX7_allowed wsX7_allowed) := goodIn_app (goodIn_of _ (by decide +kernel)) ggX7_leastSet_X7_allowed
set_option maxRecDepth 20000 in
theorem ggX7_leastSet_J6_bitCount_0f7a4 : GoodIn wsX7_leastSet wsJ6_bitCount_0f7a4 := goodIn_r _ [39, 40, 41, 42] rfl (by decide +kernel)
set_option maxRecDepth 20000 in
theorem gX7_leastSet_J6_bitCount_0f7a4 : GoodIn wsX7_leastSet (va_wsS RX7 83 yJ6_bitCount_0f7a4 wsJ6_bitCount_0f7a4) := goodIn_app (goodIn_of _ (by decide +kernel)) ggX7_leastSet_J6_bitCount_0f7a4
set_option maxRecDepth 20000 in
theorem ggX7_leastSet_X7_after : GoodIn wsX7_leastSet wsX7_after := goodIn_r _ [46, 30, 7, 8, 9, 10, 47, 48, 49, 14, 15, 4, 16, 54, 55, 56, 57] rfl (by decide +kernel)
set_option maxRecDepth 20000 in
theorem gX7_leastSet_X7_after : GoodIn wsX7_leastSet (wsV RX7 54 RX7 yX7_after wsX7_after) := goodIn_app (goodIn_of _ (by decide +kernel)) ggX7_leastSet_X7_after
theorem dX7_leastSet_0 : decode cX7_leastSet 0 = .ok (.aload_n 0, 1) := by decide +kernel
theorem dX7_leastSet_1 : decode cX7_leastSet 1 = .ok (.iload_n 1, 1) := by decide +kernel
theorem dX7_leastSet_2 : decode cX7_leastSet 2 = .ok (.iload_n 2, 1) := by decide +kernel
theorem dX7_leastSet_3 : decode cX7_leastSet 3 = .ok (.invokevirtual 48, 3) := by decide +kernel
theorem dX7_leastSet_6 : decode cX7_leastSet 6 = .ok (.istore_n 3, 1) := by decide +kernel
theorem dX7_leastSet_7 : decode cX7_leastSet 7 = .ok (.iload_n 3, 1) := by decide +kernel
theorem dX7_leastSet_8 : decode cX7_leastSet 8 = .ok (.bipush 62, 2) := by decide +kernel
theorem dX7_leastSet_10 : decode cX7_leastSet 10 = .ok (.if_icmp .lt 6, 3) := by decide +kernel
theorem dX7_leastSet_13 : decode cX7_leastSet 13 = .ok (.bipush (-9), 2) := by decide +kernel
theorem dX7_leastSet_15 : decode cX7_leastSet 15 = .ok (.ireturn, 1) := by decide +kernel
theorem dX7_leastSet_16 : decode cX7_leastSet 16 = .ok (.iload_n 2, 1) := by decide +kernel
theorem dX7_leastSet_17 : decode cX7_leastSet 17 = .ok (.invokestatic 73, 3) := by decide +kernel
theorem dX7_leastSet_20 : decode cX7_leastSet 20 = .ok (.istore 4, 2) := by decide +kernel
theorem dX7_leastSet_22 : decode cX7_leastSet 22 = .ok (.aload_n 0, 1) := by decide +kernel
theorem dX7_leastSet_23 : decode cX7_leastSet 23 = .ok (.iload_n 1, 1) := by decide +kernel
theorem dX7_leastSet_24 : decode cX7_leastSet 24 = .ok (.iload_n 2, 1) := by decide +kernel
theorem dX7_leastSet_25 : decode cX7_leastSet 25 = .ok (.invokevirtual 76, 3) := by decide +kernel
theorem dX7_leastSet_28 : decode cX7_leastSet 28 = .ok (.istore 5, 2) := by decide +kernel
theorem dX7_leastSet_30 : decode cX7_leastSet 30 = .ok (.iconst 0, 1) := by decide +kernel
theorem dX7_leastSet_31 : decode cX7_leastSet 31 = .ok (.istore 6, 2) := by decide +kernel
theorem dX7_leastSet_33 : decode cX7_leastSet 33 = .ok (.iload 6, 2) := by decide +kernel
theorem dX7_leastSet_35 : decode cX7_leastSet 35 = .ok (.bipush 16, 2) := by decide +kernel
theorem dX7_leastSet_37 : decode cX7_leastSet 37 = .ok (.if_icmp .ge 50, 3) := by decide +kernel
theorem dX7_leastSet_40 : decode cX7_leastSet 40 = .ok (.aload_n 0, 1) := by decide +kernel
theorem dX7_leastSet_41 : decode cX7_leastSet 41 = .ok (.iload 6, 2) := by decide +kernel
theorem dX7_leastSet_43 : decode cX7_leastSet 43 = .ok (.iload 4, 2) := by decide +kernel
theorem dX7_leastSet_45 : decode cX7_leastSet 45 = .ok (.iload 5, 2) := by decide +kernel
theorem dX7_leastSet_47 : decode cX7_leastSet 47 = .ok (.invokevirtual 79, 3) := by decide +kernel
theorem dX7_leastSet_50 : decode cX7_leastSet 50 = .ok (.ifCond .eq 31, 3) := by decide +kernel
theorem dX7_leastSet_53 : decode cX7_leastSet 53 = .ok (.iload 6, 2) := by decide +kernel
theorem dX7_leastSet_55 : decode cX7_leastSet 55 = .ok (.invokestatic 83, 3) := by decide +kernel
theorem dX7_leastSet_58 : decode cX7_leastSet 58 = .ok (.aload_n 0, 1) := by decide +kernel
theorem dX7_leastSet_59 : decode cX7_leastSet 59 = .ok (.iload_n 1, 1) := by decide +kernel
theorem dX7_leastSet_60 : decode cX7_leastSet 60 = .ok (.iconst 1, 1) := by decide +kernel
theorem dX7_leastSet_61 : decode cX7_leastSet 61 = .ok (.isub, 1) := by decide +kernel
theorem dX7_leastSet_62 : decode cX7_leastSet 62 = .ok (.aload_n 0, 1) := by decide +kernel
theorem dX7_leastSet_63 : decode cX7_leastSet 63 = .ok (.iload_n 1, 1) := by decide +kernel
theorem dX7_leastSet_64 : decode cX7_leastSet 64 = .ok (.iload_n 2, 1) := by decide +kernel
theorem dX7_leastSet_65 : decode cX7_leastSet 65 = .ok (.iload 6, 2) := by decide +kernel
theorem dX7_leastSet_67 : decode cX7_leastSet 67 = .ok (.invokevirtual 54, 3) := by decide +kernel
theorem dX7_leastSet_70 : decode cX7_leastSet 70 = .ok (.invokevirtual 48, 3) := by decide +kernel
theorem dX7_leastSet_73 : decode cX7_leastSet 73 = .ok (.iadd, 1) := by decide +kernel
theorem dX7_leastSet_74 : decode cX7_leastSet 74 = .ok (.iload_n 3, 1) := by decide +kernel
theorem dX7_leastSet_75 : decode cX7_leastSet 75 = .ok (.if_icmp .ne 6, 3) := by decide +kernel
theorem dX7_leastSet_78 : decode cX7_leastSet 78 = .ok (.iload 6, 2) := by decide +kernel
theorem dX7_leastSet_80 : decode cX7_leastSet 80 = .ok (.ireturn, 1) := by decide +kernel
theorem dX7_leastSet_81 : decode cX7_leastSet 81 = .ok (.iinc 6 1, 3) := by decide +kernel
theorem dX7_leastSet_84 : decode cX7_leastSet 84 = .ok (.goto (-51), 3) := by decide +kernel
theorem dX7_leastSet_87 : decode cX7_leastSet 87 = .ok (.bipush (-9), 2) := by decide +kernel
theorem dX7_leastSet_89 : decode cX7_leastSet 89 = .ok (.ireturn, 1) := by decide +kernel
set_option maxRecDepth 20000 in
theorem ggX7_allowed_J6_bitCount_0f7a4 : GoodIn wsX7_allowed wsJ6_bitCount_0f7a4 := goodIn_r _ [5, 6, 7, 8] rfl (by decide +kernel)
set_option maxRecDepth 20000 in
theorem gX7_allowed_J6_bitCount_0f7a4 : GoodIn wsX7_allowed (va_wsS RX7 83 yJ6_bitCount_0f7a4 wsJ6_bitCount_0f7a4) := goodIn_app (goodIn_of _ (by decide +kernel)) ggX7_allowed_J6_bitCount_0f7a4
theorem dX7_allowed_0 : decode cX7_allowed 0 = .ok (.iload_n 1, 1) := by decide +kernel
theorem dX7_allowed_1 : decode cX7_allowed 1 = .ok (.iload_n 2, 1) := by decide +kernel
theorem dX7_allowed_2 : decode cX7_allowed 2 = .ok (.iand, 1) := by decide +kernel
theorem dX7_allowed_3 : decode cX7_allowed 3 = .ok (.iload_n 2, 1) := by decide +kernel
theorem dX7_allowed_4 : decode cX7_allowed 4 = .ok (.if_icmp .ne 25, 3) := by decide +kernel
theorem dX7_allowed_7 : decode cX7_allowed 7 = .ok (.iload_n 1, 1) := by decide +kernel
theorem dX7_allowed_8 : decode cX7_allowed 8 = .ok (.iload_n 3, 1) := by decide +kernel
theorem dX7_allowed_9 : decode cX7_allowed 9 = .ok (.iand, 1) := by decide +kernel
theorem dX7_allowed_10 : decode cX7_allowed 10 = .ok (.iload_n 1, 1) := by decide +kernel
theorem dX7_allowed_11 : decode cX7_allowed 11 = .ok (.if_icmp .ne 18, 3) := by decide +kernel
theorem dX7_allowed_14 : decode cX7_allowed 14 = .ok (.iload_n 1, 1) := by decide +kernel
theorem dX7_allowed_15 : decode cX7_allowed 15 = .ok (.invokestatic 83, 3) := by decide +kernel
theorem dX7_allowed_18 : decode cX7_allowed 18 = .ok (.aload_n 0, 1) := by decide +kernel
theorem dX7_allowed_19 : decode cX7_allowed 19 = .ok (.getfield 22, 3) := by decide +kernel
theorem dX7_allowed_22 : decode cX7_allowed 22 = .ok (.if_icmp .gt 7, 3) := by decide +kernel
theorem dX7_allowed_25 : decode cX7_allowed 25 = .ok (.iconst 1, 1) := by decide +kernel
theorem dX7_allowed_26 : decode cX7_allowed 26 = .ok (.goto 4, 3) := by decide +kernel
theorem dX7_allowed_29 : decode cX7_allowed 29 = .ok (.iconst 0, 1) := by decide +kernel
theorem dX7_allowed_30 : decode cX7_allowed 30 = .ok (.ireturn, 1) := by decide +kernel
theorem dX7_lastsStill_0 : decode cX7_lastsStill 0 = .ok (.iload_n 0, 1) := by decide +kernel
theorem dX7_lastsStill_1 : decode cX7_lastsStill 1 = .ok (.iconst 4, 1) := by decide +kernel
theorem dX7_lastsStill_2 : decode cX7_lastsStill 2 = .ok (.iload_n 1, 1) := by decide +kernel
theorem dX7_lastsStill_3 : decode cX7_lastsStill 3 = .ok (.imul, 1) := by decide +kernel
theorem dX7_lastsStill_4 : decode cX7_lastsStill 4 = .ok (.ishr, 1) := by decide +kernel
theorem dX7_lastsStill_5 : decode cX7_lastsStill 5 = .ok (.bipush 15, 2) := by decide +kernel
theorem dX7_lastsStill_7 : decode cX7_lastsStill 7 = .ok (.iand, 1) := by decide +kernel
theorem dX7_lastsStill_8 : decode cX7_lastsStill 8 = .ok (.ireturn, 1) := by decide +kernel
set_option maxRecDepth 20000 in
theorem ggX7_lotsThatMust_X7_lastsStill : GoodIn wsX7_lotsThatMust wsX7_lastsStill := goodIn_r _ [4] rfl (by decide +kernel)
set_option maxRecDepth 20000 in
theorem gX7_lotsThatMust_X7_lastsStill : GoodIn wsX7_lotsThatMust (va_wsS RX7 92 yX7_lastsStill wsX7_lastsStill) := goodIn_app (goodIn_of _ (by decide +kernel)) ggX7_lotsThatMust_X7_lastsStill
theorem dX7_lotsThatMust_0 : decode cX7_lotsThatMust 0 = .ok (.iconst 0, 1) := by decide +kernel
theorem dX7_lotsThatMust_1 : decode cX7_lotsThatMust 1 = .ok (.istore_n 1, 1) := by decide +kernel
theorem dX7_lotsThatMust_2 : decode cX7_lotsThatMust 2 = .ok (.iconst 0, 1) := by decide +kernel
theorem dX7_lotsThatMust_3 : decode cX7_lotsThatMust 3 = .ok (.istore_n 2, 1) := by decide +kernel
theorem dX7_lotsThatMust_4 : decode cX7_lotsThatMust 4 = .ok (.iload_n 2, 1) := by decide +kernel
theorem dX7_lotsThatMust_5 : decode cX7_lotsThatMust 5 = .ok (.iconst 4, 1) := by decide +kernel
theorem dX7_lotsThatMust_6 : decode cX7_lotsThatMust 6 = .ok (.if_icmp .ge 27, 3) := by decide +kernel
theorem dX7_lotsThatMust_9 : decode cX7_lotsThatMust 9 = .ok (.iload_n 1, 1) := by decide +kernel
theorem dX7_lotsThatMust_10 : decode cX7_lotsThatMust 10 = .ok (.iload_n 0, 1) := by decide +kernel
theorem dX7_lotsThatMust_11 : decode cX7_lotsThatMust 11 = .ok (.iload_n 2, 1) := by decide +kernel
theorem dX7_lotsThatMust_12 : decode cX7_lotsThatMust 12 = .ok (.invokestatic 92, 3) := by decide +kernel
theorem dX7_lotsThatMust_15 : decode cX7_lotsThatMust 15 = .ok (.ifCond .ne 7, 3) := by decide +kernel
theorem dX7_lotsThatMust_18 : decode cX7_lotsThatMust 18 = .ok (.iconst 1, 1) := by decide +kernel
theorem dX7_lotsThatMust_19 : decode cX7_lotsThatMust 19 = .ok (.goto 4, 3) := by decide +kernel
theorem dX7_lotsThatMust_22 : decode cX7_lotsThatMust 22 = .ok (.iconst 0, 1) := by decide +kernel
theorem dX7_lotsThatMust_23 : decode cX7_lotsThatMust 23 = .ok (.iload_n 2, 1) := by decide +kernel
theorem dX7_lotsThatMust_24 : decode cX7_lotsThatMust 24 = .ok (.ishl, 1) := by decide +kernel
theorem dX7_lotsThatMust_25 : decode cX7_lotsThatMust 25 = .ok (.ior, 1) := by decide +kernel
theorem dX7_lotsThatMust_26 : decode cX7_lotsThatMust 26 = .ok (.istore_n 1, 1) := by decide +kernel
theorem dX7_lotsThatMust_27 : decode cX7_lotsThatMust 27 = .ok (.iinc 2 1, 3) := by decide +kernel
theorem dX7_lotsThatMust_30 : decode cX7_lotsThatMust 30 = .ok (.goto (-26), 3) := by decide +kernel
theorem dX7_lotsThatMust_33 : decode cX7_lotsThatMust 33 = .ok (.iload_n 1, 1) := by decide +kernel
theorem dX7_lotsThatMust_34 : decode cX7_lotsThatMust 34 = .ok (.ireturn, 1) := by decide +kernel
set_option maxRecDepth 20000 in
theorem ggX7_lotsThatMay_X7_lastsStill : GoodIn wsX7_lotsThatMay wsX7_lastsStill := goodIn_r _ [9] rfl (by decide +kernel)
set_option maxRecDepth 20000 in
theorem gX7_lotsThatMay_X7_lastsStill : GoodIn wsX7_lotsThatMay (va_wsS RX7 92 yX7_lastsStill wsX7_lastsStill) := goodIn_app (goodIn_of _ (by decide +kernel)) ggX7_lotsThatMay_X7_lastsStill
theorem dX7_lotsThatMay_0 : decode cX7_lotsThatMay 0 = .ok (.iconst 0, 1) := by decide +kernel
theorem dX7_lotsThatMay_1 : decode cX7_lotsThatMay 1 = .ok (.istore_n 3, 1) := by decide +kernel
theorem dX7_lotsThatMay_2 : decode cX7_lotsThatMay 2 = .ok (.iconst 0, 1) := by decide +kernel
theorem dX7_lotsThatMay_3 : decode cX7_lotsThatMay 3 = .ok (.istore 4, 2) := by decide +kernel
theorem dX7_lotsThatMay_5 : decode cX7_lotsThatMay 5 = .ok (.iload 4, 2) := by decide +kernel
theorem dX7_lotsThatMay_7 : decode cX7_lotsThatMay 7 = .ok (.iconst 4, 1) := by decide +kernel
theorem dX7_lotsThatMay_8 : decode cX7_lotsThatMay 8 = .ok (.if_icmp .ge 52, 3) := by decide +kernel
theorem dX7_lotsThatMay_11 : decode cX7_lotsThatMay 11 = .ok (.iload_n 2, 1) := by decide +kernel
theorem dX7_lotsThatMay_12 : decode cX7_lotsThatMay 12 = .ok (.iload 4, 2) := by decide +kernel
theorem dX7_lotsThatMay_14 : decode cX7_lotsThatMay 14 = .ok (.invokestatic 92, 3) := by decide +kernel
theorem dX7_lotsThatMay_17 : decode cX7_lotsThatMay 17 = .ok (.iload_n 1, 1) := by decide +kernel
theorem dX7_lotsThatMay_18 : decode cX7_lotsThatMay 18 = .ok (.aload_n 0, 1) := by decide +kernel
theorem dX7_lotsThatMay_19 : decode cX7_lotsThatMay 19 = .ok (.getfield 15, 3) := by decide +kernel
theorem dX7_lotsThatMay_22 : decode cX7_lotsThatMay 22 = .ok (.iload 4, 2) := by decide +kernel
theorem dX7_lotsThatMay_24 : decode cX7_lotsThatMay 24 = .ok (.iaload, 1) := by decide +kernel
theorem dX7_lotsThatMay_25 : decode cX7_lotsThatMay 25 = .ok (.invokestatic 58, 3) := by decide +kernel
theorem dX7_lotsThatMay_28 : decode cX7_lotsThatMay 28 = .ok (.if_icmp .ge 7, 3) := by decide +kernel
theorem dX7_lotsThatMay_31 : decode cX7_lotsThatMay 31 = .ok (.iconst 1, 1) := by decide +kernel
theorem dX7_lotsThatMay_32 : decode cX7_lotsThatMay 32 = .ok (.goto 4, 3) := by decide +kernel
theorem dX7_lotsThatMay_35 : decode cX7_lotsThatMay 35 = .ok (.iconst 0, 1) := by decide +kernel
theorem dX7_lotsThatMay_36 : decode cX7_lotsThatMay 36 = .ok (.istore 5, 2) := by decide +kernel
theorem dX7_lotsThatMay_38 : decode cX7_lotsThatMay 38 = .ok (.iload_n 3, 1) := by decide +kernel
theorem dX7_lotsThatMay_39 : decode cX7_lotsThatMay 39 = .ok (.iload 5, 2) := by decide +kernel
theorem dX7_lotsThatMay_41 : decode cX7_lotsThatMay 41 = .ok (.ifCond .eq 7, 3) := by decide +kernel
theorem dX7_lotsThatMay_44 : decode cX7_lotsThatMay 44 = .ok (.iconst 1, 1) := by decide +kernel
theorem dX7_lotsThatMay_45 : decode cX7_lotsThatMay 45 = .ok (.goto 4, 3) := by decide +kernel
theorem dX7_lotsThatMay_48 : decode cX7_lotsThatMay 48 = .ok (.iconst 0, 1) := by decide +kernel
theorem dX7_lotsThatMay_49 : decode cX7_lotsThatMay 49 = .ok (.iload 4, 2) := by decide +kernel
theorem dX7_lotsThatMay_51 : decode cX7_lotsThatMay 51 = .ok (.ishl, 1) := by decide +kernel
theorem dX7_lotsThatMay_52 : decode cX7_lotsThatMay 52 = .ok (.ior, 1) := by decide +kernel
theorem dX7_lotsThatMay_53 : decode cX7_lotsThatMay 53 = .ok (.istore_n 3, 1) := by decide +kernel
theorem dX7_lotsThatMay_54 : decode cX7_lotsThatMay 54 = .ok (.iinc 4 1, 3) := by decide +kernel
theorem dX7_lotsThatMay_57 : decode cX7_lotsThatMay 57 = .ok (.goto (-52), 3) := by decide +kernel
theorem dX7_lotsThatMay_60 : decode cX7_lotsThatMay 60 = .ok (.iload_n 3, 1) := by decide +kernel
theorem dX7_lotsThatMay_61 : decode cX7_lotsThatMay 61 = .ok (.ireturn, 1) := by decide +kernel
set_option maxRecDepth 20000 in
theorem ggX7_after_X7_lastsStill : GoodIn wsX7_after wsX7_lastsStill := goodIn_r _ [12] rfl (by decide +kernel)
set_option maxRecDepth 20000 in
theorem gX7_after_X7_lastsStill : GoodIn wsX7_after (va_wsS RX7 92 yX7_lastsStill wsX7_lastsStill) := goodIn_app (goodIn_of _ (by decide +kernel)) ggX7_after_X7_lastsStill
theorem dX7_after_0 : decode cX7_after 0 = .ok (.iconst 0, 1) := by decide +kernel
theorem dX7_after_1 : decode cX7_after 1 = .ok (.istore 4, 2) := by decide +kernel
theorem dX7_after_3 : decode cX7_after 3 = .ok (.iconst 0, 1) := by decide +kernel
theorem dX7_after_4 : decode cX7_after 4 = .ok (.istore 5, 2) := by decide +kernel
theorem dX7_after_6 : decode cX7_after 6 = .ok (.iload 5, 2) := by decide +kernel
theorem dX7_after_8 : decode cX7_after 8 = .ok (.iconst 4, 1) := by decide +kernel
theorem dX7_after_9 : decode cX7_after 9 = .ok (.if_icmp .ge 59, 3) := by decide +kernel
theorem dX7_after_12 : decode cX7_after 12 = .ok (.iload_n 3, 1) := by decide +kernel
theorem dX7_after_13 : decode cX7_after 13 = .ok (.iload 5, 2) := by decide +kernel
theorem dX7_after_15 : decode cX7_after 15 = .ok (.ishr, 1) := by decide +kernel
theorem dX7_after_16 : decode cX7_after 16 = .ok (.iconst 1, 1) := by decide +kernel
theorem dX7_after_17 : decode cX7_after 17 = .ok (.iand, 1) := by decide +kernel
theorem dX7_after_18 : decode cX7_after 18 = .ok (.iconst 1, 1) := by decide +kernel
theorem dX7_after_19 : decode cX7_after 19 = .ok (.if_icmp .ne 13, 3) := by decide +kernel
theorem dX7_after_22 : decode cX7_after 22 = .ok (.aload_n 0, 1) := by decide +kernel
theorem dX7_after_23 : decode cX7_after 23 = .ok (.getfield 15, 3) := by decide +kernel
theorem dX7_after_26 : decode cX7_after 26 = .ok (.iload 5, 2) := by decide +kernel
theorem dX7_after_28 : decode cX7_after 28 = .ok (.iaload, 1) := by decide +kernel
theorem dX7_after_29 : decode cX7_after 29 = .ok (.goto 9, 3) := by decide +kernel
theorem dX7_after_32 : decode cX7_after 32 = .ok (.iload_n 2, 1) := by decide +kernel
theorem dX7_after_33 : decode cX7_after 33 = .ok (.iload 5, 2) := by decide +kernel
theorem dX7_after_35 : decode cX7_after 35 = .ok (.invokestatic 92, 3) := by decide +kernel
theorem dX7_after_38 : decode cX7_after 38 = .ok (.istore 6, 2) := by decide +kernel
theorem dX7_after_40 : decode cX7_after 40 = .ok (.iload 4, 2) := by decide +kernel
theorem dX7_after_42 : decode cX7_after 42 = .ok (.iconst 0, 1) := by decide +kernel
theorem dX7_after_43 : decode cX7_after 43 = .ok (.iload_n 1, 1) := by decide +kernel
theorem dX7_after_44 : decode cX7_after 44 = .ok (.iload 6, 2) := by decide +kernel
theorem dX7_after_46 : decode cX7_after 46 = .ok (.invokestatic 58, 3) := by decide +kernel
theorem dX7_after_49 : decode cX7_after 49 = .ok (.iconst 1, 1) := by decide +kernel
theorem dX7_after_50 : decode cX7_after 50 = .ok (.isub, 1) := by decide +kernel
theorem dX7_after_51 : decode cX7_after 51 = .ok (.invokestatic 41, 3) := by decide +kernel
theorem dX7_after_54 : decode cX7_after 54 = .ok (.iconst 4, 1) := by decide +kernel
theorem dX7_after_55 : decode cX7_after 55 = .ok (.iload 5, 2) := by decide +kernel
theorem dX7_after_57 : decode cX7_after 57 = .ok (.imul, 1) := by decide +kernel
theorem dX7_after_58 : decode cX7_after 58 = .ok (.ishl, 1) := by decide +kernel
theorem dX7_after_59 : decode cX7_after 59 = .ok (.ior, 1) := by decide +kernel
theorem dX7_after_60 : decode cX7_after 60 = .ok (.istore 4, 2) := by decide +kernel
theorem dX7_after_62 : decode cX7_after 62 = .ok (.iinc 5 1, 3) := by decide +kernel
theorem dX7_after_65 : decode cX7_after 65 = .ok (.goto (-59), 3) := by decide +kernel
theorem dX7_after_68 : decode cX7_after 68 = .ok (.iload 4, 2) := by decide +kernel
theorem dX7_after_70 : decode cX7_after 70 = .ok (.ireturn, 1) := by decide +kernel
set_option maxRecDepth 20000 in
theorem ggX7_slotOf_X7_lastsStill : GoodIn wsX7_slotOf wsX7_lastsStill := goodIn_r _ [5] rfl (by decide +kernel)
set_option maxRecDepth 20000 in
theorem gX7_slotOf_X7_lastsStill : GoodIn wsX7_slotOf (va_wsS RX7 92 yX7_lastsStill wsX7_lastsStill) := goodIn_app (goodIn_of _ (by decide +kernel)) ggX7_slotOf_X7_lastsStill
theorem dX7_slotOf_0 : decode cX7_slotOf 0 = .ok (.iconst 0, 1) := by decide +kernel
theorem dX7_slotOf_1 : decode cX7_slotOf 1 = .ok (.istore_n 2, 1) := by decide +kernel
theorem dX7_slotOf_2 : decode cX7_slotOf 2 = .ok (.iconst 0, 1) := by decide +kernel
theorem dX7_slotOf_3 : decode cX7_slotOf 3 = .ok (.istore_n 3, 1) := by decide +kernel
theorem dX7_slotOf_4 : decode cX7_slotOf 4 = .ok (.iload_n 3, 1) := by decide +kernel
theorem dX7_slotOf_5 : decode cX7_slotOf 5 = .ok (.iconst 4, 1) := by decide +kernel
theorem dX7_slotOf_6 : decode cX7_slotOf 6 = .ok (.if_icmp .ge 21, 3) := by decide +kernel
theorem dX7_slotOf_9 : decode cX7_slotOf 9 = .ok (.iload_n 2, 1) := by decide +kernel
theorem dX7_slotOf_10 : decode cX7_slotOf 10 = .ok (.iload_n 0, 1) := by decide +kernel
theorem dX7_slotOf_11 : decode cX7_slotOf 11 = .ok (.iconst 1, 1) := by decide +kernel
theorem dX7_slotOf_12 : decode cX7_slotOf 12 = .ok (.iadd, 1) := by decide +kernel
theorem dX7_slotOf_13 : decode cX7_slotOf 13 = .ok (.imul, 1) := by decide +kernel
theorem dX7_slotOf_14 : decode cX7_slotOf 14 = .ok (.iload_n 1, 1) := by decide +kernel
theorem dX7_slotOf_15 : decode cX7_slotOf 15 = .ok (.iload_n 3, 1) := by decide +kernel
theorem dX7_slotOf_16 : decode cX7_slotOf 16 = .ok (.invokestatic 92, 3) := by decide +kernel
theorem dX7_slotOf_19 : decode cX7_slotOf 19 = .ok (.iadd, 1) := by decide +kernel
theorem dX7_slotOf_20 : decode cX7_slotOf 20 = .ok (.istore_n 2, 1) := by decide +kernel
theorem dX7_slotOf_21 : decode cX7_slotOf 21 = .ok (.iinc 3 1, 3) := by decide +kernel
theorem dX7_slotOf_24 : decode cX7_slotOf 24 = .ok (.goto (-20), 3) := by decide +kernel
theorem dX7_slotOf_27 : decode cX7_slotOf 27 = .ok (.getstatic 64, 3) := by decide +kernel
theorem dX7_slotOf_30 : decode cX7_slotOf 30 = .ok (.iload_n 0, 1) := by decide +kernel
theorem dX7_slotOf_31 : decode cX7_slotOf 31 = .ok (.iaload, 1) := by decide +kernel
theorem dX7_slotOf_32 : decode cX7_slotOf 32 = .ok (.iload_n 2, 1) := by decide +kernel
theorem dX7_slotOf_33 : decode cX7_slotOf 33 = .ok (.iadd, 1) := by decide +kernel
theorem dX7_slotOf_34 : decode cX7_slotOf 34 = .ok (.ireturn, 1) := by decide +kernel
theorem dX7_recall_0 : decode cX7_recall 0 = .ok (.aload_n 0, 1) := by decide +kernel
theorem dX7_recall_1 : decode cX7_recall 1 = .ok (.getfield 18, 3) := by decide +kernel
theorem dX7_recall_4 : decode cX7_recall 4 = .ok (.iload_n 1, 1) := by decide +kernel
theorem dX7_recall_5 : decode cX7_recall 5 = .ok (.bipush 10, 2) := by decide +kernel
theorem dX7_recall_7 : decode cX7_recall 7 = .ok (.idiv, 1) := by decide +kernel
theorem dX7_recall_8 : decode cX7_recall 8 = .ok (.laload, 1) := by decide +kernel
theorem dX7_recall_9 : decode cX7_recall 9 = .ok (.bipush 6, 2) := by decide +kernel
theorem dX7_recall_11 : decode cX7_recall 11 = .ok (.iload_n 1, 1) := by decide +kernel
theorem dX7_recall_12 : decode cX7_recall 12 = .ok (.bipush 10, 2) := by decide +kernel
theorem dX7_recall_14 : decode cX7_recall 14 = .ok (.irem, 1) := by decide +kernel
theorem dX7_recall_15 : decode cX7_recall 15 = .ok (.imul, 1) := by decide +kernel
theorem dX7_recall_16 : decode cX7_recall 16 = .ok (.lshr, 1) := by decide +kernel
theorem dX7_recall_17 : decode cX7_recall 17 = .ok (.ldc2_w 95, 3) := by decide +kernel
theorem dX7_recall_20 : decode cX7_recall 20 = .ok (.land, 1) := by decide +kernel
theorem dX7_recall_21 : decode cX7_recall 21 = .ok (.l2i, 1) := by decide +kernel
theorem dX7_recall_22 : decode cX7_recall 22 = .ok (.ireturn, 1) := by decide +kernel
theorem dX7_keep_0 : decode cX7_keep 0 = .ok (.aload_n 0, 1) := by decide +kernel
theorem dX7_keep_1 : decode cX7_keep 1 = .ok (.getfield 18, 3) := by decide +kernel
theorem dX7_keep_4 : decode cX7_keep 4 = .ok (.iload_n 1, 1) := by decide +kernel
theorem dX7_keep_5 : decode cX7_keep 5 = .ok (.bipush 10, 2) := by decide +kernel
theorem dX7_keep_7 : decode cX7_keep 7 = .ok (.idiv, 1) := by decide +kernel
theorem dX7_keep_8 : decode cX7_keep 8 = .ok (.dup2, 1) := by decide +kernel
theorem dX7_keep_9 : decode cX7_keep 9 = .ok (.laload, 1) := by decide +kernel
theorem dX7_keep_10 : decode cX7_keep 10 = .ok (.iload_n 2, 1) := by decide +kernel
theorem dX7_keep_11 : decode cX7_keep 11 = .ok (.i2l, 1) := by decide +kernel
theorem dX7_keep_12 : decode cX7_keep 12 = .ok (.bipush 6, 2) := by decide +kernel
theorem dX7_keep_14 : decode cX7_keep 14 = .ok (.iload_n 1, 1) := by decide +kernel
theorem dX7_keep_15 : decode cX7_keep 15 = .ok (.bipush 10, 2) := by decide +kernel
theorem dX7_keep_17 : decode cX7_keep 17 = .ok (.irem, 1) := by decide +kernel
theorem dX7_keep_18 : decode cX7_keep 18 = .ok (.imul, 1) := by decide +kernel
theorem dX7_keep_19 : decode cX7_keep 19 = .ok (.lshl, 1) := by decide +kernel
theorem dX7_keep_20 : decode cX7_keep 20 = .ok (.lor, 1) := by decide +kernel
theorem dX7_keep_21 : decode cX7_keep 21 = .ok (.lastore, 1) := by decide +kernel
theorem dX7_keep_22 : decode cX7_keep 22 = .ok (.return_, 1) := by decide +kernel
