theorem dX0_init_0 : decode cX0_init 0 = .ok (.aload_n 0, 1) := by decide +kernel
theorem dX0_init_1 : decode cX0_init 1 = .ok (.invokespecial 3, 3) := by decide +kernel
theorem dX0_init_4 : decode cX0_init 4 = .ok (.aload_n 0, 1) := by decide +kernel
theorem dX0_init_5 : decode cX0_init 5 = .ok (.bipush 61, 2) := by decide +kernel
theorem dX0_init_7 : decode cX0_init 7 = .ok (.newarray .long, 2) := by decide +kernel
theorem dX0_init_9 : decode cX0_init 9 = .ok (.putfield 9, 3) := by decide +kernel
theorem dX0_init_12 : decode cX0_init 12 = .ok (.aload_n 0, 1) := by decide +kernel
theorem dX0_init_13 : decode cX0_init 13 = .ok (.bipush 61, 2) := by decide +kernel
theorem dX0_init_15 : decode cX0_init 15 = .ok (.newarray .long, 2) := by decide +kernel
theorem dX0_init_17 : decode cX0_init 17 = .ok (.putfield 15, 3) := by decide +kernel
theorem dX0_init_20 : decode cX0_init 20 = .ok (.return_, 1) := by decide +kernel
set_option maxRecDepth 20000 in
theorem ggX0_isDoubted_X0_choose : GoodIn wsX0_isDoubted wsX0_choose := goodIn_r _ [7] rfl (by decide +kernel)
set_option maxRecDepth 20000 in
theorem gX0_isDoubted_X0_choose : GoodIn wsX0_isDoubted (va_wsS RX0 18 yX0_choose wsX0_choose) := goodIn_app (goodIn_of _ (by decide +kernel)) ggX0_isDoubted_X0_choose
theorem dX0_isDoubted_0 : decode cX0_isDoubted 0 = .ok (.aload_n 0, 1) := by decide +kernel
theorem dX0_isDoubted_1 : decode cX0_isDoubted 1 = .ok (.getfield 9, 3) := by decide +kernel
theorem dX0_isDoubted_4 : decode cX0_isDoubted 4 = .ok (.iload 4, 2) := by decide +kernel
theorem dX0_isDoubted_6 : decode cX0_isDoubted 6 = .ok (.invokestatic 18, 3) := by decide +kernel
theorem dX0_isDoubted_9 : decode cX0_isDoubted 9 = .ok (.aload_n 0, 1) := by decide +kernel
theorem dX0_isDoubted_10 : decode cX0_isDoubted 10 = .ok (.getfield 15, 3) := by decide +kernel
theorem dX0_isDoubted_13 : decode cX0_isDoubted 13 = .ok (.iload_n 1, 1) := by decide +kernel
theorem dX0_isDoubted_14 : decode cX0_isDoubted 14 = .ok (.iload 4, 2) := by decide +kernel
theorem dX0_isDoubted_16 : decode cX0_isDoubted 16 = .ok (.isub, 1) := by decide +kernel
theorem dX0_isDoubted_17 : decode cX0_isDoubted 17 = .ok (.invokestatic 18, 3) := by decide +kernel
theorem dX0_isDoubted_20 : decode cX0_isDoubted 20 = .ok (.lconst 0, 1) := by decide +kernel
theorem dX0_isDoubted_21 : decode cX0_isDoubted 21 = .ok (.lstore 5, 2) := by decide +kernel
theorem dX0_isDoubted_23 : decode cX0_isDoubted 23 = .ok (.lconst 0, 1) := by decide +kernel
theorem dX0_isDoubted_24 : decode cX0_isDoubted 24 = .ok (.lstore 7, 2) := by decide +kernel
theorem dX0_isDoubted_26 : decode cX0_isDoubted 26 = .ok (.lconst 0, 1) := by decide +kernel
theorem dX0_isDoubted_27 : decode cX0_isDoubted 27 = .ok (.lstore 9, 2) := by decide +kernel
theorem dX0_isDoubted_29 : decode cX0_isDoubted 29 = .ok (.iconst 0, 1) := by decide +kernel
theorem dX0_isDoubted_30 : decode cX0_isDoubted 30 = .ok (.istore 11, 2) := by decide +kernel
theorem dX0_isDoubted_32 : decode cX0_isDoubted 32 = .ok (.iload 11, 2) := by decide +kernel
theorem dX0_isDoubted_34 : decode cX0_isDoubted 34 = .ok (.iload_n 2, 1) := by decide +kernel
theorem dX0_isDoubted_35 : decode cX0_isDoubted 35 = .ok (.if_icmp .gt 69, 3) := by decide +kernel
theorem dX0_isDoubted_38 : decode cX0_isDoubted 38 = .ok (.aload_n 0, 1) := by decide +kernel
theorem dX0_isDoubted_39 : decode cX0_isDoubted 39 = .ok (.getfield 9, 3) := by decide +kernel
theorem dX0_isDoubted_42 : decode cX0_isDoubted 42 = .ok (.iload 11, 2) := by decide +kernel
theorem dX0_isDoubted_44 : decode cX0_isDoubted 44 = .ok (.laload, 1) := by decide +kernel
theorem dX0_isDoubted_45 : decode cX0_isDoubted 45 = .ok (.aload_n 0, 1) := by decide +kernel
theorem dX0_isDoubted_46 : decode cX0_isDoubted 46 = .ok (.getfield 15, 3) := by decide +kernel
theorem dX0_isDoubted_49 : decode cX0_isDoubted 49 = .ok (.iload_n 2, 1) := by decide +kernel
theorem dX0_isDoubted_50 : decode cX0_isDoubted 50 = .ok (.iload 11, 2) := by decide +kernel
theorem dX0_isDoubted_52 : decode cX0_isDoubted 52 = .ok (.isub, 1) := by decide +kernel
theorem dX0_isDoubted_53 : decode cX0_isDoubted 53 = .ok (.laload, 1) := by decide +kernel
theorem dX0_isDoubted_54 : decode cX0_isDoubted 54 = .ok (.lmul, 1) := by decide +kernel
theorem dX0_isDoubted_55 : decode cX0_isDoubted 55 = .ok (.lstore 12, 2) := by decide +kernel
theorem dX0_isDoubted_57 : decode cX0_isDoubted 57 = .ok (.lload 5, 2) := by decide +kernel
theorem dX0_isDoubted_59 : decode cX0_isDoubted 59 = .ok (.lload 12, 2) := by decide +kernel
theorem dX0_isDoubted_61 : decode cX0_isDoubted 61 = .ok (.ladd, 1) := by decide +kernel
theorem dX0_isDoubted_62 : decode cX0_isDoubted 62 = .ok (.lstore 5, 2) := by decide +kernel
theorem dX0_isDoubted_64 : decode cX0_isDoubted 64 = .ok (.lload 7, 2) := by decide +kernel
theorem dX0_isDoubted_66 : decode cX0_isDoubted 66 = .ok (.iload 11, 2) := by decide +kernel
theorem dX0_isDoubted_68 : decode cX0_isDoubted 68 = .ok (.iload_n 3, 1) := by decide +kernel
theorem dX0_isDoubted_69 : decode cX0_isDoubted 69 = .ok (.if_icmp .gt 8, 3) := by decide +kernel
theorem dX0_isDoubted_72 : decode cX0_isDoubted 72 = .ok (.lload 12, 2) := by decide +kernel
theorem dX0_isDoubted_74 : decode cX0_isDoubted 74 = .ok (.goto 4, 3) := by decide +kernel
theorem dX0_isDoubted_77 : decode cX0_isDoubted 77 = .ok (.lconst 0, 1) := by decide +kernel
theorem dX0_isDoubted_78 : decode cX0_isDoubted 78 = .ok (.ladd, 1) := by decide +kernel
theorem dX0_isDoubted_79 : decode cX0_isDoubted 79 = .ok (.lstore 7, 2) := by decide +kernel
theorem dX0_isDoubted_81 : decode cX0_isDoubted 81 = .ok (.lload 9, 2) := by decide +kernel
theorem dX0_isDoubted_83 : decode cX0_isDoubted 83 = .ok (.iload 11, 2) := by decide +kernel
theorem dX0_isDoubted_85 : decode cX0_isDoubted 85 = .ok (.iload_n 3, 1) := by decide +kernel
theorem dX0_isDoubted_86 : decode cX0_isDoubted 86 = .ok (.if_icmp .lt 8, 3) := by decide +kernel
theorem dX0_isDoubted_89 : decode cX0_isDoubted 89 = .ok (.lload 12, 2) := by decide +kernel
theorem dX0_isDoubted_91 : decode cX0_isDoubted 91 = .ok (.goto 4, 3) := by decide +kernel
theorem dX0_isDoubted_94 : decode cX0_isDoubted 94 = .ok (.lconst 0, 1) := by decide +kernel
theorem dX0_isDoubted_95 : decode cX0_isDoubted 95 = .ok (.ladd, 1) := by decide +kernel
theorem dX0_isDoubted_96 : decode cX0_isDoubted 96 = .ok (.lstore 9, 2) := by decide +kernel
theorem dX0_isDoubted_98 : decode cX0_isDoubted 98 = .ok (.iinc 11 1, 3) := by decide +kernel
theorem dX0_isDoubted_101 : decode cX0_isDoubted 101 = .ok (.goto (-69), 3) := by decide +kernel
theorem dX0_isDoubted_104 : decode cX0_isDoubted 104 = .ok (.ldc2_w 22, 3) := by decide +kernel
theorem dX0_isDoubted_107 : decode cX0_isDoubted 107 = .ok (.lload 7, 2) := by decide +kernel
theorem dX0_isDoubted_109 : decode cX0_isDoubted 109 = .ok (.lmul, 1) := by decide +kernel
theorem dX0_isDoubted_110 : decode cX0_isDoubted 110 = .ok (.lload 5, 2) := by decide +kernel
theorem dX0_isDoubted_112 : decode cX0_isDoubted 112 = .ok (.lcmp, 1) := by decide +kernel
theorem dX0_isDoubted_113 : decode cX0_isDoubted 113 = .ok (.ifCond .lt 15, 3) := by decide +kernel
theorem dX0_isDoubted_116 : decode cX0_isDoubted 116 = .ok (.ldc2_w 22, 3) := by decide +kernel
theorem dX0_isDoubted_119 : decode cX0_isDoubted 119 = .ok (.lload 9, 2) := by decide +kernel
theorem dX0_isDoubted_121 : decode cX0_isDoubted 121 = .ok (.lmul, 1) := by decide +kernel
theorem dX0_isDoubted_122 : decode cX0_isDoubted 122 = .ok (.lload 5, 2) := by decide +kernel
theorem dX0_isDoubted_124 : decode cX0_isDoubted 124 = .ok (.lcmp, 1) := by decide +kernel
theorem dX0_isDoubted_125 : decode cX0_isDoubted 125 = .ok (.ifCond .ge 7, 3) := by decide +kernel
theorem dX0_isDoubted_128 : decode cX0_isDoubted 128 = .ok (.iconst 1, 1) := by decide +kernel
theorem dX0_isDoubted_129 : decode cX0_isDoubted 129 = .ok (.goto 4, 3) := by decide +kernel
theorem dX0_isDoubted_132 : decode cX0_isDoubted 132 = .ok (.iconst 0, 1) := by decide +kernel
theorem dX0_isDoubted_133 : decode cX0_isDoubted 133 = .ok (.ireturn, 1) := by decide +kernel
set_option maxRecDepth 20000 in
theorem ggX0_leastKept_X0_isDoubted : GoodIn wsX0_leastKept wsX0_isDoubted := goodIn_r _ [5, 6, 7, 8, 9, 10, 4, 11, 12, 13] rfl (by decide +kernel)
set_option maxRecDepth 20000 in
theorem gX0_leastKept_X0_isDoubted : GoodIn wsX0_leastKept (wsV RX0 24 RX0 yX0_isDoubted wsX0_isDoubted) := goodIn_app (goodIn_of _ (by decide +kernel)) ggX0_leastKept_X0_isDoubted
theorem dX0_leastKept_0 : decode cX0_leastKept 0 = .ok (.iload_n 3, 1) := by decide +kernel
theorem dX0_leastKept_1 : decode cX0_leastKept 1 = .ok (.istore 4, 2) := by decide +kernel
theorem dX0_leastKept_3 : decode cX0_leastKept 3 = .ok (.iload 4, 2) := by decide +kernel
theorem dX0_leastKept_5 : decode cX0_leastKept 5 = .ok (.iload_n 1, 1) := by decide +kernel
theorem dX0_leastKept_6 : decode cX0_leastKept 6 = .ok (.iload_n 2, 1) := by decide +kernel
theorem dX0_leastKept_7 : decode cX0_leastKept 7 = .ok (.isub, 1) := by decide +kernel
theorem dX0_leastKept_8 : decode cX0_leastKept 8 = .ok (.iload_n 3, 1) := by decide +kernel
theorem dX0_leastKept_9 : decode cX0_leastKept 9 = .ok (.iadd, 1) := by decide +kernel
theorem dX0_leastKept_10 : decode cX0_leastKept 10 = .ok (.if_icmp .gt 24, 3) := by decide +kernel
theorem dX0_leastKept_13 : decode cX0_leastKept 13 = .ok (.aload_n 0, 1) := by decide +kernel
theorem dX0_leastKept_14 : decode cX0_leastKept 14 = .ok (.iload_n 1, 1) := by decide +kernel
theorem dX0_leastKept_15 : decode cX0_leastKept 15 = .ok (.iload_n 2, 1) := by decide +kernel
theorem dX0_leastKept_16 : decode cX0_leastKept 16 = .ok (.iload_n 3, 1) := by decide +kernel
theorem dX0_leastKept_17 : decode cX0_leastKept 17 = .ok (.iload 4, 2) := by decide +kernel
theorem dX0_leastKept_19 : decode cX0_leastKept 19 = .ok (.invokevirtual 24, 3) := by decide +kernel
theorem dX0_leastKept_22 : decode cX0_leastKept 22 = .ok (.ifCond .ne 6, 3) := by decide +kernel
theorem dX0_leastKept_25 : decode cX0_leastKept 25 = .ok (.iload 4, 2) := by decide +kernel
theorem dX0_leastKept_27 : decode cX0_leastKept 27 = .ok (.ireturn, 1) := by decide +kernel
theorem dX0_leastKept_28 : decode cX0_leastKept 28 = .ok (.iinc 4 1, 3) := by decide +kernel
theorem dX0_leastKept_31 : decode cX0_leastKept 31 = .ok (.goto (-28), 3) := by decide +kernel
theorem dX0_leastKept_34 : decode cX0_leastKept 34 = .ok (.bipush (-9), 2) := by decide +kernel
theorem dX0_leastKept_36 : decode cX0_leastKept 36 = .ok (.ireturn, 1) := by decide +kernel
set_option maxRecDepth 20000 in
theorem ggX0_greatestKept_X0_isDoubted : GoodIn wsX0_greatestKept wsX0_isDoubted := goodIn_r _ [5, 6, 7, 8, 9, 10, 4, 11, 12, 13] rfl (by decide +kernel)
set_option maxRecDepth 20000 in
theorem gX0_greatestKept_X0_isDoubted : GoodIn wsX0_greatestKept (wsV RX0 24 RX0 yX0_isDoubted wsX0_isDoubted) := goodIn_app (goodIn_of _ (by decide +kernel)) ggX0_greatestKept_X0_isDoubted
theorem dX0_greatestKept_0 : decode cX0_greatestKept 0 = .ok (.iload_n 1, 1) := by decide +kernel
theorem dX0_greatestKept_1 : decode cX0_greatestKept 1 = .ok (.iload_n 2, 1) := by decide +kernel
theorem dX0_greatestKept_2 : decode cX0_greatestKept 2 = .ok (.isub, 1) := by decide +kernel
theorem dX0_greatestKept_3 : decode cX0_greatestKept 3 = .ok (.iload_n 3, 1) := by decide +kernel
theorem dX0_greatestKept_4 : decode cX0_greatestKept 4 = .ok (.iadd, 1) := by decide +kernel
theorem dX0_greatestKept_5 : decode cX0_greatestKept 5 = .ok (.istore 4, 2) := by decide +kernel
theorem dX0_greatestKept_7 : decode cX0_greatestKept 7 = .ok (.iload 4, 2) := by decide +kernel
theorem dX0_greatestKept_9 : decode cX0_greatestKept 9 = .ok (.iload_n 3, 1) := by decide +kernel
theorem dX0_greatestKept_10 : decode cX0_greatestKept 10 = .ok (.if_icmp .lt 24, 3) := by decide +kernel
theorem dX0_greatestKept_13 : decode cX0_greatestKept 13 = .ok (.aload_n 0, 1) := by decide +kernel
theorem dX0_greatestKept_14 : decode cX0_greatestKept 14 = .ok (.iload_n 1, 1) := by decide +kernel
theorem dX0_greatestKept_15 : decode cX0_greatestKept 15 = .ok (.iload_n 2, 1) := by decide +kernel
theorem dX0_greatestKept_16 : decode cX0_greatestKept 16 = .ok (.iload_n 3, 1) := by decide +kernel
theorem dX0_greatestKept_17 : decode cX0_greatestKept 17 = .ok (.iload 4, 2) := by decide +kernel
theorem dX0_greatestKept_19 : decode cX0_greatestKept 19 = .ok (.invokevirtual 24, 3) := by decide +kernel
theorem dX0_greatestKept_22 : decode cX0_greatestKept 22 = .ok (.ifCond .ne 6, 3) := by decide +kernel
theorem dX0_greatestKept_25 : decode cX0_greatestKept 25 = .ok (.iload 4, 2) := by decide +kernel
theorem dX0_greatestKept_27 : decode cX0_greatestKept 27 = .ok (.ireturn, 1) := by decide +kernel
theorem dX0_greatestKept_28 : decode cX0_greatestKept 28 = .ok (.iinc 4 (-1), 3) := by decide +kernel
theorem dX0_greatestKept_31 : decode cX0_greatestKept 31 = .ok (.goto (-24), 3) := by decide +kernel
theorem dX0_greatestKept_34 : decode cX0_greatestKept 34 = .ok (.bipush (-9), 2) := by decide +kernel
theorem dX0_greatestKept_36 : decode cX0_greatestKept 36 = .ok (.ireturn, 1) := by decide +kernel
theorem dX0_choose_0 : decode cX0_choose 0 = .ok (.aload_n 0, 1) := by decide +kernel
theorem dX0_choose_1 : decode cX0_choose 1 = .ok (.iconst 0, 1) := by decide +kernel
theorem dX0_choose_2 : decode cX0_choose 2 = .ok (.lconst 1, 1) := by decide +kernel
theorem dX0_choose_3 : decode cX0_choose 3 = .ok (.lastore, 1) := by decide +kernel
theorem dX0_choose_4 : decode cX0_choose 4 = .ok (.iconst 1, 1) := by decide +kernel
theorem dX0_choose_5 : decode cX0_choose 5 = .ok (.istore_n 2, 1) := by decide +kernel
theorem dX0_choose_6 : decode cX0_choose 6 = .ok (.iload_n 2, 1) := by decide +kernel
theorem dX0_choose_7 : decode cX0_choose 7 = .ok (.bipush 60, 2) := by decide +kernel
theorem dX0_choose_9 : decode cX0_choose 9 = .ok (.if_icmp .gt 36, 3) := by decide +kernel
theorem dX0_choose_12 : decode cX0_choose 12 = .ok (.aload_n 0, 1) := by decide +kernel
theorem dX0_choose_13 : decode cX0_choose 13 = .ok (.iload_n 2, 1) := by decide +kernel
theorem dX0_choose_14 : decode cX0_choose 14 = .ok (.iload_n 2, 1) := by decide +kernel
theorem dX0_choose_15 : decode cX0_choose 15 = .ok (.iload_n 1, 1) := by decide +kernel
theorem dX0_choose_16 : decode cX0_choose 16 = .ok (.if_icmp .le 7, 3) := by decide +kernel
theorem dX0_choose_19 : decode cX0_choose 19 = .ok (.lconst 0, 1) := by decide +kernel
theorem dX0_choose_20 : decode cX0_choose 20 = .ok (.goto 18, 3) := by decide +kernel
theorem dX0_choose_23 : decode cX0_choose 23 = .ok (.aload_n 0, 1) := by decide +kernel
theorem dX0_choose_24 : decode cX0_choose 24 = .ok (.iload_n 2, 1) := by decide +kernel
theorem dX0_choose_25 : decode cX0_choose 25 = .ok (.iconst 1, 1) := by decide +kernel
theorem dX0_choose_26 : decode cX0_choose 26 = .ok (.isub, 1) := by decide +kernel
theorem dX0_choose_27 : decode cX0_choose 27 = .ok (.laload, 1) := by decide +kernel
theorem dX0_choose_28 : decode cX0_choose 28 = .ok (.iload_n 1, 1) := by decide +kernel
theorem dX0_choose_29 : decode cX0_choose 29 = .ok (.iload_n 2, 1) := by decide +kernel
theorem dX0_choose_30 : decode cX0_choose 30 = .ok (.isub, 1) := by decide +kernel
theorem dX0_choose_31 : decode cX0_choose 31 = .ok (.iconst 1, 1) := by decide +kernel
theorem dX0_choose_32 : decode cX0_choose 32 = .ok (.iadd, 1) := by decide +kernel
theorem dX0_choose_33 : decode cX0_choose 33 = .ok (.i2l, 1) := by decide +kernel
theorem dX0_choose_34 : decode cX0_choose 34 = .ok (.lmul, 1) := by decide +kernel
theorem dX0_choose_35 : decode cX0_choose 35 = .ok (.iload_n 2, 1) := by decide +kernel
theorem dX0_choose_36 : decode cX0_choose 36 = .ok (.i2l, 1) := by decide +kernel
theorem dX0_choose_37 : decode cX0_choose 37 = .ok (.ldiv, 1) := by decide +kernel
theorem dX0_choose_38 : decode cX0_choose 38 = .ok (.lastore, 1) := by decide +kernel
theorem dX0_choose_39 : decode cX0_choose 39 = .ok (.iinc 2 1, 3) := by decide +kernel
theorem dX0_choose_42 : decode cX0_choose 42 = .ok (.goto (-36), 3) := by decide +kernel
theorem dX0_choose_45 : decode cX0_choose 45 = .ok (.return_, 1) := by decide +kernel
theorem dX1_init_0 : decode cX1_init 0 = .ok (.aload_n 0, 1) := by decide +kernel
theorem dX1_init_1 : decode cX1_init 1 = .ok (.invokespecial 3, 3) := by decide +kernel
theorem dX1_init_4 : decode cX1_init 4 = .ok (.aload_n 0, 1) := by decide +kernel
theorem dX1_init_5 : decode cX1_init 5 = .ok (.bipush 60, 2) := by decide +kernel
theorem dX1_init_7 : decode cX1_init 7 = .ok (.newarray .int, 2) := by decide +kernel
theorem dX1_init_9 : decode cX1_init 9 = .ok (.putfield 9, 3) := by decide +kernel
theorem dX1_init_12 : decode cX1_init 12 = .ok (.aload_n 0, 1) := by decide +kernel
theorem dX1_init_13 : decode cX1_init 13 = .ok (.bipush 60, 2) := by decide +kernel
theorem dX1_init_15 : decode cX1_init 15 = .ok (.newarray .int, 2) := by decide +kernel
theorem dX1_init_17 : decode cX1_init 17 = .ok (.putfield 15, 3) := by decide +kernel
theorem dX1_init_20 : decode cX1_init 20 = .ok (.aload_n 0, 1) := by decide +kernel
theorem dX1_init_21 : decode cX1_init 21 = .ok (.bipush 60, 2) := by decide +kernel
theorem dX1_init_23 : decode cX1_init 23 = .ok (.newarray .int, 2) := by decide +kernel
theorem dX1_init_25 : decode cX1_init 25 = .ok (.putfield 18, 3) := by decide +kernel
theorem dX1_init_28 : decode cX1_init 28 = .ok (.aload_n 0, 1) := by decide +kernel
theorem dX1_init_29 : decode cX1_init 29 = .ok (.iconst 0, 1) := by decide +kernel
theorem dX1_init_30 : decode cX1_init 30 = .ok (.putfield 21, 3) := by decide +kernel
theorem dX1_init_33 : decode cX1_init 33 = .ok (.return_, 1) := by decide +kernel
theorem dX1_add_0 : decode cX1_add 0 = .ok (.aload_n 0, 1) := by decide +kernel
theorem dX1_add_1 : decode cX1_add 1 = .ok (.getfield 9, 3) := by decide +kernel
theorem dX1_add_4 : decode cX1_add 4 = .ok (.aload_n 0, 1) := by decide +kernel
theorem dX1_add_5 : decode cX1_add 5 = .ok (.getfield 21, 3) := by decide +kernel
theorem dX1_add_8 : decode cX1_add 8 = .ok (.iload_n 1, 1) := by decide +kernel
theorem dX1_add_9 : decode cX1_add 9 = .ok (.iastore, 1) := by decide +kernel
theorem dX1_add_10 : decode cX1_add 10 = .ok (.aload_n 0, 1) := by decide +kernel
theorem dX1_add_11 : decode cX1_add 11 = .ok (.getfield 15, 3) := by decide +kernel
theorem dX1_add_14 : decode cX1_add 14 = .ok (.aload_n 0, 1) := by decide +kernel
theorem dX1_add_15 : decode cX1_add 15 = .ok (.getfield 21, 3) := by decide +kernel
theorem dX1_add_18 : decode cX1_add 18 = .ok (.iload_n 2, 1) := by decide +kernel
theorem dX1_add_19 : decode cX1_add 19 = .ok (.iastore, 1) := by decide +kernel
theorem dX1_add_20 : decode cX1_add 20 = .ok (.aload_n 0, 1) := by decide +kernel
theorem dX1_add_21 : decode cX1_add 21 = .ok (.getfield 18, 3) := by decide +kernel
theorem dX1_add_24 : decode cX1_add 24 = .ok (.aload_n 0, 1) := by decide +kernel
theorem dX1_add_25 : decode cX1_add 25 = .ok (.getfield 21, 3) := by decide +kernel
theorem dX1_add_28 : decode cX1_add 28 = .ok (.iload_n 3, 1) := by decide +kernel
theorem dX1_add_29 : decode cX1_add 29 = .ok (.iastore, 1) := by decide +kernel
theorem dX1_add_30 : decode cX1_add 30 = .ok (.aload_n 0, 1) := by decide +kernel
theorem dX1_add_31 : decode cX1_add 31 = .ok (.dup, 1) := by decide +kernel
theorem dX1_add_32 : decode cX1_add 32 = .ok (.getfield 21, 3) := by decide +kernel
theorem dX1_add_35 : decode cX1_add 35 = .ok (.iconst 1, 1) := by decide +kernel
theorem dX1_add_36 : decode cX1_add 36 = .ok (.iadd, 1) := by decide +kernel
theorem dX1_add_37 : decode cX1_add 37 = .ok (.putfield 21, 3) := by decide +kernel
theorem dX1_add_40 : decode cX1_add 40 = .ok (.aload_n 0, 1) := by decide +kernel
theorem dX1_add_41 : decode cX1_add 41 = .ok (.getfield 21, 3) := by decide +kernel
theorem dX1_add_44 : decode cX1_add 44 = .ok (.ireturn, 1) := by decide +kernel
set_option maxRecDepth 20000 in
theorem ggX1_tell_X10_within : GoodIn wsX1_tell wsX10_within := goodIn_r _ [7] rfl (by decide +kernel)
set_option maxRecDepth 20000 in
theorem gX1_tell_X10_within_n25 : GoodIn wsX1_tell (wsX10_within) := ggX1_tell_X10_within
set_option maxRecDepth 20000 in
theorem ggX1_tell_X1_isFirstOfNight : GoodIn wsX1_tell wsX1_isFirstOfNight := goodIn_r _ [12, 2, 3, 13, 14, 15, 16] rfl (by decide +kernel)
set_option maxRecDepth 20000 in
theorem gX1_tell_X1_isFirstOfNight : GoodIn wsX1_tell (wsV RX1 29 RX1 yX1_isFirstOfNight wsX1_isFirstOfNight) := goodIn_app (goodIn_of _ (by decide +kernel)) ggX1_tell_X1_isFirstOfNight
theorem dX1_tell_0 : decode cX1_tell 0 = .ok (.iconst 0, 1) := by decide +kernel
theorem dX1_tell_1 : decode cX1_tell 1 = .ok (.istore 4, 2) := by decide +kernel
theorem dX1_tell_3 : decode cX1_tell 3 = .ok (.iconst 0, 1) := by decide +kernel
theorem dX1_tell_4 : decode cX1_tell 4 = .ok (.istore 5, 2) := by decide +kernel
theorem dX1_tell_6 : decode cX1_tell 6 = .ok (.iconst 0, 1) := by decide +kernel
theorem dX1_tell_7 : decode cX1_tell 7 = .ok (.istore 6, 2) := by decide +kernel
theorem dX1_tell_9 : decode cX1_tell 9 = .ok (.iload 6, 2) := by decide +kernel
theorem dX1_tell_11 : decode cX1_tell 11 = .ok (.aload_n 0, 1) := by decide +kernel
theorem dX1_tell_12 : decode cX1_tell 12 = .ok (.getfield 21, 3) := by decide +kernel
theorem dX1_tell_15 : decode cX1_tell 15 = .ok (.if_icmp .ge 66, 3) := by decide +kernel
theorem dX1_tell_18 : decode cX1_tell 18 = .ok (.aload_n 0, 1) := by decide +kernel
theorem dX1_tell_19 : decode cX1_tell 19 = .ok (.getfield 15, 3) := by decide +kernel
theorem dX1_tell_22 : decode cX1_tell 22 = .ok (.iload 6, 2) := by decide +kernel
theorem dX1_tell_24 : decode cX1_tell 24 = .ok (.iaload, 1) := by decide +kernel
theorem dX1_tell_25 : decode cX1_tell 25 = .ok (.iload_n 1, 1) := by decide +kernel
theorem dX1_tell_26 : decode cX1_tell 26 = .ok (.if_icmp .ne 49, 3) := by decide +kernel
theorem dX1_tell_29 : decode cX1_tell 29 = .ok (.aload_n 0, 1) := by decide +kernel
theorem dX1_tell_30 : decode cX1_tell 30 = .ok (.getfield 9, 3) := by decide +kernel
theorem dX1_tell_33 : decode cX1_tell 33 = .ok (.iload 6, 2) := by decide +kernel
theorem dX1_tell_35 : decode cX1_tell 35 = .ok (.iaload, 1) := by decide +kernel
theorem dX1_tell_36 : decode cX1_tell 36 = .ok (.iload_n 2, 1) := by decide +kernel
theorem dX1_tell_37 : decode cX1_tell 37 = .ok (.iload_n 3, 1) := by decide +kernel
theorem dX1_tell_38 : decode cX1_tell 38 = .ok (.invokestatic 25, 3) := by decide +kernel
theorem dX1_tell_41 : decode cX1_tell 41 = .ok (.ifCond .eq 34, 3) := by decide +kernel
theorem dX1_tell_44 : decode cX1_tell 44 = .ok (.iload 4, 2) := by decide +kernel
theorem dX1_tell_46 : decode cX1_tell 46 = .ok (.aload_n 0, 1) := by decide +kernel
theorem dX1_tell_47 : decode cX1_tell 47 = .ok (.getfield 18, 3) := by decide +kernel
theorem dX1_tell_50 : decode cX1_tell 50 = .ok (.iload 6, 2) := by decide +kernel
theorem dX1_tell_52 : decode cX1_tell 52 = .ok (.iaload, 1) := by decide +kernel
theorem dX1_tell_53 : decode cX1_tell 53 = .ok (.iadd, 1) := by decide +kernel
theorem dX1_tell_54 : decode cX1_tell 54 = .ok (.istore 4, 2) := by decide +kernel
theorem dX1_tell_56 : decode cX1_tell 56 = .ok (.iload 5, 2) := by decide +kernel
theorem dX1_tell_58 : decode cX1_tell 58 = .ok (.aload_n 0, 1) := by decide +kernel
theorem dX1_tell_59 : decode cX1_tell 59 = .ok (.iload 6, 2) := by decide +kernel
theorem dX1_tell_61 : decode cX1_tell 61 = .ok (.invokevirtual 29, 3) := by decide +kernel
theorem dX1_tell_64 : decode cX1_tell 64 = .ok (.ifCond .eq 7, 3) := by decide +kernel
theorem dX1_tell_67 : decode cX1_tell 67 = .ok (.iconst 1, 1) := by decide +kernel
theorem dX1_tell_68 : decode cX1_tell 68 = .ok (.goto 4, 3) := by decide +kernel
theorem dX1_tell_71 : decode cX1_tell 71 = .ok (.iconst 0, 1) := by decide +kernel
theorem dX1_tell_72 : decode cX1_tell 72 = .ok (.iadd, 1) := by decide +kernel
theorem dX1_tell_73 : decode cX1_tell 73 = .ok (.istore 5, 2) := by decide +kernel
theorem dX1_tell_75 : decode cX1_tell 75 = .ok (.iinc 6 1, 3) := by decide +kernel
theorem dX1_tell_78 : decode cX1_tell 78 = .ok (.goto (-69), 3) := by decide +kernel
theorem dX1_tell_81 : decode cX1_tell 81 = .ok (.iload 5, 2) := by decide +kernel
theorem dX1_tell_83 : decode cX1_tell 83 = .ok (.iconst 3, 1) := by decide +kernel
theorem dX1_tell_84 : decode cX1_tell 84 = .ok (.if_icmp .lt 8, 3) := by decide +kernel
theorem dX1_tell_87 : decode cX1_tell 87 = .ok (.iload 4, 2) := by decide +kernel
theorem dX1_tell_89 : decode cX1_tell 89 = .ok (.goto 5, 3) := by decide +kernel
theorem dX1_tell_92 : decode cX1_tell 92 = .ok (.bipush (-9), 2) := by decide +kernel
theorem dX1_tell_94 : decode cX1_tell 94 = .ok (.ireturn, 1) := by decide +kernel
theorem dX1_isFirstOfNight_0 : decode cX1_isFirstOfNight 0 = .ok (.iconst 0, 1) := by decide +kernel
theorem dX1_isFirstOfNight_1 : decode cX1_isFirstOfNight 1 = .ok (.istore_n 2, 1) := by decide +kernel
theorem dX1_isFirstOfNight_2 : decode cX1_isFirstOfNight 2 = .ok (.iload_n 2, 1) := by decide +kernel
theorem dX1_isFirstOfNight_3 : decode cX1_isFirstOfNight 3 = .ok (.iload_n 1, 1) := by decide +kernel
theorem dX1_isFirstOfNight_4 : decode cX1_isFirstOfNight 4 = .ok (.if_icmp .ge 41, 3) := by decide +kernel
theorem dX1_isFirstOfNight_7 : decode cX1_isFirstOfNight 7 = .ok (.aload_n 0, 1) := by decide +kernel
theorem dX1_isFirstOfNight_8 : decode cX1_isFirstOfNight 8 = .ok (.getfield 15, 3) := by decide +kernel
theorem dX1_isFirstOfNight_11 : decode cX1_isFirstOfNight 11 = .ok (.iload_n 2, 1) := by decide +kernel
theorem dX1_isFirstOfNight_12 : decode cX1_isFirstOfNight 12 = .ok (.iaload, 1) := by decide +kernel
theorem dX1_isFirstOfNight_13 : decode cX1_isFirstOfNight 13 = .ok (.aload_n 0, 1) := by decide +kernel
theorem dX1_isFirstOfNight_14 : decode cX1_isFirstOfNight 14 = .ok (.getfield 15, 3) := by decide +kernel
theorem dX1_isFirstOfNight_17 : decode cX1_isFirstOfNight 17 = .ok (.iload_n 1, 1) := by decide +kernel
theorem dX1_isFirstOfNight_18 : decode cX1_isFirstOfNight 18 = .ok (.iaload, 1) := by decide +kernel
theorem dX1_isFirstOfNight_19 : decode cX1_isFirstOfNight 19 = .ok (.if_icmp .ne 20, 3) := by decide +kernel
theorem dX1_isFirstOfNight_22 : decode cX1_isFirstOfNight 22 = .ok (.aload_n 0, 1) := by decide +kernel
theorem dX1_isFirstOfNight_23 : decode cX1_isFirstOfNight 23 = .ok (.getfield 9, 3) := by decide +kernel
theorem dX1_isFirstOfNight_26 : decode cX1_isFirstOfNight 26 = .ok (.iload_n 2, 1) := by decide +kernel
theorem dX1_isFirstOfNight_27 : decode cX1_isFirstOfNight 27 = .ok (.iaload, 1) := by decide +kernel
theorem dX1_isFirstOfNight_28 : decode cX1_isFirstOfNight 28 = .ok (.aload_n 0, 1) := by decide +kernel
theorem dX1_isFirstOfNight_29 : decode cX1_isFirstOfNight 29 = .ok (.getfield 9, 3) := by decide +kernel
theorem dX1_isFirstOfNight_32 : decode cX1_isFirstOfNight 32 = .ok (.iload_n 1, 1) := by decide +kernel
theorem dX1_isFirstOfNight_33 : decode cX1_isFirstOfNight 33 = .ok (.iaload, 1) := by decide +kernel
theorem dX1_isFirstOfNight_34 : decode cX1_isFirstOfNight 34 = .ok (.if_icmp .ne 5, 3) := by decide +kernel
theorem dX1_isFirstOfNight_37 : decode cX1_isFirstOfNight 37 = .ok (.iconst 0, 1) := by decide +kernel
theorem dX1_isFirstOfNight_38 : decode cX1_isFirstOfNight 38 = .ok (.ireturn, 1) := by decide +kernel
theorem dX1_isFirstOfNight_39 : decode cX1_isFirstOfNight 39 = .ok (.iinc 2 1, 3) := by decide +kernel
theorem dX1_isFirstOfNight_42 : decode cX1_isFirstOfNight 42 = .ok (.goto (-40), 3) := by decide +kernel
theorem dX1_isFirstOfNight_45 : decode cX1_isFirstOfNight 45 = .ok (.iconst 1, 1) := by decide +kernel
theorem dX1_isFirstOfNight_46 : decode cX1_isFirstOfNight 46 = .ok (.ireturn, 1) := by decide +kernel
theorem dX3_init_0 : decode cX3_init 0 = .ok (.aload_n 0, 1) := by decide +kernel
theorem dX3_init_1 : decode cX3_init 1 = .ok (.invokespecial 3, 3) := by decide +kernel
theorem dX3_init_4 : decode cX3_init 4 = .ok (.aload_n 0, 1) := by decide +kernel
theorem dX3_init_5 : decode cX3_init 5 = .ok (.bipush 12, 2) := by decide +kernel
theorem dX3_init_7 : decode cX3_init 7 = .ok (.newarray .int, 2) := by decide +kernel
theorem dX3_init_9 : decode cX3_init 9 = .ok (.putfield 9, 3) := by decide +kernel
theorem dX3_init_12 : decode cX3_init 12 = .ok (.aload_n 0, 1) := by decide +kernel
theorem dX3_init_13 : decode cX3_init 13 = .ok (.bipush 12, 2) := by decide +kernel
theorem dX3_init_15 : decode cX3_init 15 = .ok (.newarray .int, 2) := by decide +kernel
theorem dX3_init_17 : decode cX3_init 17 = .ok (.putfield 15, 3) := by decide +kernel
theorem dX3_init_20 : decode cX3_init 20 = .ok (.aload_n 0, 1) := by decide +kernel
theorem dX3_init_21 : decode cX3_init 21 = .ok (.bipush 12, 2) := by decide +kernel
theorem dX3_init_23 : decode cX3_init 23 = .ok (.newarray .int, 2) := by decide +kernel
theorem dX3_init_25 : decode cX3_init 25 = .ok (.putfield 18, 3) := by decide +kernel
theorem dX3_init_28 : decode cX3_init 28 = .ok (.aload_n 0, 1) := by decide +kernel
theorem dX3_init_29 : decode cX3_init 29 = .ok (.bipush 12, 2) := by decide +kernel
theorem dX3_init_31 : decode cX3_init 31 = .ok (.newarray .int, 2) := by decide +kernel
theorem dX3_init_33 : decode cX3_init 33 = .ok (.putfield 21, 3) := by decide +kernel
theorem dX3_init_36 : decode cX3_init 36 = .ok (.aload_n 0, 1) := by decide +kernel
theorem dX3_init_37 : decode cX3_init 37 = .ok (.bipush 12, 2) := by decide +kernel
theorem dX3_init_39 : decode cX3_init 39 = .ok (.newarray .boolean, 2) := by decide +kernel
theorem dX3_init_41 : decode cX3_init 41 = .ok (.putfield 24, 3) := by decide +kernel
theorem dX3_init_44 : decode cX3_init 44 = .ok (.aload_n 0, 1) := by decide +kernel
theorem dX3_init_45 : decode cX3_init 45 = .ok (.iconst 0, 1) := by decide +kernel
theorem dX3_init_46 : decode cX3_init 46 = .ok (.putfield 28, 3) := by decide +kernel
theorem dX3_init_49 : decode cX3_init 49 = .ok (.return_, 1) := by decide +kernel
set_option maxRecDepth 20000 in
theorem ggX3_has_X10_within : GoodIn wsX3_has wsX10_within := goodIn_r _ [4] rfl (by decide +kernel)
set_option maxRecDepth 20000 in
theorem gX3_has_X10_within_n32 : GoodIn wsX3_has (wsX10_within) := ggX3_has_X10_within
theorem dX3_has_0 : decode cX3_has 0 = .ok (.iload_n 1, 1) := by decide +kernel
theorem dX3_has_1 : decode cX3_has 1 = .ok (.iconst 0, 1) := by decide +kernel
theorem dX3_has_2 : decode cX3_has 2 = .ok (.aload_n 0, 1) := by decide +kernel
theorem dX3_has_3 : decode cX3_has 3 = .ok (.getfield 28, 3) := by decide +kernel
theorem dX3_has_6 : decode cX3_has 6 = .ok (.iconst 1, 1) := by decide +kernel
theorem dX3_has_7 : decode cX3_has 7 = .ok (.isub, 1) := by decide +kernel
theorem dX3_has_8 : decode cX3_has 8 = .ok (.invokestatic 32, 3) := by decide +kernel
theorem dX3_has_11 : decode cX3_has 11 = .ok (.ireturn, 1) := by decide +kernel
theorem dX3_add_0 : decode cX3_add 0 = .ok (.aload_n 0, 1) := by decide +kernel
theorem dX3_add_1 : decode cX3_add 1 = .ok (.getfield 9, 3) := by decide +kernel
theorem dX3_add_4 : decode cX3_add 4 = .ok (.aload_n 0, 1) := by decide +kernel
theorem dX3_add_5 : decode cX3_add 5 = .ok (.getfield 28, 3) := by decide +kernel
theorem dX3_add_8 : decode cX3_add 8 = .ok (.iload_n 1, 1) := by decide +kernel
theorem dX3_add_9 : decode cX3_add 9 = .ok (.iastore, 1) := by decide +kernel
theorem dX3_add_10 : decode cX3_add 10 = .ok (.aload_n 0, 1) := by decide +kernel
theorem dX3_add_11 : decode cX3_add 11 = .ok (.getfield 15, 3) := by decide +kernel
theorem dX3_add_14 : decode cX3_add 14 = .ok (.aload_n 0, 1) := by decide +kernel
theorem dX3_add_15 : decode cX3_add 15 = .ok (.getfield 28, 3) := by decide +kernel
theorem dX3_add_18 : decode cX3_add 18 = .ok (.iload_n 2, 1) := by decide +kernel
theorem dX3_add_19 : decode cX3_add 19 = .ok (.iastore, 1) := by decide +kernel
theorem dX3_add_20 : decode cX3_add 20 = .ok (.aload_n 0, 1) := by decide +kernel
theorem dX3_add_21 : decode cX3_add 21 = .ok (.getfield 18, 3) := by decide +kernel
theorem dX3_add_24 : decode cX3_add 24 = .ok (.aload_n 0, 1) := by decide +kernel
theorem dX3_add_25 : decode cX3_add 25 = .ok (.getfield 28, 3) := by decide +kernel
theorem dX3_add_28 : decode cX3_add 28 = .ok (.iload_n 3, 1) := by decide +kernel
theorem dX3_add_29 : decode cX3_add 29 = .ok (.iastore, 1) := by decide +kernel
theorem dX3_add_30 : decode cX3_add 30 = .ok (.aload_n 0, 1) := by decide +kernel
theorem dX3_add_31 : decode cX3_add 31 = .ok (.getfield 21, 3) := by decide +kernel
theorem dX3_add_34 : decode cX3_add 34 = .ok (.aload_n 0, 1) := by decide +kernel
theorem dX3_add_35 : decode cX3_add 35 = .ok (.getfield 28, 3) := by decide +kernel
theorem dX3_add_38 : decode cX3_add 38 = .ok (.iload 4, 2) := by decide +kernel
theorem dX3_add_40 : decode cX3_add 40 = .ok (.iastore, 1) := by decide +kernel
theorem dX3_add_41 : decode cX3_add 41 = .ok (.aload_n 0, 1) := by decide +kernel
theorem dX3_add_42 : decode cX3_add 42 = .ok (.getfield 24, 3) := by decide +kernel
theorem dX3_add_45 : decode cX3_add 45 = .ok (.aload_n 0, 1) := by decide +kernel
theorem dX3_add_46 : decode cX3_add 46 = .ok (.getfield 28, 3) := by decide +kernel
theorem dX3_add_49 : decode cX3_add 49 = .ok (.iconst 1, 1) := by decide +kernel
theorem dX3_add_50 : decode cX3_add 50 = .ok (.bastore, 1) := by decide +kernel
theorem dX3_add_51 : decode cX3_add 51 = .ok (.aload_n 0, 1) := by decide +kernel
theorem dX3_add_52 : decode cX3_add 52 = .ok (.dup, 1) := by decide +kernel
theorem dX3_add_53 : decode cX3_add 53 = .ok (.getfield 28, 3) := by decide +kernel
theorem dX3_add_56 : decode cX3_add 56 = .ok (.iconst 1, 1) := by decide +kernel
theorem dX3_add_57 : decode cX3_add 57 = .ok (.iadd, 1) := by decide +kernel
theorem dX3_add_58 : decode cX3_add 58 = .ok (.putfield 28, 3) := by decide +kernel
theorem dX3_add_61 : decode cX3_add 61 = .ok (.aload_n 0, 1) := by decide +kernel
theorem dX3_add_62 : decode cX3_add 62 = .ok (.getfield 28, 3) := by decide +kernel
theorem dX3_add_65 : decode cX3_add 65 = .ok (.iconst 1, 1) := by decide +kernel
theorem dX3_add_66 : decode cX3_add 66 = .ok (.isub, 1) := by decide +kernel
theorem dX3_add_67 : decode cX3_add 67 = .ok (.ireturn, 1) := by decide +kernel
theorem dX3_stop_0 : decode cX3_stop 0 = .ok (.aload_n 0, 1) := by decide +kernel
theorem dX3_stop_1 : decode cX3_stop 1 = .ok (.getfield 24, 3) := by decide +kernel
theorem dX3_stop_4 : decode cX3_stop 4 = .ok (.iload_n 1, 1) := by decide +kernel
theorem dX3_stop_5 : decode cX3_stop 5 = .ok (.baload, 1) := by decide +kernel
theorem dX3_stop_6 : decode cX3_stop 6 = .ok (.istore_n 2, 1) := by decide +kernel
theorem dX3_stop_7 : decode cX3_stop 7 = .ok (.aload_n 0, 1) := by decide +kernel
theorem dX3_stop_8 : decode cX3_stop 8 = .ok (.getfield 24, 3) := by decide +kernel
theorem dX3_stop_11 : decode cX3_stop 11 = .ok (.iload_n 1, 1) := by decide +kernel
theorem dX3_stop_12 : decode cX3_stop 12 = .ok (.iconst 0, 1) := by decide +kernel
theorem dX3_stop_13 : decode cX3_stop 13 = .ok (.bastore, 1) := by decide +kernel
theorem dX3_stop_14 : decode cX3_stop 14 = .ok (.iload_n 2, 1) := by decide +kernel
theorem dX3_stop_15 : decode cX3_stop 15 = .ok (.ireturn, 1) := by decide +kernel
theorem dX3_counting_0 : decode cX3_counting 0 = .ok (.iconst 0, 1) := by decide +kernel
theorem dX3_counting_1 : decode cX3_counting 1 = .ok (.istore_n 1, 1) := by decide +kernel
theorem dX3_counting_2 : decode cX3_counting 2 = .ok (.iconst 0, 1) := by decide +kernel
theorem dX3_counting_3 : decode cX3_counting 3 = .ok (.istore_n 2, 1) := by decide +kernel
theorem dX3_counting_4 : decode cX3_counting 4 = .ok (.iload_n 2, 1) := by decide +kernel
theorem dX3_counting_5 : decode cX3_counting 5 = .ok (.aload_n 0, 1) := by decide +kernel
theorem dX3_counting_6 : decode cX3_counting 6 = .ok (.getfield 28, 3) := by decide +kernel
theorem dX3_counting_9 : decode cX3_counting 9 = .ok (.if_icmp .ge 26, 3) := by decide +kernel
theorem dX3_counting_12 : decode cX3_counting 12 = .ok (.iload_n 1, 1) := by decide +kernel
theorem dX3_counting_13 : decode cX3_counting 13 = .ok (.aload_n 0, 1) := by decide +kernel
theorem dX3_counting_14 : decode cX3_counting 14 = .ok (.getfield 24, 3) := by decide +kernel
theorem dX3_counting_17 : decode cX3_counting 17 = .ok (.iload_n 2, 1) := by decide +kernel
theorem dX3_counting_18 : decode cX3_counting 18 = .ok (.baload, 1) := by decide +kernel
theorem dX3_counting_19 : decode cX3_counting 19 = .ok (.ifCond .eq 7, 3) := by decide +kernel
theorem dX3_counting_22 : decode cX3_counting 22 = .ok (.iconst 1, 1) := by decide +kernel
theorem dX3_counting_23 : decode cX3_counting 23 = .ok (.goto 4, 3) := by decide +kernel
theorem dX3_counting_26 : decode cX3_counting 26 = .ok (.iconst 0, 1) := by decide +kernel
theorem dX3_counting_27 : decode cX3_counting 27 = .ok (.iadd, 1) := by decide +kernel
theorem dX3_counting_28 : decode cX3_counting 28 = .ok (.istore_n 1, 1) := by decide +kernel
theorem dX3_counting_29 : decode cX3_counting 29 = .ok (.iinc 2 1, 3) := by decide +kernel
theorem dX3_counting_32 : decode cX3_counting 32 = .ok (.goto (-28), 3) := by decide +kernel
theorem dX3_counting_35 : decode cX3_counting 35 = .ok (.iload_n 1, 1) := by decide +kernel
theorem dX3_counting_36 : decode cX3_counting 36 = .ok (.ireturn, 1) := by decide +kernel
theorem dX4_init_0 : decode cX4_init 0 = .ok (.aload_n 0, 1) := by decide +kernel
theorem dX4_init_1 : decode cX4_init 1 = .ok (.invokespecial 3, 3) := by decide +kernel
theorem dX4_init_4 : decode cX4_init 4 = .ok (.aload_n 0, 1) := by decide +kernel
theorem dX4_init_5 : decode cX4_init 5 = .ok (.bipush 6, 2) := by decide +kernel
theorem dX4_init_7 : decode cX4_init 7 = .ok (.newarray .int, 2) := by decide +kernel
theorem dX4_init_9 : decode cX4_init 9 = .ok (.putfield 9, 3) := by decide +kernel
theorem dX4_init_12 : decode cX4_init 12 = .ok (.aload_n 0, 1) := by decide +kernel
theorem dX4_init_13 : decode cX4_init 13 = .ok (.bipush 6, 2) := by decide +kernel
theorem dX4_init_15 : decode cX4_init 15 = .ok (.newarray .int, 2) := by decide +kernel
theorem dX4_init_17 : decode cX4_init 17 = .ok (.putfield 15, 3) := by decide +kernel
theorem dX4_init_20 : decode cX4_init 20 = .ok (.aload_n 0, 1) := by decide +kernel
theorem dX4_init_21 : decode cX4_init 21 = .ok (.iconst 0, 1) := by decide +kernel
theorem dX4_init_22 : decode cX4_init 22 = .ok (.putfield 18, 3) := by decide +kernel
theorem dX4_init_25 : decode cX4_init 25 = .ok (.return_, 1) := by decide +kernel
set_option maxRecDepth 20000 in
theorem ggX4_has_X10_within : GoodIn wsX4_has wsX10_within := goodIn_r _ [4] rfl (by decide +kernel)
set_option maxRecDepth 20000 in
theorem gX4_has_X10_within_n22 : GoodIn wsX4_has (wsX10_within) := ggX4_has_X10_within
theorem dX4_has_0 : decode cX4_has 0 = .ok (.iload_n 1, 1) := by decide +kernel
theorem dX4_has_1 : decode cX4_has 1 = .ok (.iconst 0, 1) := by decide +kernel
theorem dX4_has_2 : decode cX4_has 2 = .ok (.aload_n 0, 1) := by decide +kernel
theorem dX4_has_3 : decode cX4_has 3 = .ok (.getfield 18, 3) := by decide +kernel
theorem dX4_has_6 : decode cX4_has 6 = .ok (.iconst 1, 1) := by decide +kernel
theorem dX4_has_7 : decode cX4_has 7 = .ok (.isub, 1) := by decide +kernel
theorem dX4_has_8 : decode cX4_has 8 = .ok (.invokestatic 22, 3) := by decide +kernel
theorem dX4_has_11 : decode cX4_has 11 = .ok (.ireturn, 1) := by decide +kernel
theorem dX4_add_0 : decode cX4_add 0 = .ok (.aload_n 0, 1) := by decide +kernel
theorem dX4_add_1 : decode cX4_add 1 = .ok (.getfield 9, 3) := by decide +kernel
theorem dX4_add_4 : decode cX4_add 4 = .ok (.aload_n 0, 1) := by decide +kernel
theorem dX4_add_5 : decode cX4_add 5 = .ok (.getfield 18, 3) := by decide +kernel
theorem dX4_add_8 : decode cX4_add 8 = .ok (.iload_n 1, 1) := by decide +kernel
theorem dX4_add_9 : decode cX4_add 9 = .ok (.iastore, 1) := by decide +kernel
theorem dX4_add_10 : decode cX4_add 10 = .ok (.aload_n 0, 1) := by decide +kernel
theorem dX4_add_11 : decode cX4_add 11 = .ok (.getfield 15, 3) := by decide +kernel
theorem dX4_add_14 : decode cX4_add 14 = .ok (.aload_n 0, 1) := by decide +kernel
theorem dX4_add_15 : decode cX4_add 15 = .ok (.getfield 18, 3) := by decide +kernel
theorem dX4_add_18 : decode cX4_add 18 = .ok (.iload_n 2, 1) := by decide +kernel
theorem dX4_add_19 : decode cX4_add 19 = .ok (.iastore, 1) := by decide +kernel
theorem dX4_add_20 : decode cX4_add 20 = .ok (.aload_n 0, 1) := by decide +kernel
theorem dX4_add_21 : decode cX4_add 21 = .ok (.dup, 1) := by decide +kernel
theorem dX4_add_22 : decode cX4_add 22 = .ok (.getfield 18, 3) := by decide +kernel
theorem dX4_add_25 : decode cX4_add 25 = .ok (.iconst 1, 1) := by decide +kernel
theorem dX4_add_26 : decode cX4_add 26 = .ok (.iadd, 1) := by decide +kernel
theorem dX4_add_27 : decode cX4_add 27 = .ok (.putfield 18, 3) := by decide +kernel
theorem dX4_add_30 : decode cX4_add 30 = .ok (.aload_n 0, 1) := by decide +kernel
theorem dX4_add_31 : decode cX4_add 31 = .ok (.getfield 18, 3) := by decide +kernel
theorem dX4_add_34 : decode cX4_add 34 = .ok (.iconst 1, 1) := by decide +kernel
theorem dX4_add_35 : decode cX4_add 35 = .ok (.isub, 1) := by decide +kernel
theorem dX4_add_36 : decode cX4_add 36 = .ok (.ireturn, 1) := by decide +kernel
theorem dX4_mostWithin_0 : decode cX4_mostWithin 0 = .ok (.aload_n 0, 1) := by decide +kernel
theorem dX4_mostWithin_1 : decode cX4_mostWithin 1 = .ok (.getfield 9, 3) := by decide +kernel
theorem dX4_mostWithin_4 : decode cX4_mostWithin 4 = .ok (.iload_n 1, 1) := by decide +kernel
theorem dX4_mostWithin_5 : decode cX4_mostWithin 5 = .ok (.iaload, 1) := by decide +kernel
theorem dX4_mostWithin_6 : decode cX4_mostWithin 6 = .ok (.istore_n 3, 1) := by decide +kernel
theorem dX4_mostWithin_7 : decode cX4_mostWithin 7 = .ok (.iload_n 2, 1) := by decide +kernel
theorem dX4_mostWithin_8 : decode cX4_mostWithin 8 = .ok (.ifCond .lt 8, 3) := by decide +kernel
theorem dX4_mostWithin_11 : decode cX4_mostWithin 11 = .ok (.iload_n 3, 1) := by decide +kernel
theorem dX4_mostWithin_12 : decode cX4_mostWithin 12 = .ok (.iconst 1, 1) := by decide +kernel
theorem dX4_mostWithin_13 : decode cX4_mostWithin 13 = .ok (.if_icmp .ge 7, 3) := by decide +kernel
theorem dX4_mostWithin_16 : decode cX4_mostWithin 16 = .ok (.iconst (-1), 1) := by decide +kernel
theorem dX4_mostWithin_17 : decode cX4_mostWithin 17 = .ok (.goto 6, 3) := by decide +kernel
theorem dX4_mostWithin_20 : decode cX4_mostWithin 20 = .ok (.iload_n 2, 1) := by decide +kernel
theorem dX4_mostWithin_21 : decode cX4_mostWithin 21 = .ok (.iload_n 3, 1) := by decide +kernel
theorem dX4_mostWithin_22 : decode cX4_mostWithin 22 = .ok (.idiv, 1) := by decide +kernel
theorem dX4_mostWithin_23 : decode cX4_mostWithin 23 = .ok (.ireturn, 1) := by decide +kernel
theorem dX4_fewestReaching_0 : decode cX4_fewestReaching 0 = .ok (.aload_n 0, 1) := by decide +kernel
theorem dX4_fewestReaching_1 : decode cX4_fewestReaching 1 = .ok (.getfield 15, 3) := by decide +kernel
theorem dX4_fewestReaching_4 : decode cX4_fewestReaching 4 = .ok (.iload_n 1, 1) := by decide +kernel
theorem dX4_fewestReaching_5 : decode cX4_fewestReaching 5 = .ok (.iaload, 1) := by decide +kernel
theorem dX4_fewestReaching_6 : decode cX4_fewestReaching 6 = .ok (.istore_n 3, 1) := by decide +kernel
theorem dX4_fewestReaching_7 : decode cX4_fewestReaching 7 = .ok (.iload_n 2, 1) := by decide +kernel
theorem dX4_fewestReaching_8 : decode cX4_fewestReaching 8 = .ok (.ifCond .le 8, 3) := by decide +kernel
theorem dX4_fewestReaching_11 : decode cX4_fewestReaching 11 = .ok (.iload_n 3, 1) := by decide +kernel
theorem dX4_fewestReaching_12 : decode cX4_fewestReaching 12 = .ok (.iconst 1, 1) := by decide +kernel
theorem dX4_fewestReaching_13 : decode cX4_fewestReaching 13 = .ok (.if_icmp .ge 7, 3) := by decide +kernel
theorem dX4_fewestReaching_16 : decode cX4_fewestReaching 16 = .ok (.iconst 0, 1) := by decide +kernel
theorem dX4_fewestReaching_17 : decode cX4_fewestReaching 17 = .ok (.goto 10, 3) := by decide +kernel
theorem dX4_fewestReaching_20 : decode cX4_fewestReaching 20 = .ok (.iload_n 2, 1) := by decide +kernel
theorem dX4_fewestReaching_21 : decode cX4_fewestReaching 21 = .ok (.iload_n 3, 1) := by decide +kernel
theorem dX4_fewestReaching_22 : decode cX4_fewestReaching 22 = .ok (.iadd, 1) := by decide +kernel
theorem dX4_fewestReaching_23 : decode cX4_fewestReaching 23 = .ok (.iconst 1, 1) := by decide +kernel
theorem dX4_fewestReaching_24 : decode cX4_fewestReaching 24 = .ok (.isub, 1) := by decide +kernel
theorem dX4_fewestReaching_25 : decode cX4_fewestReaching 25 = .ok (.iload_n 3, 1) := by decide +kernel
theorem dX4_fewestReaching_26 : decode cX4_fewestReaching 26 = .ok (.idiv, 1) := by decide +kernel
theorem dX4_fewestReaching_27 : decode cX4_fewestReaching 27 = .ok (.ireturn, 1) := by decide +kernel
set_option maxRecDepth 20000 in
theorem ggX4_fewestBeside_X4_fewestReaching : GoodIn wsX4_fewestBeside wsX4_fewestReaching := goodIn_r _ [6, 1, 7, 8, 9] rfl (by decide +kernel)
set_option maxRecDepth 20000 in
theorem gX4_fewestBeside_X4_fewestReaching : GoodIn wsX4_fewestBeside (wsV RX4 26 RX4 yX4_fewestReaching wsX4_fewestReaching) := goodIn_app (goodIn_of _ (by decide +kernel)) ggX4_fewestBeside_X4_fewestReaching
theorem dX4_fewestBeside_0 : decode cX4_fewestBeside 0 = .ok (.aload_n 0, 1) := by decide +kernel
theorem dX4_fewestBeside_1 : decode cX4_fewestBeside 1 = .ok (.iload_n 3, 1) := by decide +kernel
theorem dX4_fewestBeside_2 : decode cX4_fewestBeside 2 = .ok (.iload 4, 2) := by decide +kernel
theorem dX4_fewestBeside_4 : decode cX4_fewestBeside 4 = .ok (.iload_n 2, 1) := by decide +kernel
theorem dX4_fewestBeside_5 : decode cX4_fewestBeside 5 = .ok (.aload_n 0, 1) := by decide +kernel
theorem dX4_fewestBeside_6 : decode cX4_fewestBeside 6 = .ok (.getfield 15, 3) := by decide +kernel
theorem dX4_fewestBeside_9 : decode cX4_fewestBeside 9 = .ok (.iload_n 1, 1) := by decide +kernel
theorem dX4_fewestBeside_10 : decode cX4_fewestBeside 10 = .ok (.iaload, 1) := by decide +kernel
theorem dX4_fewestBeside_11 : decode cX4_fewestBeside 11 = .ok (.imul, 1) := by decide +kernel
theorem dX4_fewestBeside_12 : decode cX4_fewestBeside 12 = .ok (.isub, 1) := by decide +kernel
theorem dX4_fewestBeside_13 : decode cX4_fewestBeside 13 = .ok (.invokevirtual 26, 3) := by decide +kernel
theorem dX4_fewestBeside_16 : decode cX4_fewestBeside 16 = .ok (.ireturn, 1) := by decide +kernel
set_option maxRecDepth 20000 in
theorem ggX4_mostBeside_X4_mostWithin : GoodIn wsX4_mostBeside wsX4_mostWithin := goodIn_r _ [10, 1, 11, 12, 13] rfl (by decide +kernel)
set_option maxRecDepth 20000 in
theorem gX4_mostBeside_X4_mostWithin : GoodIn wsX4_mostBeside (wsV RX4 30 RX4 yX4_mostWithin wsX4_mostWithin) := goodIn_app (goodIn_of _ (by decide +kernel)) ggX4_mostBeside_X4_mostWithin
theorem dX4_mostBeside_0 : decode cX4_mostBeside 0 = .ok (.sipush 200, 3) := by decide +kernel
theorem dX4_mostBeside_3 : decode cX4_mostBeside 3 = .ok (.aload_n 0, 1) := by decide +kernel
theorem dX4_mostBeside_4 : decode cX4_mostBeside 4 = .ok (.iload_n 3, 1) := by decide +kernel
theorem dX4_mostBeside_5 : decode cX4_mostBeside 5 = .ok (.iload 4, 2) := by decide +kernel
theorem dX4_mostBeside_7 : decode cX4_mostBeside 7 = .ok (.iload_n 2, 1) := by decide +kernel
theorem dX4_mostBeside_8 : decode cX4_mostBeside 8 = .ok (.aload_n 0, 1) := by decide +kernel
theorem dX4_mostBeside_9 : decode cX4_mostBeside 9 = .ok (.getfield 9, 3) := by decide +kernel
theorem dX4_mostBeside_12 : decode cX4_mostBeside 12 = .ok (.iload_n 1, 1) := by decide +kernel
theorem dX4_mostBeside_13 : decode cX4_mostBeside 13 = .ok (.iaload, 1) := by decide +kernel
theorem dX4_mostBeside_14 : decode cX4_mostBeside 14 = .ok (.imul, 1) := by decide +kernel
theorem dX4_mostBeside_15 : decode cX4_mostBeside 15 = .ok (.isub, 1) := by decide +kernel
theorem dX4_mostBeside_16 : decode cX4_mostBeside 16 = .ok (.invokevirtual 30, 3) := by decide +kernel
theorem dX4_mostBeside_19 : decode cX4_mostBeside 19 = .ok (.invokestatic 33, 3) := by decide +kernel
theorem dX4_mostBeside_22 : decode cX4_mostBeside 22 = .ok (.ireturn, 1) := by decide +kernel
set_option maxRecDepth 20000 in
theorem ggX4_pairsOn_X4_fewestBeside : GoodIn wsX4_pairsOn wsX4_fewestBeside := goodIn_r _ [9, 10, 11, 12, 13, 8, 14, 27, 28, 29] rfl (by decide +kernel)
set_option maxRecDepth 20000 in
theorem gX4_pairsOn_X4_fewestBeside : GoodIn wsX4_pairsOn (wsV RX4 38 RX4 yX4_fewestBeside wsX4_fewestBeside) := goodIn_app (goodIn_of _ (by decide +kernel)) ggX4_pairsOn_X4_fewestBeside
set_option maxRecDepth 20000 in
theorem ggX4_pairsOn_X4_mostBeside : GoodIn wsX4_pairsOn wsX4_mostBeside := goodIn_r _ [18, 19, 20, 21, 3, 22, 23, 24, 25, 8, 26, 27, 28, 29] rfl (by decide +kernel)
set_option maxRecDepth 20000 in
theorem gX4_pairsOn_X4_mostBeside : GoodIn wsX4_pairsOn (wsV RX4 42 RX4 yX4_mostBeside wsX4_mostBeside) := goodIn_app (goodIn_of _ (by decide +kernel)) ggX4_pairsOn_X4_mostBeside
theorem dX4_pairsOn_0 : decode cX4_pairsOn 0 = .ok (.iconst 0, 1) := by decide +kernel
theorem dX4_pairsOn_1 : decode cX4_pairsOn 1 = .ok (.istore 5, 2) := by decide +kernel
theorem dX4_pairsOn_3 : decode cX4_pairsOn 3 = .ok (.iconst 0, 1) := by decide +kernel
theorem dX4_pairsOn_4 : decode cX4_pairsOn 4 = .ok (.istore 6, 2) := by decide +kernel
theorem dX4_pairsOn_6 : decode cX4_pairsOn 6 = .ok (.iload 6, 2) := by decide +kernel
theorem dX4_pairsOn_8 : decode cX4_pairsOn 8 = .ok (.sipush 200, 3) := by decide +kernel
theorem dX4_pairsOn_11 : decode cX4_pairsOn 11 = .ok (.if_icmp .gt 53, 3) := by decide +kernel
theorem dX4_pairsOn_14 : decode cX4_pairsOn 14 = .ok (.aload_n 0, 1) := by decide +kernel
theorem dX4_pairsOn_15 : decode cX4_pairsOn 15 = .ok (.iload_n 1, 1) := by decide +kernel
theorem dX4_pairsOn_16 : decode cX4_pairsOn 16 = .ok (.iload 6, 2) := by decide +kernel
theorem dX4_pairsOn_18 : decode cX4_pairsOn 18 = .ok (.iload_n 2, 1) := by decide +kernel
theorem dX4_pairsOn_19 : decode cX4_pairsOn 19 = .ok (.iload_n 3, 1) := by decide +kernel
theorem dX4_pairsOn_20 : decode cX4_pairsOn 20 = .ok (.iload 4, 2) := by decide +kernel
theorem dX4_pairsOn_22 : decode cX4_pairsOn 22 = .ok (.isub, 1) := by decide +kernel
theorem dX4_pairsOn_23 : decode cX4_pairsOn 23 = .ok (.invokevirtual 38, 3) := by decide +kernel
theorem dX4_pairsOn_26 : decode cX4_pairsOn 26 = .ok (.istore 7, 2) := by decide +kernel
theorem dX4_pairsOn_28 : decode cX4_pairsOn 28 = .ok (.aload_n 0, 1) := by decide +kernel
theorem dX4_pairsOn_29 : decode cX4_pairsOn 29 = .ok (.iload_n 1, 1) := by decide +kernel
theorem dX4_pairsOn_30 : decode cX4_pairsOn 30 = .ok (.iload 6, 2) := by decide +kernel
theorem dX4_pairsOn_32 : decode cX4_pairsOn 32 = .ok (.iload_n 2, 1) := by decide +kernel
theorem dX4_pairsOn_33 : decode cX4_pairsOn 33 = .ok (.iload_n 3, 1) := by decide +kernel
theorem dX4_pairsOn_34 : decode cX4_pairsOn 34 = .ok (.iload 4, 2) := by decide +kernel
theorem dX4_pairsOn_36 : decode cX4_pairsOn 36 = .ok (.iadd, 1) := by decide +kernel
theorem dX4_pairsOn_37 : decode cX4_pairsOn 37 = .ok (.invokevirtual 42, 3) := by decide +kernel
theorem dX4_pairsOn_40 : decode cX4_pairsOn 40 = .ok (.istore 8, 2) := by decide +kernel
theorem dX4_pairsOn_42 : decode cX4_pairsOn 42 = .ok (.iload 5, 2) := by decide +kernel
theorem dX4_pairsOn_44 : decode cX4_pairsOn 44 = .ok (.iconst 0, 1) := by decide +kernel
theorem dX4_pairsOn_45 : decode cX4_pairsOn 45 = .ok (.iload 8, 2) := by decide +kernel
theorem dX4_pairsOn_47 : decode cX4_pairsOn 47 = .ok (.iload 7, 2) := by decide +kernel
theorem dX4_pairsOn_49 : decode cX4_pairsOn 49 = .ok (.isub, 1) := by decide +kernel
theorem dX4_pairsOn_50 : decode cX4_pairsOn 50 = .ok (.iconst 1, 1) := by decide +kernel
theorem dX4_pairsOn_51 : decode cX4_pairsOn 51 = .ok (.iadd, 1) := by decide +kernel
theorem dX4_pairsOn_52 : decode cX4_pairsOn 52 = .ok (.invokestatic 45, 3) := by decide +kernel
theorem dX4_pairsOn_55 : decode cX4_pairsOn 55 = .ok (.iadd, 1) := by decide +kernel
theorem dX4_pairsOn_56 : decode cX4_pairsOn 56 = .ok (.istore 5, 2) := by decide +kernel
theorem dX4_pairsOn_58 : decode cX4_pairsOn 58 = .ok (.iinc 6 1, 3) := by decide +kernel
theorem dX4_pairsOn_61 : decode cX4_pairsOn 61 = .ok (.goto (-55), 3) := by decide +kernel
theorem dX4_pairsOn_64 : decode cX4_pairsOn 64 = .ok (.iload 5, 2) := by decide +kernel
theorem dX4_pairsOn_66 : decode cX4_pairsOn 66 = .ok (.ireturn, 1) := by decide +kernel
set_option maxRecDepth 20000 in
theorem ggX4_pairAt_X4_fewestBeside : GoodIn wsX4_pairAt wsX4_fewestBeside := goodIn_r _ [9, 10, 11, 12, 13, 8, 14, 27, 28, 29] rfl (by decide +kernel)
set_option maxRecDepth 20000 in
theorem gX4_pairAt_X4_fewestBeside : GoodIn wsX4_pairAt (wsV RX4 38 RX4 yX4_fewestBeside wsX4_fewestBeside) := goodIn_app (goodIn_of _ (by decide +kernel)) ggX4_pairAt_X4_fewestBeside
set_option maxRecDepth 20000 in
theorem ggX4_pairAt_X4_mostBeside : GoodIn wsX4_pairAt wsX4_mostBeside := goodIn_r _ [18, 19, 20, 21, 3, 22, 23, 24, 25, 8, 26, 27, 28, 29] rfl (by decide +kernel)
set_option maxRecDepth 20000 in
theorem gX4_pairAt_X4_mostBeside : GoodIn wsX4_pairAt (wsV RX4 42 RX4 yX4_mostBeside wsX4_mostBeside) := goodIn_app (goodIn_of _ (by decide +kernel)) ggX4_pairAt_X4_mostBeside
theorem dX4_pairAt_0 : decode cX4_pairAt 0 = .ok (.iload 5, 2) := by decide +kernel
theorem dX4_pairAt_2 : decode cX4_pairAt 2 = .ok (.ifCond .ge 6, 3) := by decide +kernel
theorem dX4_pairAt_5 : decode cX4_pairAt 5 = .ok (.bipush (-9), 2) := by decide +kernel
theorem dX4_pairAt_7 : decode cX4_pairAt 7 = .ok (.ireturn, 1) := by decide +kernel
theorem dX4_pairAt_8 : decode cX4_pairAt 8 = .ok (.iload 5, 2) := by decide +kernel
theorem dX4_pairAt_10 : decode cX4_pairAt 10 = .ok (.istore 6, 2) := by decide +kernel
theorem dX4_pairAt_12 : decode cX4_pairAt 12 = .ok (.iconst 0, 1) := by decide +kernel
theorem dX4_pairAt_13 : decode cX4_pairAt 13 = .ok (.istore 7, 2) := by decide +kernel
theorem dX4_pairAt_15 : decode cX4_pairAt 15 = .ok (.iload 7, 2) := by decide +kernel
theorem dX4_pairAt_17 : decode cX4_pairAt 17 = .ok (.sipush 200, 3) := by decide +kernel
theorem dX4_pairAt_20 : decode cX4_pairAt 20 = .ok (.if_icmp .gt 77, 3) := by decide +kernel
theorem dX4_pairAt_23 : decode cX4_pairAt 23 = .ok (.aload_n 0, 1) := by decide +kernel
theorem dX4_pairAt_24 : decode cX4_pairAt 24 = .ok (.iload_n 1, 1) := by decide +kernel
theorem dX4_pairAt_25 : decode cX4_pairAt 25 = .ok (.iload 7, 2) := by decide +kernel
theorem dX4_pairAt_27 : decode cX4_pairAt 27 = .ok (.iload_n 2, 1) := by decide +kernel
theorem dX4_pairAt_28 : decode cX4_pairAt 28 = .ok (.iload_n 3, 1) := by decide +kernel
theorem dX4_pairAt_29 : decode cX4_pairAt 29 = .ok (.iload 4, 2) := by decide +kernel
theorem dX4_pairAt_31 : decode cX4_pairAt 31 = .ok (.isub, 1) := by decide +kernel
theorem dX4_pairAt_32 : decode cX4_pairAt 32 = .ok (.invokevirtual 38, 3) := by decide +kernel
theorem dX4_pairAt_35 : decode cX4_pairAt 35 = .ok (.istore 8, 2) := by decide +kernel
theorem dX4_pairAt_37 : decode cX4_pairAt 37 = .ok (.aload_n 0, 1) := by decide +kernel
theorem dX4_pairAt_38 : decode cX4_pairAt 38 = .ok (.iload_n 1, 1) := by decide +kernel
theorem dX4_pairAt_39 : decode cX4_pairAt 39 = .ok (.iload 7, 2) := by decide +kernel
theorem dX4_pairAt_41 : decode cX4_pairAt 41 = .ok (.iload_n 2, 1) := by decide +kernel
theorem dX4_pairAt_42 : decode cX4_pairAt 42 = .ok (.iload_n 3, 1) := by decide +kernel
theorem dX4_pairAt_43 : decode cX4_pairAt 43 = .ok (.iload 4, 2) := by decide +kernel
theorem dX4_pairAt_45 : decode cX4_pairAt 45 = .ok (.iadd, 1) := by decide +kernel
theorem dX4_pairAt_46 : decode cX4_pairAt 46 = .ok (.invokevirtual 42, 3) := by decide +kernel
theorem dX4_pairAt_49 : decode cX4_pairAt 49 = .ok (.istore 9, 2) := by decide +kernel
theorem dX4_pairAt_51 : decode cX4_pairAt 51 = .ok (.iconst 0, 1) := by decide +kernel
theorem dX4_pairAt_52 : decode cX4_pairAt 52 = .ok (.iload 9, 2) := by decide +kernel
theorem dX4_pairAt_54 : decode cX4_pairAt 54 = .ok (.iload 8, 2) := by decide +kernel
theorem dX4_pairAt_56 : decode cX4_pairAt 56 = .ok (.isub, 1) := by decide +kernel
theorem dX4_pairAt_57 : decode cX4_pairAt 57 = .ok (.iconst 1, 1) := by decide +kernel
theorem dX4_pairAt_58 : decode cX4_pairAt 58 = .ok (.iadd, 1) := by decide +kernel
theorem dX4_pairAt_59 : decode cX4_pairAt 59 = .ok (.invokestatic 45, 3) := by decide +kernel
theorem dX4_pairAt_62 : decode cX4_pairAt 62 = .ok (.istore 10, 2) := by decide +kernel
theorem dX4_pairAt_64 : decode cX4_pairAt 64 = .ok (.iload 6, 2) := by decide +kernel
theorem dX4_pairAt_66 : decode cX4_pairAt 66 = .ok (.iload 10, 2) := by decide +kernel
theorem dX4_pairAt_68 : decode cX4_pairAt 68 = .ok (.if_icmp .ge 16, 3) := by decide +kernel
theorem dX4_pairAt_71 : decode cX4_pairAt 71 = .ok (.sipush 1000, 3) := by decide +kernel
theorem dX4_pairAt_74 : decode cX4_pairAt 74 = .ok (.iload 7, 2) := by decide +kernel
theorem dX4_pairAt_76 : decode cX4_pairAt 76 = .ok (.imul, 1) := by decide +kernel
theorem dX4_pairAt_77 : decode cX4_pairAt 77 = .ok (.iload 8, 2) := by decide +kernel
theorem dX4_pairAt_79 : decode cX4_pairAt 79 = .ok (.iadd, 1) := by decide +kernel
theorem dX4_pairAt_80 : decode cX4_pairAt 80 = .ok (.iload 6, 2) := by decide +kernel
theorem dX4_pairAt_82 : decode cX4_pairAt 82 = .ok (.iadd, 1) := by decide +kernel
theorem dX4_pairAt_83 : decode cX4_pairAt 83 = .ok (.ireturn, 1) := by decide +kernel
theorem dX4_pairAt_84 : decode cX4_pairAt 84 = .ok (.iload 6, 2) := by decide +kernel
theorem dX4_pairAt_86 : decode cX4_pairAt 86 = .ok (.iload 10, 2) := by decide +kernel
theorem dX4_pairAt_88 : decode cX4_pairAt 88 = .ok (.isub, 1) := by decide +kernel
theorem dX4_pairAt_89 : decode cX4_pairAt 89 = .ok (.istore 6, 2) := by decide +kernel
theorem dX4_pairAt_91 : decode cX4_pairAt 91 = .ok (.iinc 7 1, 3) := by decide +kernel
theorem dX4_pairAt_94 : decode cX4_pairAt 94 = .ok (.goto (-79), 3) := by decide +kernel
theorem dX4_pairAt_97 : decode cX4_pairAt 97 = .ok (.bipush (-9), 2) := by decide +kernel
theorem dX4_pairAt_99 : decode cX4_pairAt 99 = .ok (.ireturn, 1) := by decide +kernel
theorem dX5_init_0 : decode cX5_init 0 = .ok (.aload_n 0, 1) := by decide +kernel
theorem dX5_init_1 : decode cX5_init 1 = .ok (.invokespecial 3, 3) := by decide +kernel
theorem dX5_init_4 : decode cX5_init 4 = .ok (.aload_n 0, 1) := by decide +kernel
theorem dX5_init_5 : decode cX5_init 5 = .ok (.bipush 48, 2) := by decide +kernel
theorem dX5_init_7 : decode cX5_init 7 = .ok (.newarray .int, 2) := by decide +kernel
theorem dX5_init_9 : decode cX5_init 9 = .ok (.putfield 11, 3) := by decide +kernel
theorem dX5_init_12 : decode cX5_init 12 = .ok (.aload_n 0, 1) := by decide +kernel
theorem dX5_init_13 : decode cX5_init 13 = .ok (.bipush 16, 2) := by decide +kernel
theorem dX5_init_15 : decode cX5_init 15 = .ok (.newarray .int, 2) := by decide +kernel
theorem dX5_init_17 : decode cX5_init 17 = .ok (.putfield 15, 3) := by decide +kernel
theorem dX5_init_20 : decode cX5_init 20 = .ok (.aload_n 0, 1) := by decide +kernel
theorem dX5_init_21 : decode cX5_init 21 = .ok (.iconst 0, 1) := by decide +kernel
theorem dX5_init_22 : decode cX5_init 22 = .ok (.putfield 18, 3) := by decide +kernel
theorem dX5_init_25 : decode cX5_init 25 = .ok (.aload_n 0, 1) := by decide +kernel
theorem dX5_init_26 : decode cX5_init 26 = .ok (.iconst 0, 1) := by decide +kernel
theorem dX5_init_27 : decode cX5_init 27 = .ok (.putfield 22, 3) := by decide +kernel
theorem dX5_init_30 : decode cX5_init 30 = .ok (.return_, 1) := by decide +kernel
theorem dX5_add_0 : decode cX5_add 0 = .ok (.iload_n 1, 1) := by decide +kernel
theorem dX5_add_1 : decode cX5_add 1 = .ok (.ifCond .eq 17, 3) := by decide +kernel
theorem dX5_add_4 : decode cX5_add 4 = .ok (.aload_n 0, 1) := by decide +kernel
theorem dX5_add_5 : decode cX5_add 5 = .ok (.dup, 1) := by decide +kernel
theorem dX5_add_6 : decode cX5_add 6 = .ok (.getfield 22, 3) := by decide +kernel
theorem dX5_add_9 : decode cX5_add 9 = .ok (.dup_x1, 1) := by decide +kernel
theorem dX5_add_10 : decode cX5_add 10 = .ok (.iconst 1, 1) := by decide +kernel
theorem dX5_add_11 : decode cX5_add 11 = .ok (.iadd, 1) := by decide +kernel
theorem dX5_add_12 : decode cX5_add 12 = .ok (.putfield 22, 3) := by decide +kernel
theorem dX5_add_15 : decode cX5_add 15 = .ok (.goto 14, 3) := by decide +kernel
theorem dX5_add_18 : decode cX5_add 18 = .ok (.aload_n 0, 1) := by decide +kernel
theorem dX5_add_19 : decode cX5_add 19 = .ok (.dup, 1) := by decide +kernel
theorem dX5_add_20 : decode cX5_add 20 = .ok (.getfield 18, 3) := by decide +kernel
theorem dX5_add_23 : decode cX5_add 23 = .ok (.dup_x1, 1) := by decide +kernel
theorem dX5_add_24 : decode cX5_add 24 = .ok (.iconst 1, 1) := by decide +kernel
theorem dX5_add_25 : decode cX5_add 25 = .ok (.iadd, 1) := by decide +kernel
theorem dX5_add_26 : decode cX5_add 26 = .ok (.putfield 18, 3) := by decide +kernel
theorem dX5_add_29 : decode cX5_add 29 = .ok (.istore 6, 2) := by decide +kernel
theorem dX5_add_31 : decode cX5_add 31 = .ok (.iload_n 1, 1) := by decide +kernel
theorem dX5_add_32 : decode cX5_add 32 = .ok (.ifCond .eq 11, 3) := by decide +kernel
theorem dX5_add_35 : decode cX5_add 35 = .ok (.bipush 8, 2) := by decide +kernel
theorem dX5_add_37 : decode cX5_add 37 = .ok (.iload 6, 2) := by decide +kernel
theorem dX5_add_39 : decode cX5_add 39 = .ok (.iadd, 1) := by decide +kernel
theorem dX5_add_40 : decode cX5_add 40 = .ok (.goto 5, 3) := by decide +kernel
theorem dX5_add_43 : decode cX5_add 43 = .ok (.iload 6, 2) := by decide +kernel
theorem dX5_add_45 : decode cX5_add 45 = .ok (.istore 7, 2) := by decide +kernel
theorem dX5_add_47 : decode cX5_add 47 = .ok (.aload_n 0, 1) := by decide +kernel
theorem dX5_add_48 : decode cX5_add 48 = .ok (.getfield 11, 3) := by decide +kernel
theorem dX5_add_51 : decode cX5_add 51 = .ok (.iload 7, 2) := by decide +kernel
theorem dX5_add_53 : decode cX5_add 53 = .ok (.iconst 3, 1) := by decide +kernel
theorem dX5_add_54 : decode cX5_add 54 = .ok (.imul, 1) := by decide +kernel
theorem dX5_add_55 : decode cX5_add 55 = .ok (.iload_n 2, 1) := by decide +kernel
theorem dX5_add_56 : decode cX5_add 56 = .ok (.iastore, 1) := by decide +kernel
theorem dX5_add_57 : decode cX5_add 57 = .ok (.aload_n 0, 1) := by decide +kernel
theorem dX5_add_58 : decode cX5_add 58 = .ok (.getfield 11, 3) := by decide +kernel
theorem dX5_add_61 : decode cX5_add 61 = .ok (.iload 7, 2) := by decide +kernel
theorem dX5_add_63 : decode cX5_add 63 = .ok (.iconst 3, 1) := by decide +kernel
theorem dX5_add_64 : decode cX5_add 64 = .ok (.imul, 1) := by decide +kernel
theorem dX5_add_65 : decode cX5_add 65 = .ok (.iconst 1, 1) := by decide +kernel
theorem dX5_add_66 : decode cX5_add 66 = .ok (.iadd, 1) := by decide +kernel
theorem dX5_add_67 : decode cX5_add 67 = .ok (.iload_n 3, 1) := by decide +kernel
theorem dX5_add_68 : decode cX5_add 68 = .ok (.iastore, 1) := by decide +kernel
theorem dX5_add_69 : decode cX5_add 69 = .ok (.aload_n 0, 1) := by decide +kernel
theorem dX5_add_70 : decode cX5_add 70 = .ok (.getfield 11, 3) := by decide +kernel
theorem dX5_add_73 : decode cX5_add 73 = .ok (.iload 7, 2) := by decide +kernel
theorem dX5_add_75 : decode cX5_add 75 = .ok (.iconst 3, 1) := by decide +kernel
theorem dX5_add_76 : decode cX5_add 76 = .ok (.imul, 1) := by decide +kernel
theorem dX5_add_77 : decode cX5_add 77 = .ok (.iconst 2, 1) := by decide +kernel
theorem dX5_add_78 : decode cX5_add 78 = .ok (.iadd, 1) := by decide +kernel
theorem dX5_add_79 : decode cX5_add 79 = .ok (.iload 4, 2) := by decide +kernel
theorem dX5_add_81 : decode cX5_add 81 = .ok (.iastore, 1) := by decide +kernel
theorem dX5_add_82 : decode cX5_add 82 = .ok (.aload_n 0, 1) := by decide +kernel
theorem dX5_add_83 : decode cX5_add 83 = .ok (.getfield 15, 3) := by decide +kernel
theorem dX5_add_86 : decode cX5_add 86 = .ok (.iload 7, 2) := by decide +kernel
theorem dX5_add_88 : decode cX5_add 88 = .ok (.iload 5, 2) := by decide +kernel
theorem dX5_add_90 : decode cX5_add 90 = .ok (.iastore, 1) := by decide +kernel
theorem dX5_add_91 : decode cX5_add 91 = .ok (.iload 6, 2) := by decide +kernel
theorem dX5_add_93 : decode cX5_add 93 = .ok (.ireturn, 1) := by decide +kernel
theorem dX5_takeAway_0 : decode cX5_takeAway 0 = .ok (.aload_n 0, 1) := by decide +kernel
theorem dX5_takeAway_1 : decode cX5_takeAway 1 = .ok (.getfield 18, 3) := by decide +kernel
theorem dX5_takeAway_4 : decode cX5_takeAway 4 = .ok (.aload_n 0, 1) := by decide +kernel
theorem dX5_takeAway_5 : decode cX5_takeAway 5 = .ok (.getfield 22, 3) := by decide +kernel
theorem dX5_takeAway_8 : decode cX5_takeAway 8 = .ok (.iadd, 1) := by decide +kernel
theorem dX5_takeAway_9 : decode cX5_takeAway 9 = .ok (.istore_n 1, 1) := by decide +kernel
theorem dX5_takeAway_10 : decode cX5_takeAway 10 = .ok (.aload_n 0, 1) := by decide +kernel
theorem dX5_takeAway_11 : decode cX5_takeAway 11 = .ok (.iconst 0, 1) := by decide +kernel
theorem dX5_takeAway_12 : decode cX5_takeAway 12 = .ok (.putfield 18, 3) := by decide +kernel
theorem dX5_takeAway_15 : decode cX5_takeAway 15 = .ok (.aload_n 0, 1) := by decide +kernel
theorem dX5_takeAway_16 : decode cX5_takeAway 16 = .ok (.iconst 0, 1) := by decide +kernel
theorem dX5_takeAway_17 : decode cX5_takeAway 17 = .ok (.putfield 22, 3) := by decide +kernel
theorem dX5_takeAway_20 : decode cX5_takeAway 20 = .ok (.iload_n 1, 1) := by decide +kernel
theorem dX5_takeAway_21 : decode cX5_takeAway 21 = .ok (.ireturn, 1) := by decide +kernel
theorem dX5_price_0 : decode cX5_price 0 = .ok (.aload_n 0, 1) := by decide +kernel
theorem dX5_price_1 : decode cX5_price 1 = .ok (.getfield 15, 3) := by decide +kernel
theorem dX5_price_4 : decode cX5_price 4 = .ok (.iload_n 1, 1) := by decide +kernel
theorem dX5_price_5 : decode cX5_price 5 = .ok (.iaload, 1) := by decide +kernel
theorem dX5_price_6 : decode cX5_price 6 = .ok (.aload_n 0, 1) := by decide +kernel
theorem dX5_price_7 : decode cX5_price 7 = .ok (.getfield 15, 3) := by decide +kernel
theorem dX5_price_10 : decode cX5_price 10 = .ok (.bipush 8, 2) := by decide +kernel
theorem dX5_price_12 : decode cX5_price 12 = .ok (.iload_n 2, 1) := by decide +kernel
theorem dX5_price_13 : decode cX5_price 13 = .ok (.iadd, 1) := by decide +kernel
theorem dX5_price_14 : decode cX5_price 14 = .ok (.iaload, 1) := by decide +kernel
theorem dX5_price_15 : decode cX5_price 15 = .ok (.isub, 1) := by decide +kernel
theorem dX5_price_16 : decode cX5_price 16 = .ok (.invokestatic 25, 3) := by decide +kernel
theorem dX5_price_19 : decode cX5_price 19 = .ok (.istore_n 3, 1) := by decide +kernel
theorem dX5_price_20 : decode cX5_price 20 = .ok (.iload_n 3, 1) := by decide +kernel
theorem dX5_price_21 : decode cX5_price 21 = .ok (.bipush 20, 2) := by decide +kernel
theorem dX5_price_23 : decode cX5_price 23 = .ok (.if_icmp .le 6, 3) := by decide +kernel
theorem dX5_price_26 : decode cX5_price 26 = .ok (.bipush (-9), 2) := by decide +kernel
theorem dX5_price_28 : decode cX5_price 28 = .ok (.ireturn, 1) := by decide +kernel
theorem dX5_price_29 : decode cX5_price 29 = .ok (.iload_n 3, 1) := by decide +kernel
theorem dX5_price_30 : decode cX5_price 30 = .ok (.istore 4, 2) := by decide +kernel
theorem dX5_price_32 : decode cX5_price 32 = .ok (.iconst 0, 1) := by decide +kernel
theorem dX5_price_33 : decode cX5_price 33 = .ok (.istore 5, 2) := by decide +kernel
theorem dX5_price_35 : decode cX5_price 35 = .ok (.iload 5, 2) := by decide +kernel
theorem dX5_price_37 : decode cX5_price 37 = .ok (.iconst 3, 1) := by decide +kernel
theorem dX5_price_38 : decode cX5_price 38 = .ok (.if_icmp .ge 68, 3) := by decide +kernel
theorem dX5_price_41 : decode cX5_price 41 = .ok (.aload_n 0, 1) := by decide +kernel
theorem dX5_price_42 : decode cX5_price 42 = .ok (.getfield 11, 3) := by decide +kernel
theorem dX5_price_45 : decode cX5_price 45 = .ok (.iload_n 1, 1) := by decide +kernel
theorem dX5_price_46 : decode cX5_price 46 = .ok (.iconst 3, 1) := by decide +kernel
theorem dX5_price_47 : decode cX5_price 47 = .ok (.imul, 1) := by decide +kernel
theorem dX5_price_48 : decode cX5_price 48 = .ok (.iload 5, 2) := by decide +kernel
theorem dX5_price_50 : decode cX5_price 50 = .ok (.iadd, 1) := by decide +kernel
theorem dX5_price_51 : decode cX5_price 51 = .ok (.iaload, 1) := by decide +kernel
theorem dX5_price_52 : decode cX5_price 52 = .ok (.istore 6, 2) := by decide +kernel
theorem dX5_price_54 : decode cX5_price 54 = .ok (.aload_n 0, 1) := by decide +kernel
theorem dX5_price_55 : decode cX5_price 55 = .ok (.getfield 11, 3) := by decide +kernel
theorem dX5_price_58 : decode cX5_price 58 = .ok (.bipush 8, 2) := by decide +kernel
theorem dX5_price_60 : decode cX5_price 60 = .ok (.iload_n 2, 1) := by decide +kernel
theorem dX5_price_61 : decode cX5_price 61 = .ok (.iadd, 1) := by decide +kernel
theorem dX5_price_62 : decode cX5_price 62 = .ok (.iconst 3, 1) := by decide +kernel
theorem dX5_price_63 : decode cX5_price 63 = .ok (.imul, 1) := by decide +kernel
theorem dX5_price_64 : decode cX5_price 64 = .ok (.iload 5, 2) := by decide +kernel
theorem dX5_price_66 : decode cX5_price 66 = .ok (.iadd, 1) := by decide +kernel
theorem dX5_price_67 : decode cX5_price 67 = .ok (.iaload, 1) := by decide +kernel
theorem dX5_price_68 : decode cX5_price 68 = .ok (.istore 7, 2) := by decide +kernel
theorem dX5_price_70 : decode cX5_price 70 = .ok (.iload 6, 2) := by decide +kernel
theorem dX5_price_72 : decode cX5_price 72 = .ok (.bipush (-9), 2) := by decide +kernel
theorem dX5_price_74 : decode cX5_price 74 = .ok (.if_icmp .eq 10, 3) := by decide +kernel
theorem dX5_price_77 : decode cX5_price 77 = .ok (.iload 7, 2) := by decide +kernel
theorem dX5_price_79 : decode cX5_price 79 = .ok (.bipush (-9), 2) := by decide +kernel
theorem dX5_price_81 : decode cX5_price 81 = .ok (.if_icmp .ne 9, 3) := by decide +kernel
theorem dX5_price_84 : decode cX5_price 84 = .ok (.iinc 4 10, 3) := by decide +kernel
theorem dX5_price_87 : decode cX5_price 87 = .ok (.goto 13, 3) := by decide +kernel
theorem dX5_price_90 : decode cX5_price 90 = .ok (.iload 6, 2) := by decide +kernel
theorem dX5_price_92 : decode cX5_price 92 = .ok (.iload 7, 2) := by decide +kernel
theorem dX5_price_94 : decode cX5_price 94 = .ok (.if_icmp .eq 6, 3) := by decide +kernel
theorem dX5_price_97 : decode cX5_price 97 = .ok (.bipush (-9), 2) := by decide +kernel
theorem dX5_price_99 : decode cX5_price 99 = .ok (.ireturn, 1) := by decide +kernel
theorem dX5_price_100 : decode cX5_price 100 = .ok (.iinc 5 1, 3) := by decide +kernel
theorem dX5_price_103 : decode cX5_price 103 = .ok (.goto (-68), 3) := by decide +kernel
theorem dX5_price_106 : decode cX5_price 106 = .ok (.iload 4, 2) := by decide +kernel
theorem dX5_price_108 : decode cX5_price 108 = .ok (.ireturn, 1) := by decide +kernel
theorem dX6_init_0 : decode cX6_init 0 = .ok (.aload_n 0, 1) := by decide +kernel
theorem dX6_init_1 : decode cX6_init 1 = .ok (.invokespecial 3, 3) := by decide +kernel
theorem dX6_init_4 : decode cX6_init 4 = .ok (.aload_n 0, 1) := by decide +kernel
theorem dX6_init_5 : decode cX6_init 5 = .ok (.sipush 256, 3) := by decide +kernel
theorem dX6_init_8 : decode cX6_init 8 = .ok (.newarray .long, 2) := by decide +kernel
theorem dX6_init_10 : decode cX6_init 10 = .ok (.putfield 9, 3) := by decide +kernel
theorem dX6_init_13 : decode cX6_init 13 = .ok (.aload_n 0, 1) := by decide +kernel
theorem dX6_init_14 : decode cX6_init 14 = .ok (.bipush 8, 2) := by decide +kernel
theorem dX6_init_16 : decode cX6_init 16 = .ok (.newarray .long, 2) := by decide +kernel
theorem dX6_init_18 : decode cX6_init 18 = .ok (.putfield 15, 3) := by decide +kernel
theorem dX6_init_21 : decode cX6_init 21 = .ok (.return_, 1) := by decide +kernel
set_option maxRecDepth 20000 in
theorem ggX6_mostPairs_X6_bestOf : GoodIn wsX6_mostPairs wsX6_bestOf := goodIn_r _ [5, 6, 7, 8, 9, 4, 10, 11, 12, 13, 14, 15, 16, 17, 18, 19, 20, 21, 22, 23, 24, 25, 26, 27, 28, 29, 30, 31, 32, 33, 34, 39, 40, 41, 42, 43, 44] rfl (by decide +kernel)
set_option maxRecDepth 20000 in
theorem gX6_mostPairs_X6_bestOf : GoodIn wsX6_mostPairs (wsV RX6 18 RX6 yX6_bestOf wsX6_bestOf) := goodIn_app (goodIn_of _ (by decide +kernel)) ggX6_mostPairs_X6_bestOf
set_option maxRecDepth 20000 in
theorem ggX6_mostPairs_X6_pairsIn : GoodIn wsX6_mostPairs wsX6_pairsIn := goodIn_r _ [37, 20, 38] rfl (by decide +kernel)
set_option maxRecDepth 20000 in
theorem gX6_mostPairs_X6_pairsIn : GoodIn wsX6_mostPairs (va_wsS RX6 22 yX6_pairsIn wsX6_pairsIn) := goodIn_app (goodIn_of _ (by decide +kernel)) ggX6_mostPairs_X6_pairsIn
theorem dX6_mostPairs_0 : decode cX6_mostPairs 0 = .ok (.aload_n 0, 1) := by decide +kernel
theorem dX6_mostPairs_1 : decode cX6_mostPairs 1 = .ok (.aload_n 1, 1) := by decide +kernel
theorem dX6_mostPairs_2 : decode cX6_mostPairs 2 = .ok (.invokevirtual 18, 3) := by decide +kernel
theorem dX6_mostPairs_5 : decode cX6_mostPairs 5 = .ok (.invokestatic 22, 3) := by decide +kernel
theorem dX6_mostPairs_8 : decode cX6_mostPairs 8 = .ok (.ireturn, 1) := by decide +kernel
set_option maxRecDepth 20000 in
theorem ggX6_bestPrice_X6_bestOf : GoodIn wsX6_bestPrice wsX6_bestOf := goodIn_r _ [6, 7, 8, 9, 10, 5, 11, 12, 13, 14, 15, 16, 17, 18, 19, 20, 1, 21, 22, 23, 24, 25, 26, 27, 28, 29, 30, 31, 32, 33, 34, 39, 40, 41, 42, 43, 44] rfl (by decide +kernel)
set_option maxRecDepth 20000 in
theorem gX6_bestPrice_X6_bestOf : GoodIn wsX6_bestPrice (wsV RX6 18 RX6 yX6_bestOf wsX6_bestOf) := goodIn_app (goodIn_of _ (by decide +kernel)) ggX6_bestPrice_X6_bestOf
set_option maxRecDepth 20000 in
theorem ggX6_bestPrice_X6_pairsIn : GoodIn wsX6_bestPrice wsX6_pairsIn := goodIn_r _ [37, 1, 38] rfl (by decide +kernel)
set_option maxRecDepth 20000 in
theorem gX6_bestPrice_X6_pairsIn : GoodIn wsX6_bestPrice (va_wsS RX6 22 yX6_pairsIn wsX6_pairsIn) := goodIn_app (goodIn_of _ (by decide +kernel)) ggX6_bestPrice_X6_pairsIn
theorem dX6_bestPrice_0 : decode cX6_bestPrice 0 = .ok (.aload_n 0, 1) := by decide +kernel
theorem dX6_bestPrice_1 : decode cX6_bestPrice 1 = .ok (.aload_n 1, 1) := by decide +kernel
theorem dX6_bestPrice_2 : decode cX6_bestPrice 2 = .ok (.invokevirtual 18, 3) := by decide +kernel
theorem dX6_bestPrice_5 : decode cX6_bestPrice 5 = .ok (.lstore_n 2, 1) := by decide +kernel
theorem dX6_bestPrice_6 : decode cX6_bestPrice 6 = .ok (.sipush 1000, 3) := by decide +kernel
theorem dX6_bestPrice_9 : decode cX6_bestPrice 9 = .ok (.lload_n 2, 1) := by decide +kernel
theorem dX6_bestPrice_10 : decode cX6_bestPrice 10 = .ok (.invokestatic 22, 3) := by decide +kernel
theorem dX6_bestPrice_13 : decode cX6_bestPrice 13 = .ok (.imul, 1) := by decide +kernel
theorem dX6_bestPrice_14 : decode cX6_bestPrice 14 = .ok (.lload_n 2, 1) := by decide +kernel
theorem dX6_bestPrice_15 : decode cX6_bestPrice 15 = .ok (.ldc2_w 26, 3) := by decide +kernel
theorem dX6_bestPrice_18 : decode cX6_bestPrice 18 = .ok (.ldiv, 1) := by decide +kernel
theorem dX6_bestPrice_19 : decode cX6_bestPrice 19 = .ok (.l2i, 1) := by decide +kernel
theorem dX6_bestPrice_20 : decode cX6_bestPrice 20 = .ok (.isub, 1) := by decide +kernel
theorem dX6_bestPrice_21 : decode cX6_bestPrice 21 = .ok (.ireturn, 1) := by decide +kernel
set_option maxRecDepth 20000 in
theorem ggX6_findOf_X6_bestOf : GoodIn wsX6_findOf wsX6_bestOf := goodIn_r _ [11, 12, 13, 14, 15, 10, 16, 17, 18, 19, 20, 21, 22, 23, 24, 25, 1, 2, 26, 27, 5, 28, 29, 30, 31, 32, 33, 34, 35, 36, 37, 38, 39, 40, 41, 42, 43] rfl (by decide +kernel)
set_option maxRecDepth 20000 in
theorem gX6_findOf_X6_bestOf : GoodIn wsX6_findOf (wsV RX6 18 RX6 yX6_bestOf wsX6_bestOf) := goodIn_app (goodIn_of _ (by decide +kernel)) ggX6_findOf_X6_bestOf
theorem dX6_findOf_0 : decode cX6_findOf 0 = .ok (.aload_n 0, 1) := by decide +kernel
theorem dX6_findOf_1 : decode cX6_findOf 1 = .ok (.aload_n 1, 1) := by decide +kernel
theorem dX6_findOf_2 : decode cX6_findOf 2 = .ok (.invokevirtual 18, 3) := by decide +kernel
theorem dX6_findOf_5 : decode cX6_findOf 5 = .ok (.ldc2_w 26, 3) := by decide +kernel
theorem dX6_findOf_8 : decode cX6_findOf 8 = .ok (.lrem, 1) := by decide +kernel
theorem dX6_findOf_9 : decode cX6_findOf 9 = .ok (.l2i, 1) := by decide +kernel
theorem dX6_findOf_10 : decode cX6_findOf 10 = .ok (.iconst 1, 1) := by decide +kernel
theorem dX6_findOf_11 : decode cX6_findOf 11 = .ok (.getstatic 28, 3) := by decide +kernel
theorem dX6_findOf_14 : decode cX6_findOf 14 = .ok (.iload_n 2, 1) := by decide +kernel
theorem dX6_findOf_15 : decode cX6_findOf 15 = .ok (.iaload, 1) := by decide +kernel
theorem dX6_findOf_16 : decode cX6_findOf 16 = .ok (.invokestatic 32, 3) := by decide +kernel
theorem dX6_findOf_19 : decode cX6_findOf 19 = .ok (.idiv, 1) := by decide +kernel
theorem dX6_findOf_20 : decode cX6_findOf 20 = .ok (.bipush 9, 2) := by decide +kernel
theorem dX6_findOf_22 : decode cX6_findOf 22 = .ok (.irem, 1) := by decide +kernel
theorem dX6_findOf_23 : decode cX6_findOf 23 = .ok (.istore_n 3, 1) := by decide +kernel
theorem dX6_findOf_24 : decode cX6_findOf 24 = .ok (.iload_n 3, 1) := by decide +kernel
theorem dX6_findOf_25 : decode cX6_findOf 25 = .ok (.ifCond .ne 8, 3) := by decide +kernel
theorem dX6_findOf_28 : decode cX6_findOf 28 = .ok (.bipush (-9), 2) := by decide +kernel
theorem dX6_findOf_30 : decode cX6_findOf 30 = .ok (.goto 7, 3) := by decide +kernel
theorem dX6_findOf_33 : decode cX6_findOf 33 = .ok (.bipush 8, 2) := by decide +kernel
theorem dX6_findOf_35 : decode cX6_findOf 35 = .ok (.iload_n 3, 1) := by decide +kernel
theorem dX6_findOf_36 : decode cX6_findOf 36 = .ok (.isub, 1) := by decide +kernel
theorem dX6_findOf_37 : decode cX6_findOf 37 = .ok (.ireturn, 1) := by decide +kernel
set_option maxRecDepth 20000 in
theorem ggX6_choicesOf_X6_pairAllBut : GoodIn wsX6_choicesOf wsX6_pairAllBut := goodIn_r _ [9, 1, 10, 11, 12, 13, 14, 15, 16, 8, 17, 18, 2, 19, 20, 21, 22, 23, 24, 25, 26, 27, 28, 29, 30, 31, 32, 37, 38, 33, 34, 35, 36] rfl (by decide +kernel)
set_option maxRecDepth 20000 in
theorem gX6_choicesOf_X6_pairAllBut : GoodIn wsX6_choicesOf (wsV RX6 38 RX6 yX6_pairAllBut wsX6_pairAllBut) := goodIn_app (goodIn_of _ (by decide +kernel)) ggX6_choicesOf_X6_pairAllBut
set_option maxRecDepth 20000 in
theorem ggX6_choicesOf_X5_price : GoodIn wsX6_choicesOf wsX5_price := goodIn_r _ [27, 28, 29, 30, 22, 31, 32, 33, 34, 35, 36] rfl (by decide +kernel)
set_option maxRecDepth 20000 in
theorem gX6_choicesOf_X5_price_n48 : GoodIn wsX6_choicesOf (wsX5_price) := ggX6_choicesOf_X5_price
theorem dX6_choicesOf_0 : decode cX6_choicesOf 0 = .ok (.aload_n 0, 1) := by decide +kernel
theorem dX6_choicesOf_1 : decode cX6_choicesOf 1 = .ok (.aload_n 1, 1) := by decide +kernel
theorem dX6_choicesOf_2 : decode cX6_choicesOf 2 = .ok (.iload_n 2, 1) := by decide +kernel
theorem dX6_choicesOf_3 : decode cX6_choicesOf 3 = .ok (.invokevirtual 38, 3) := by decide +kernel
theorem dX6_choicesOf_6 : decode cX6_choicesOf 6 = .ok (.iconst 1, 1) := by decide +kernel
theorem dX6_choicesOf_7 : decode cX6_choicesOf 7 = .ok (.aload_n 1, 1) := by decide +kernel
theorem dX6_choicesOf_8 : decode cX6_choicesOf 8 = .ok (.getfield 42, 3) := by decide +kernel
theorem dX6_choicesOf_11 : decode cX6_choicesOf 11 = .ok (.ishl, 1) := by decide +kernel
theorem dX6_choicesOf_12 : decode cX6_choicesOf 12 = .ok (.iconst 1, 1) := by decide +kernel
theorem dX6_choicesOf_13 : decode cX6_choicesOf 13 = .ok (.isub, 1) := by decide +kernel
theorem dX6_choicesOf_14 : decode cX6_choicesOf 14 = .ok (.istore_n 3, 1) := by decide +kernel
theorem dX6_choicesOf_15 : decode cX6_choicesOf 15 = .ok (.aload_n 0, 1) := by decide +kernel
theorem dX6_choicesOf_16 : decode cX6_choicesOf 16 = .ok (.getfield 9, 3) := by decide +kernel
theorem dX6_choicesOf_19 : decode cX6_choicesOf 19 = .ok (.iload_n 3, 1) := by decide +kernel
theorem dX6_choicesOf_20 : decode cX6_choicesOf 20 = .ok (.laload, 1) := by decide +kernel
theorem dX6_choicesOf_21 : decode cX6_choicesOf 21 = .ok (.ldc2_w 26, 3) := by decide +kernel
theorem dX6_choicesOf_24 : decode cX6_choicesOf 24 = .ok (.ldiv, 1) := by decide +kernel
theorem dX6_choicesOf_25 : decode cX6_choicesOf 25 = .ok (.lstore 4, 2) := by decide +kernel
theorem dX6_choicesOf_27 : decode cX6_choicesOf 27 = .ok (.iconst 1, 1) := by decide +kernel
theorem dX6_choicesOf_28 : decode cX6_choicesOf 28 = .ok (.istore 6, 2) := by decide +kernel
theorem dX6_choicesOf_30 : decode cX6_choicesOf 30 = .ok (.iconst 0, 1) := by decide +kernel
theorem dX6_choicesOf_31 : decode cX6_choicesOf 31 = .ok (.istore 7, 2) := by decide +kernel
theorem dX6_choicesOf_33 : decode cX6_choicesOf 33 = .ok (.iload 7, 2) := by decide +kernel
theorem dX6_choicesOf_35 : decode cX6_choicesOf 35 = .ok (.aload_n 1, 1) := by decide +kernel
theorem dX6_choicesOf_36 : decode cX6_choicesOf 36 = .ok (.getfield 42, 3) := by decide +kernel
theorem dX6_choicesOf_39 : decode cX6_choicesOf 39 = .ok (.if_icmp .ge 85, 3) := by decide +kernel
theorem dX6_choicesOf_42 : decode cX6_choicesOf 42 = .ok (.aload_n 1, 1) := by decide +kernel
theorem dX6_choicesOf_43 : decode cX6_choicesOf 43 = .ok (.iload_n 2, 1) := by decide +kernel
theorem dX6_choicesOf_44 : decode cX6_choicesOf 44 = .ok (.iload 7, 2) := by decide +kernel
theorem dX6_choicesOf_46 : decode cX6_choicesOf 46 = .ok (.invokevirtual 48, 3) := by decide +kernel
theorem dX6_choicesOf_49 : decode cX6_choicesOf 49 = .ok (.istore 8, 2) := by decide +kernel
theorem dX6_choicesOf_51 : decode cX6_choicesOf 51 = .ok (.iload 8, 2) := by decide +kernel
theorem dX6_choicesOf_53 : decode cX6_choicesOf 53 = .ok (.bipush (-9), 2) := by decide +kernel
theorem dX6_choicesOf_55 : decode cX6_choicesOf 55 = .ok (.if_icmp .ne 9, 3) := by decide +kernel
theorem dX6_choicesOf_58 : decode cX6_choicesOf 58 = .ok (.ldc2_w 51, 3) := by decide +kernel
theorem dX6_choicesOf_61 : decode cX6_choicesOf 61 = .ok (.goto 26, 3) := by decide +kernel
theorem dX6_choicesOf_64 : decode cX6_choicesOf 64 = .ok (.aload_n 0, 1) := by decide +kernel
theorem dX6_choicesOf_65 : decode cX6_choicesOf 65 = .ok (.getfield 9, 3) := by decide +kernel
theorem dX6_choicesOf_68 : decode cX6_choicesOf 68 = .ok (.iload_n 3, 1) := by decide +kernel
theorem dX6_choicesOf_69 : decode cX6_choicesOf 69 = .ok (.iconst 1, 1) := by decide +kernel
theorem dX6_choicesOf_70 : decode cX6_choicesOf 70 = .ok (.iload 7, 2) := by decide +kernel
theorem dX6_choicesOf_72 : decode cX6_choicesOf 72 = .ok (.ishl, 1) := by decide +kernel
theorem dX6_choicesOf_73 : decode cX6_choicesOf 73 = .ok (.ixor, 1) := by decide +kernel
theorem dX6_choicesOf_74 : decode cX6_choicesOf 74 = .ok (.laload, 1) := by decide +kernel
theorem dX6_choicesOf_75 : decode cX6_choicesOf 75 = .ok (.ldc2_w 26, 3) := by decide +kernel
theorem dX6_choicesOf_78 : decode cX6_choicesOf 78 = .ok (.ldiv, 1) := by decide +kernel
theorem dX6_choicesOf_79 : decode cX6_choicesOf 79 = .ok (.ldc2_w 53, 3) := by decide +kernel
theorem dX6_choicesOf_82 : decode cX6_choicesOf 82 = .ok (.ladd, 1) := by decide +kernel
theorem dX6_choicesOf_83 : decode cX6_choicesOf 83 = .ok (.iload 8, 2) := by decide +kernel
theorem dX6_choicesOf_85 : decode cX6_choicesOf 85 = .ok (.i2l, 1) := by decide +kernel
theorem dX6_choicesOf_86 : decode cX6_choicesOf 86 = .ok (.lsub, 1) := by decide +kernel
theorem dX6_choicesOf_87 : decode cX6_choicesOf 87 = .ok (.lstore 9, 2) := by decide +kernel
theorem dX6_choicesOf_89 : decode cX6_choicesOf 89 = .ok (.lload 9, 2) := by decide +kernel
theorem dX6_choicesOf_91 : decode cX6_choicesOf 91 = .ok (.lload 4, 2) := by decide +kernel
theorem dX6_choicesOf_93 : decode cX6_choicesOf 93 = .ok (.lcmp, 1) := by decide +kernel
theorem dX6_choicesOf_94 : decode cX6_choicesOf 94 = .ok (.ifCond .le 13, 3) := by decide +kernel
theorem dX6_choicesOf_97 : decode cX6_choicesOf 97 = .ok (.lload 9, 2) := by decide +kernel
theorem dX6_choicesOf_99 : decode cX6_choicesOf 99 = .ok (.lstore 4, 2) := by decide +kernel
theorem dX6_choicesOf_101 : decode cX6_choicesOf 101 = .ok (.iconst 1, 1) := by decide +kernel
theorem dX6_choicesOf_102 : decode cX6_choicesOf 102 = .ok (.istore 6, 2) := by decide +kernel
theorem dX6_choicesOf_104 : decode cX6_choicesOf 104 = .ok (.goto 14, 3) := by decide +kernel
theorem dX6_choicesOf_107 : decode cX6_choicesOf 107 = .ok (.lload 9, 2) := by decide +kernel
theorem dX6_choicesOf_109 : decode cX6_choicesOf 109 = .ok (.lload 4, 2) := by decide +kernel
theorem dX6_choicesOf_111 : decode cX6_choicesOf 111 = .ok (.lcmp, 1) := by decide +kernel
theorem dX6_choicesOf_112 : decode cX6_choicesOf 112 = .ok (.ifCond .ne 6, 3) := by decide +kernel
theorem dX6_choicesOf_115 : decode cX6_choicesOf 115 = .ok (.iinc 6 1, 3) := by decide +kernel
theorem dX6_choicesOf_118 : decode cX6_choicesOf 118 = .ok (.iinc 7 1, 3) := by decide +kernel
theorem dX6_choicesOf_121 : decode cX6_choicesOf 121 = .ok (.goto (-88), 3) := by decide +kernel
theorem dX6_choicesOf_124 : decode cX6_choicesOf 124 = .ok (.iload 6, 2) := by decide +kernel
theorem dX6_choicesOf_126 : decode cX6_choicesOf 126 = .ok (.ireturn, 1) := by decide +kernel
theorem dX6_pairsIn_0 : decode cX6_pairsIn 0 = .ok (.lload_n 0, 1) := by decide +kernel
theorem dX6_pairsIn_1 : decode cX6_pairsIn 1 = .ok (.ldc2_w 26, 3) := by decide +kernel
theorem dX6_pairsIn_4 : decode cX6_pairsIn 4 = .ok (.ldiv, 1) := by decide +kernel
theorem dX6_pairsIn_5 : decode cX6_pairsIn 5 = .ok (.ldc2_w 53, 3) := by decide +kernel
theorem dX6_pairsIn_8 : decode cX6_pairsIn 8 = .ok (.ladd, 1) := by decide +kernel
theorem dX6_pairsIn_9 : decode cX6_pairsIn 9 = .ok (.lconst 1, 1) := by decide +kernel
theorem dX6_pairsIn_10 : decode cX6_pairsIn 10 = .ok (.lsub, 1) := by decide +kernel
theorem dX6_pairsIn_11 : decode cX6_pairsIn 11 = .ok (.ldc2_w 53, 3) := by decide +kernel
theorem dX6_pairsIn_14 : decode cX6_pairsIn 14 = .ok (.ldiv, 1) := by decide +kernel
theorem dX6_pairsIn_15 : decode cX6_pairsIn 15 = .ok (.l2i, 1) := by decide +kernel
theorem dX6_pairsIn_16 : decode cX6_pairsIn 16 = .ok (.ireturn, 1) := by decide +kernel
set_option maxRecDepth 20000 in
theorem ggX6_bestOf_X6_pairAllBut : GoodIn wsX6_bestOf wsX6_pairAllBut := goodIn_r _ [6, 1, 7, 8, 9, 10, 11, 12, 13, 5, 14, 15, 16, 17, 18, 19, 20, 21, 22, 23, 24, 25, 26, 27, 28, 29, 30, 31, 32, 33, 34, 35, 36] rfl (by decide +kernel)
set_option maxRecDepth 20000 in
theorem gX6_bestOf_X6_pairAllBut : GoodIn wsX6_bestOf (wsV RX6 38 RX6 yX6_pairAllBut wsX6_pairAllBut) := goodIn_app (goodIn_of _ (by decide +kernel)) ggX6_bestOf_X6_pairAllBut
theorem dX6_bestOf_0 : decode cX6_bestOf 0 = .ok (.aload_n 0, 1) := by decide +kernel
theorem dX6_bestOf_1 : decode cX6_bestOf 1 = .ok (.aload_n 1, 1) := by decide +kernel
theorem dX6_bestOf_2 : decode cX6_bestOf 2 = .ok (.bipush (-9), 2) := by decide +kernel
theorem dX6_bestOf_4 : decode cX6_bestOf 4 = .ok (.invokevirtual 38, 3) := by decide +kernel
theorem dX6_bestOf_7 : decode cX6_bestOf 7 = .ok (.aload_n 0, 1) := by decide +kernel
theorem dX6_bestOf_8 : decode cX6_bestOf 8 = .ok (.getfield 9, 3) := by decide +kernel
theorem dX6_bestOf_11 : decode cX6_bestOf 11 = .ok (.iconst 1, 1) := by decide +kernel
theorem dX6_bestOf_12 : decode cX6_bestOf 12 = .ok (.aload_n 1, 1) := by decide +kernel
theorem dX6_bestOf_13 : decode cX6_bestOf 13 = .ok (.getfield 42, 3) := by decide +kernel
theorem dX6_bestOf_16 : decode cX6_bestOf 16 = .ok (.ishl, 1) := by decide +kernel
theorem dX6_bestOf_17 : decode cX6_bestOf 17 = .ok (.iconst 1, 1) := by decide +kernel
theorem dX6_bestOf_18 : decode cX6_bestOf 18 = .ok (.isub, 1) := by decide +kernel
theorem dX6_bestOf_19 : decode cX6_bestOf 19 = .ok (.laload, 1) := by decide +kernel
theorem dX6_bestOf_20 : decode cX6_bestOf 20 = .ok (.lreturn, 1) := by decide +kernel
set_option maxRecDepth 20000 in
theorem ggX6_pairAllBut_J7_fill_d0a16 : GoodIn wsX6_pairAllBut wsJ7_fill_d0a16 := goodIn_r _ [5] rfl (by decide +kernel)
set_option maxRecDepth 20000 in
theorem gX6_pairAllBut_J7_fill_d0a16 : GoodIn wsX6_pairAllBut (va_wsS RX6 55 yJ7_fill_d0a16 wsJ7_fill_d0a16) := goodIn_app (goodIn_of _ (by decide +kernel)) ggX6_pairAllBut_J7_fill_d0a16
set_option maxRecDepth 20000 in
theorem ggX6_pairAllBut_X6_pairOneMore : GoodIn wsX6_pairAllBut wsX6_pairOneMore := goodIn_r _ [10, 11, 12, 13, 1, 14, 15, 16, 17, 18, 19, 20, 21, 22, 23, 24, 25, 26, 29, 30, 31, 32, 27, 28] rfl (by decide +kernel)
set_option maxRecDepth 20000 in
theorem gX6_pairAllBut_X6_pairOneMore : GoodIn wsX6_pairAllBut (wsV RX6 64 RX6 yX6_pairOneMore wsX6_pairOneMore) := goodIn_app (goodIn_of _ (by decide +kernel)) ggX6_pairAllBut_X6_pairOneMore
theorem dX6_pairAllBut_0 : decode cX6_pairAllBut 0 = .ok (.aload_n 0, 1) := by decide +kernel
theorem dX6_pairAllBut_1 : decode cX6_pairAllBut 1 = .ok (.getfield 9, 3) := by decide +kernel
theorem dX6_pairAllBut_4 : decode cX6_pairAllBut 4 = .ok (.lconst 0, 1) := by decide +kernel
theorem dX6_pairAllBut_5 : decode cX6_pairAllBut 5 = .ok (.invokestatic 55, 3) := by decide +kernel
theorem dX6_pairAllBut_8 : decode cX6_pairAllBut 8 = .ok (.iconst 0, 1) := by decide +kernel
theorem dX6_pairAllBut_9 : decode cX6_pairAllBut 9 = .ok (.istore_n 3, 1) := by decide +kernel
theorem dX6_pairAllBut_10 : decode cX6_pairAllBut 10 = .ok (.iload_n 3, 1) := by decide +kernel
theorem dX6_pairAllBut_11 : decode cX6_pairAllBut 11 = .ok (.aload_n 1, 1) := by decide +kernel
theorem dX6_pairAllBut_12 : decode cX6_pairAllBut 12 = .ok (.getfield 61, 3) := by decide +kernel
theorem dX6_pairAllBut_15 : decode cX6_pairAllBut 15 = .ok (.if_icmp .ge 20, 3) := by decide +kernel
theorem dX6_pairAllBut_18 : decode cX6_pairAllBut 18 = .ok (.iload_n 3, 1) := by decide +kernel
theorem dX6_pairAllBut_19 : decode cX6_pairAllBut 19 = .ok (.iload_n 2, 1) := by decide +kernel
theorem dX6_pairAllBut_20 : decode cX6_pairAllBut 20 = .ok (.if_icmp .eq 9, 3) := by decide +kernel
theorem dX6_pairAllBut_23 : decode cX6_pairAllBut 23 = .ok (.aload_n 0, 1) := by decide +kernel
theorem dX6_pairAllBut_24 : decode cX6_pairAllBut 24 = .ok (.aload_n 1, 1) := by decide +kernel
theorem dX6_pairAllBut_25 : decode cX6_pairAllBut 25 = .ok (.iload_n 3, 1) := by decide +kernel
theorem dX6_pairAllBut_26 : decode cX6_pairAllBut 26 = .ok (.invokevirtual 64, 3) := by decide +kernel
theorem dX6_pairAllBut_29 : decode cX6_pairAllBut 29 = .ok (.iinc 3 1, 3) := by decide +kernel
theorem dX6_pairAllBut_32 : decode cX6_pairAllBut 32 = .ok (.goto (-22), 3) := by decide +kernel
theorem dX6_pairAllBut_35 : decode cX6_pairAllBut 35 = .ok (.return_, 1) := by decide +kernel
set_option maxRecDepth 20000 in
theorem ggX6_pairOneMore_X5_price : GoodIn wsX6_pairOneMore wsX5_price := goodIn_r _ [12, 13, 14, 15, 7, 16, 17, 18, 19, 20, 21] rfl (by decide +kernel)
set_option maxRecDepth 20000 in
theorem gX6_pairOneMore_X5_price_n48 : GoodIn wsX6_pairOneMore (wsX5_price) := ggX6_pairOneMore_X5_price
theorem dX6_pairOneMore_0 : decode cX6_pairOneMore 0 = .ok (.iconst 0, 1) := by decide +kernel
theorem dX6_pairOneMore_1 : decode cX6_pairOneMore 1 = .ok (.istore_n 3, 1) := by decide +kernel
theorem dX6_pairOneMore_2 : decode cX6_pairOneMore 2 = .ok (.iload_n 3, 1) := by decide +kernel
theorem dX6_pairOneMore_3 : decode cX6_pairOneMore 3 = .ok (.aload_n 1, 1) := by decide +kernel
theorem dX6_pairOneMore_4 : decode cX6_pairOneMore 4 = .ok (.getfield 42, 3) := by decide +kernel
theorem dX6_pairOneMore_7 : decode cX6_pairOneMore 7 = .ok (.if_icmp .ge 58, 3) := by decide +kernel
theorem dX6_pairOneMore_10 : decode cX6_pairOneMore 10 = .ok (.aload_n 1, 1) := by decide +kernel
theorem dX6_pairOneMore_11 : decode cX6_pairOneMore 11 = .ok (.iload_n 2, 1) := by decide +kernel
theorem dX6_pairOneMore_12 : decode cX6_pairOneMore 12 = .ok (.iload_n 3, 1) := by decide +kernel
theorem dX6_pairOneMore_13 : decode cX6_pairOneMore 13 = .ok (.invokevirtual 48, 3) := by decide +kernel
theorem dX6_pairOneMore_16 : decode cX6_pairOneMore 16 = .ok (.istore 4, 2) := by decide +kernel
theorem dX6_pairOneMore_18 : decode cX6_pairOneMore 18 = .ok (.aload_n 0, 1) := by decide +kernel
theorem dX6_pairOneMore_19 : decode cX6_pairOneMore 19 = .ok (.getfield 15, 3) := by decide +kernel
theorem dX6_pairOneMore_22 : decode cX6_pairOneMore 22 = .ok (.iload_n 3, 1) := by decide +kernel
theorem dX6_pairOneMore_23 : decode cX6_pairOneMore 23 = .ok (.iload 4, 2) := by decide +kernel
theorem dX6_pairOneMore_25 : decode cX6_pairOneMore 25 = .ok (.bipush (-9), 2) := by decide +kernel
theorem dX6_pairOneMore_27 : decode cX6_pairOneMore 27 = .ok (.if_icmp .ne 7, 3) := by decide +kernel
theorem dX6_pairOneMore_30 : decode cX6_pairOneMore 30 = .ok (.lconst 0, 1) := by decide +kernel
theorem dX6_pairOneMore_31 : decode cX6_pairOneMore 31 = .ok (.goto 27, 3) := by decide +kernel
theorem dX6_pairOneMore_34 : decode cX6_pairOneMore 34 = .ok (.sipush 1000, 3) := by decide +kernel
theorem dX6_pairOneMore_37 : decode cX6_pairOneMore 37 = .ok (.iload 4, 2) := by decide +kernel
theorem dX6_pairOneMore_39 : decode cX6_pairOneMore 39 = .ok (.isub, 1) := by decide +kernel
theorem dX6_pairOneMore_40 : decode cX6_pairOneMore 40 = .ok (.i2l, 1) := by decide +kernel
theorem dX6_pairOneMore_41 : decode cX6_pairOneMore 41 = .ok (.ldc2_w 26, 3) := by decide +kernel
theorem dX6_pairOneMore_44 : decode cX6_pairOneMore 44 = .ok (.lmul, 1) := by decide +kernel
theorem dX6_pairOneMore_45 : decode cX6_pairOneMore 45 = .ok (.bipush 8, 2) := by decide +kernel
theorem dX6_pairOneMore_47 : decode cX6_pairOneMore 47 = .ok (.iload_n 3, 1) := by decide +kernel
theorem dX6_pairOneMore_48 : decode cX6_pairOneMore 48 = .ok (.isub, 1) := by decide +kernel
theorem dX6_pairOneMore_49 : decode cX6_pairOneMore 49 = .ok (.i2l, 1) := by decide +kernel
theorem dX6_pairOneMore_50 : decode cX6_pairOneMore 50 = .ok (.getstatic 28, 3) := by decide +kernel
theorem dX6_pairOneMore_53 : decode cX6_pairOneMore 53 = .ok (.iload_n 2, 1) := by decide +kernel
theorem dX6_pairOneMore_54 : decode cX6_pairOneMore 54 = .ok (.iaload, 1) := by decide +kernel
theorem dX6_pairOneMore_55 : decode cX6_pairOneMore 55 = .ok (.i2l, 1) := by decide +kernel
theorem dX6_pairOneMore_56 : decode cX6_pairOneMore 56 = .ok (.lmul, 1) := by decide +kernel
theorem dX6_pairOneMore_57 : decode cX6_pairOneMore 57 = .ok (.ladd, 1) := by decide +kernel
theorem dX6_pairOneMore_58 : decode cX6_pairOneMore 58 = .ok (.lastore, 1) := by decide +kernel
theorem dX6_pairOneMore_59 : decode cX6_pairOneMore 59 = .ok (.iinc 3 1, 3) := by decide +kernel
theorem dX6_pairOneMore_62 : decode cX6_pairOneMore 62 = .ok (.goto (-60), 3) := by decide +kernel
theorem dX6_pairOneMore_65 : decode cX6_pairOneMore 65 = .ok (.iconst 1, 1) := by decide +kernel
theorem dX6_pairOneMore_66 : decode cX6_pairOneMore 66 = .ok (.aload_n 1, 1) := by decide +kernel
theorem dX6_pairOneMore_67 : decode cX6_pairOneMore 67 = .ok (.getfield 42, 3) := by decide +kernel
theorem dX6_pairOneMore_70 : decode cX6_pairOneMore 70 = .ok (.ishl, 1) := by decide +kernel
theorem dX6_pairOneMore_71 : decode cX6_pairOneMore 71 = .ok (.iconst 1, 1) := by decide +kernel
theorem dX6_pairOneMore_72 : decode cX6_pairOneMore 72 = .ok (.isub, 1) := by decide +kernel
theorem dX6_pairOneMore_73 : decode cX6_pairOneMore 73 = .ok (.istore_n 3, 1) := by decide +kernel
theorem dX6_pairOneMore_74 : decode cX6_pairOneMore 74 = .ok (.iload_n 3, 1) := by decide +kernel
theorem dX6_pairOneMore_75 : decode cX6_pairOneMore 75 = .ok (.ifCond .le 83, 3) := by decide +kernel
theorem dX6_pairOneMore_78 : decode cX6_pairOneMore 78 = .ok (.iconst 0, 1) := by decide +kernel
theorem dX6_pairOneMore_79 : decode cX6_pairOneMore 79 = .ok (.istore 4, 2) := by decide +kernel
theorem dX6_pairOneMore_81 : decode cX6_pairOneMore 81 = .ok (.iload 4, 2) := by decide +kernel
theorem dX6_pairOneMore_83 : decode cX6_pairOneMore 83 = .ok (.aload_n 1, 1) := by decide +kernel
theorem dX6_pairOneMore_84 : decode cX6_pairOneMore 84 = .ok (.getfield 42, 3) := by decide +kernel
theorem dX6_pairOneMore_87 : decode cX6_pairOneMore 87 = .ok (.if_icmp .ge 65, 3) := by decide +kernel
theorem dX6_pairOneMore_90 : decode cX6_pairOneMore 90 = .ok (.iload_n 3, 1) := by decide +kernel
theorem dX6_pairOneMore_91 : decode cX6_pairOneMore 91 = .ok (.iload 4, 2) := by decide +kernel
theorem dX6_pairOneMore_93 : decode cX6_pairOneMore 93 = .ok (.ishr, 1) := by decide +kernel
theorem dX6_pairOneMore_94 : decode cX6_pairOneMore 94 = .ok (.iconst 1, 1) := by decide +kernel
theorem dX6_pairOneMore_95 : decode cX6_pairOneMore 95 = .ok (.iand, 1) := by decide +kernel
theorem dX6_pairOneMore_96 : decode cX6_pairOneMore 96 = .ok (.iconst 1, 1) := by decide +kernel
theorem dX6_pairOneMore_97 : decode cX6_pairOneMore 97 = .ok (.if_icmp .ne 49, 3) := by decide +kernel
theorem dX6_pairOneMore_100 : decode cX6_pairOneMore 100 = .ok (.aload_n 0, 1) := by decide +kernel
theorem dX6_pairOneMore_101 : decode cX6_pairOneMore 101 = .ok (.getfield 15, 3) := by decide +kernel
theorem dX6_pairOneMore_104 : decode cX6_pairOneMore 104 = .ok (.iload 4, 2) := by decide +kernel
theorem dX6_pairOneMore_106 : decode cX6_pairOneMore 106 = .ok (.laload, 1) := by decide +kernel
theorem dX6_pairOneMore_107 : decode cX6_pairOneMore 107 = .ok (.lconst 0, 1) := by decide +kernel
theorem dX6_pairOneMore_108 : decode cX6_pairOneMore 108 = .ok (.lcmp, 1) := by decide +kernel
theorem dX6_pairOneMore_109 : decode cX6_pairOneMore 109 = .ok (.ifCond .le 37, 3) := by decide +kernel
theorem dX6_pairOneMore_112 : decode cX6_pairOneMore 112 = .ok (.aload_n 0, 1) := by decide +kernel
theorem dX6_pairOneMore_113 : decode cX6_pairOneMore 113 = .ok (.getfield 9, 3) := by decide +kernel
theorem dX6_pairOneMore_116 : decode cX6_pairOneMore 116 = .ok (.iload_n 3, 1) := by decide +kernel
theorem dX6_pairOneMore_117 : decode cX6_pairOneMore 117 = .ok (.aload_n 0, 1) := by decide +kernel
theorem dX6_pairOneMore_118 : decode cX6_pairOneMore 118 = .ok (.getfield 9, 3) := by decide +kernel
theorem dX6_pairOneMore_121 : decode cX6_pairOneMore 121 = .ok (.iload_n 3, 1) := by decide +kernel
theorem dX6_pairOneMore_122 : decode cX6_pairOneMore 122 = .ok (.laload, 1) := by decide +kernel
theorem dX6_pairOneMore_123 : decode cX6_pairOneMore 123 = .ok (.aload_n 0, 1) := by decide +kernel
theorem dX6_pairOneMore_124 : decode cX6_pairOneMore 124 = .ok (.getfield 9, 3) := by decide +kernel
theorem dX6_pairOneMore_127 : decode cX6_pairOneMore 127 = .ok (.iload_n 3, 1) := by decide +kernel
theorem dX6_pairOneMore_128 : decode cX6_pairOneMore 128 = .ok (.iconst 1, 1) := by decide +kernel
theorem dX6_pairOneMore_129 : decode cX6_pairOneMore 129 = .ok (.iload 4, 2) := by decide +kernel
theorem dX6_pairOneMore_131 : decode cX6_pairOneMore 131 = .ok (.ishl, 1) := by decide +kernel
theorem dX6_pairOneMore_132 : decode cX6_pairOneMore 132 = .ok (.ixor, 1) := by decide +kernel
theorem dX6_pairOneMore_133 : decode cX6_pairOneMore 133 = .ok (.laload, 1) := by decide +kernel
theorem dX6_pairOneMore_134 : decode cX6_pairOneMore 134 = .ok (.aload_n 0, 1) := by decide +kernel
theorem dX6_pairOneMore_135 : decode cX6_pairOneMore 135 = .ok (.getfield 15, 3) := by decide +kernel
theorem dX6_pairOneMore_138 : decode cX6_pairOneMore 138 = .ok (.iload 4, 2) := by decide +kernel
theorem dX6_pairOneMore_140 : decode cX6_pairOneMore 140 = .ok (.laload, 1) := by decide +kernel
theorem dX6_pairOneMore_141 : decode cX6_pairOneMore 141 = .ok (.ladd, 1) := by decide +kernel
theorem dX6_pairOneMore_142 : decode cX6_pairOneMore 142 = .ok (.invokestatic 67, 3) := by decide +kernel
theorem dX6_pairOneMore_145 : decode cX6_pairOneMore 145 = .ok (.lastore, 1) := by decide +kernel
theorem dX6_pairOneMore_146 : decode cX6_pairOneMore 146 = .ok (.iinc 4 1, 3) := by decide +kernel
theorem dX6_pairOneMore_149 : decode cX6_pairOneMore 149 = .ok (.goto (-68), 3) := by decide +kernel
theorem dX6_pairOneMore_152 : decode cX6_pairOneMore 152 = .ok (.iinc 3 (-1), 3) := by decide +kernel
theorem dX6_pairOneMore_155 : decode cX6_pairOneMore 155 = .ok (.goto (-81), 3) := by decide +kernel
theorem dX6_pairOneMore_158 : decode cX6_pairOneMore 158 = .ok (.return_, 1) := by decide +kernel
theorem dX8_init_0 : decode cX8_init 0 = .ok (.aload_n 0, 1) := by decide +kernel
theorem dX8_init_1 : decode cX8_init 1 = .ok (.invokespecial 3, 3) := by decide +kernel
theorem dX8_init_4 : decode cX8_init 4 = .ok (.aload_n 0, 1) := by decide +kernel
theorem dX8_init_5 : decode cX8_init 5 = .ok (.bipush 30, 2) := by decide +kernel
theorem dX8_init_7 : decode cX8_init 7 = .ok (.newarray .int, 2) := by decide +kernel
theorem dX8_init_9 : decode cX8_init 9 = .ok (.putfield 9, 3) := by decide +kernel
theorem dX8_init_12 : decode cX8_init 12 = .ok (.aload_n 0, 1) := by decide +kernel
theorem dX8_init_13 : decode cX8_init 13 = .ok (.bipush 90, 2) := by decide +kernel
theorem dX8_init_15 : decode cX8_init 15 = .ok (.newarray .int, 2) := by decide +kernel
theorem dX8_init_17 : decode cX8_init 17 = .ok (.putfield 15, 3) := by decide +kernel
theorem dX8_init_20 : decode cX8_init 20 = .ok (.return_, 1) := by decide +kernel
theorem dX8_setBooked_0 : decode cX8_setBooked 0 = .ok (.aload_n 0, 1) := by decide +kernel
theorem dX8_setBooked_1 : decode cX8_setBooked 1 = .ok (.getfield 9, 3) := by decide +kernel
theorem dX8_setBooked_4 : decode cX8_setBooked 4 = .ok (.iload_n 1, 1) := by decide +kernel
theorem dX8_setBooked_5 : decode cX8_setBooked 5 = .ok (.iaload, 1) := by decide +kernel
theorem dX8_setBooked_6 : decode cX8_setBooked 6 = .ok (.istore_n 3, 1) := by decide +kernel
theorem dX8_setBooked_7 : decode cX8_setBooked 7 = .ok (.aload_n 0, 1) := by decide +kernel
theorem dX8_setBooked_8 : decode cX8_setBooked 8 = .ok (.getfield 9, 3) := by decide +kernel
theorem dX8_setBooked_11 : decode cX8_setBooked 11 = .ok (.iload_n 1, 1) := by decide +kernel
theorem dX8_setBooked_12 : decode cX8_setBooked 12 = .ok (.iload_n 2, 1) := by decide +kernel
theorem dX8_setBooked_13 : decode cX8_setBooked 13 = .ok (.iastore, 1) := by decide +kernel
theorem dX8_setBooked_14 : decode cX8_setBooked 14 = .ok (.iload_n 3, 1) := by decide +kernel
theorem dX8_setBooked_15 : decode cX8_setBooked 15 = .ok (.ireturn, 1) := by decide +kernel
theorem dX8_setParted_0 : decode cX8_setParted 0 = .ok (.iload_n 1, 1) := by decide +kernel
theorem dX8_setParted_1 : decode cX8_setParted 1 = .ok (.iconst 3, 1) := by decide +kernel
theorem dX8_setParted_2 : decode cX8_setParted 2 = .ok (.imul, 1) := by decide +kernel
theorem dX8_setParted_3 : decode cX8_setParted 3 = .ok (.iload_n 2, 1) := by decide +kernel
theorem dX8_setParted_4 : decode cX8_setParted 4 = .ok (.iadd, 1) := by decide +kernel
theorem dX8_setParted_5 : decode cX8_setParted 5 = .ok (.istore 4, 2) := by decide +kernel
theorem dX8_setParted_7 : decode cX8_setParted 7 = .ok (.aload_n 0, 1) := by decide +kernel
theorem dX8_setParted_8 : decode cX8_setParted 8 = .ok (.getfield 15, 3) := by decide +kernel
theorem dX8_setParted_11 : decode cX8_setParted 11 = .ok (.iload 4, 2) := by decide +kernel
theorem dX8_setParted_13 : decode cX8_setParted 13 = .ok (.iaload, 1) := by decide +kernel
theorem dX8_setParted_14 : decode cX8_setParted 14 = .ok (.istore 5, 2) := by decide +kernel
theorem dX8_setParted_16 : decode cX8_setParted 16 = .ok (.aload_n 0, 1) := by decide +kernel
theorem dX8_setParted_17 : decode cX8_setParted 17 = .ok (.getfield 15, 3) := by decide +kernel
theorem dX8_setParted_20 : decode cX8_setParted 20 = .ok (.iload 4, 2) := by decide +kernel
theorem dX8_setParted_22 : decode cX8_setParted 22 = .ok (.iload_n 3, 1) := by decide +kernel
theorem dX8_setParted_23 : decode cX8_setParted 23 = .ok (.iastore, 1) := by decide +kernel
theorem dX8_setParted_24 : decode cX8_setParted 24 = .ok (.iload 5, 2) := by decide +kernel
theorem dX8_setParted_26 : decode cX8_setParted 26 = .ok (.ireturn, 1) := by decide +kernel
theorem dX8_lost_0 : decode cX8_lost 0 = .ok (.aload_n 0, 1) := by decide +kernel
theorem dX8_lost_1 : decode cX8_lost 1 = .ok (.getfield 9, 3) := by decide +kernel
theorem dX8_lost_4 : decode cX8_lost 4 = .ok (.iload_n 1, 1) := by decide +kernel
theorem dX8_lost_5 : decode cX8_lost 5 = .ok (.iaload, 1) := by decide +kernel
theorem dX8_lost_6 : decode cX8_lost 6 = .ok (.istore_n 2, 1) := by decide +kernel
theorem dX8_lost_7 : decode cX8_lost 7 = .ok (.iconst 0, 1) := by decide +kernel
theorem dX8_lost_8 : decode cX8_lost 8 = .ok (.istore_n 3, 1) := by decide +kernel
theorem dX8_lost_9 : decode cX8_lost 9 = .ok (.iload_n 3, 1) := by decide +kernel
theorem dX8_lost_10 : decode cX8_lost 10 = .ok (.iconst 3, 1) := by decide +kernel
theorem dX8_lost_11 : decode cX8_lost 11 = .ok (.if_icmp .ge 22, 3) := by decide +kernel
theorem dX8_lost_14 : decode cX8_lost 14 = .ok (.iload_n 2, 1) := by decide +kernel
theorem dX8_lost_15 : decode cX8_lost 15 = .ok (.aload_n 0, 1) := by decide +kernel
theorem dX8_lost_16 : decode cX8_lost 16 = .ok (.getfield 15, 3) := by decide +kernel
theorem dX8_lost_19 : decode cX8_lost 19 = .ok (.iload_n 1, 1) := by decide +kernel
theorem dX8_lost_20 : decode cX8_lost 20 = .ok (.iconst 3, 1) := by decide +kernel
theorem dX8_lost_21 : decode cX8_lost 21 = .ok (.imul, 1) := by decide +kernel
theorem dX8_lost_22 : decode cX8_lost 22 = .ok (.iload_n 3, 1) := by decide +kernel
theorem dX8_lost_23 : decode cX8_lost 23 = .ok (.iadd, 1) := by decide +kernel
theorem dX8_lost_24 : decode cX8_lost 24 = .ok (.iaload, 1) := by decide +kernel
theorem dX8_lost_25 : decode cX8_lost 25 = .ok (.isub, 1) := by decide +kernel
theorem dX8_lost_26 : decode cX8_lost 26 = .ok (.istore_n 2, 1) := by decide +kernel
theorem dX8_lost_27 : decode cX8_lost 27 = .ok (.iinc 3 1, 3) := by decide +kernel
theorem dX8_lost_30 : decode cX8_lost 30 = .ok (.goto (-21), 3) := by decide +kernel
theorem dX8_lost_33 : decode cX8_lost 33 = .ok (.iload_n 2, 1) := by decide +kernel
theorem dX8_lost_34 : decode cX8_lost 34 = .ok (.ireturn, 1) := by decide +kernel
set_option maxRecDepth 20000 in
theorem ggX8_bookedOf_X10_cell : GoodIn wsX8_bookedOf wsX10_cell := goodIn_r _ [4] rfl (by decide +kernel)
set_option maxRecDepth 20000 in
theorem gX8_bookedOf_X10_cell_n18 : GoodIn wsX8_bookedOf (wsX10_cell) := ggX8_bookedOf_X10_cell
theorem dX8_bookedOf_0 : decode cX8_bookedOf 0 = .ok (.iconst 0, 1) := by decide +kernel
theorem dX8_bookedOf_1 : decode cX8_bookedOf 1 = .ok (.istore_n 2, 1) := by decide +kernel
theorem dX8_bookedOf_2 : decode cX8_bookedOf 2 = .ok (.iconst 0, 1) := by decide +kernel
theorem dX8_bookedOf_3 : decode cX8_bookedOf 3 = .ok (.istore_n 3, 1) := by decide +kernel
theorem dX8_bookedOf_4 : decode cX8_bookedOf 4 = .ok (.iload_n 3, 1) := by decide +kernel
theorem dX8_bookedOf_5 : decode cX8_bookedOf 5 = .ok (.iconst 5, 1) := by decide +kernel
theorem dX8_bookedOf_6 : decode cX8_bookedOf 6 = .ok (.if_icmp .ge 22, 3) := by decide +kernel
theorem dX8_bookedOf_9 : decode cX8_bookedOf 9 = .ok (.iload_n 2, 1) := by decide +kernel
theorem dX8_bookedOf_10 : decode cX8_bookedOf 10 = .ok (.aload_n 0, 1) := by decide +kernel
theorem dX8_bookedOf_11 : decode cX8_bookedOf 11 = .ok (.getfield 9, 3) := by decide +kernel
theorem dX8_bookedOf_14 : decode cX8_bookedOf 14 = .ok (.iload_n 3, 1) := by decide +kernel
theorem dX8_bookedOf_15 : decode cX8_bookedOf 15 = .ok (.iload_n 1, 1) := by decide +kernel
theorem dX8_bookedOf_16 : decode cX8_bookedOf 16 = .ok (.invokestatic 18, 3) := by decide +kernel
theorem dX8_bookedOf_19 : decode cX8_bookedOf 19 = .ok (.iaload, 1) := by decide +kernel
theorem dX8_bookedOf_20 : decode cX8_bookedOf 20 = .ok (.iadd, 1) := by decide +kernel
theorem dX8_bookedOf_21 : decode cX8_bookedOf 21 = .ok (.istore_n 2, 1) := by decide +kernel
theorem dX8_bookedOf_22 : decode cX8_bookedOf 22 = .ok (.iinc 3 1, 3) := by decide +kernel
theorem dX8_bookedOf_25 : decode cX8_bookedOf 25 = .ok (.goto (-21), 3) := by decide +kernel
theorem dX8_bookedOf_28 : decode cX8_bookedOf 28 = .ok (.iload_n 2, 1) := by decide +kernel
theorem dX8_bookedOf_29 : decode cX8_bookedOf 29 = .ok (.ireturn, 1) := by decide +kernel
theorem dX8_bookedInAll_0 : decode cX8_bookedInAll 0 = .ok (.iconst 0, 1) := by decide +kernel
theorem dX8_bookedInAll_1 : decode cX8_bookedInAll 1 = .ok (.istore_n 1, 1) := by decide +kernel
theorem dX8_bookedInAll_2 : decode cX8_bookedInAll 2 = .ok (.iconst 0, 1) := by decide +kernel
theorem dX8_bookedInAll_3 : decode cX8_bookedInAll 3 = .ok (.istore_n 2, 1) := by decide +kernel
theorem dX8_bookedInAll_4 : decode cX8_bookedInAll 4 = .ok (.iload_n 2, 1) := by decide +kernel
theorem dX8_bookedInAll_5 : decode cX8_bookedInAll 5 = .ok (.bipush 30, 2) := by decide +kernel
theorem dX8_bookedInAll_7 : decode cX8_bookedInAll 7 = .ok (.if_icmp .ge 18, 3) := by decide +kernel
theorem dX8_bookedInAll_10 : decode cX8_bookedInAll 10 = .ok (.iload_n 1, 1) := by decide +kernel
theorem dX8_bookedInAll_11 : decode cX8_bookedInAll 11 = .ok (.aload_n 0, 1) := by decide +kernel
theorem dX8_bookedInAll_12 : decode cX8_bookedInAll 12 = .ok (.getfield 9, 3) := by decide +kernel
theorem dX8_bookedInAll_15 : decode cX8_bookedInAll 15 = .ok (.iload_n 2, 1) := by decide +kernel
theorem dX8_bookedInAll_16 : decode cX8_bookedInAll 16 = .ok (.iaload, 1) := by decide +kernel
theorem dX8_bookedInAll_17 : decode cX8_bookedInAll 17 = .ok (.iadd, 1) := by decide +kernel
theorem dX8_bookedInAll_18 : decode cX8_bookedInAll 18 = .ok (.istore_n 1, 1) := by decide +kernel
theorem dX8_bookedInAll_19 : decode cX8_bookedInAll 19 = .ok (.iinc 2 1, 3) := by decide +kernel
theorem dX8_bookedInAll_22 : decode cX8_bookedInAll 22 = .ok (.goto (-18), 3) := by decide +kernel
theorem dX8_bookedInAll_25 : decode cX8_bookedInAll 25 = .ok (.iload_n 1, 1) := by decide +kernel
theorem dX8_bookedInAll_26 : decode cX8_bookedInAll 26 = .ok (.ireturn, 1) := by decide +kernel
theorem dX9_init_0 : decode cX9_init 0 = .ok (.aload_n 0, 1) := by decide +kernel
theorem dX9_init_1 : decode cX9_init 1 = .ok (.invokespecial 3, 3) := by decide +kernel
theorem dX9_init_4 : decode cX9_init 4 = .ok (.aload_n 0, 1) := by decide +kernel
theorem dX9_init_5 : decode cX9_init 5 = .ok (.bipush 40, 2) := by decide +kernel
theorem dX9_init_7 : decode cX9_init 7 = .ok (.newarray .int, 2) := by decide +kernel
theorem dX9_init_9 : decode cX9_init 9 = .ok (.putfield 9, 3) := by decide +kernel
theorem dX9_init_12 : decode cX9_init 12 = .ok (.aload_n 0, 1) := by decide +kernel
theorem dX9_init_13 : decode cX9_init 13 = .ok (.bipush 40, 2) := by decide +kernel
theorem dX9_init_15 : decode cX9_init 15 = .ok (.newarray .int, 2) := by decide +kernel
theorem dX9_init_17 : decode cX9_init 17 = .ok (.putfield 15, 3) := by decide +kernel
theorem dX9_init_20 : decode cX9_init 20 = .ok (.aload_n 0, 1) := by decide +kernel
theorem dX9_init_21 : decode cX9_init 21 = .ok (.bipush 40, 2) := by decide +kernel
theorem dX9_init_23 : decode cX9_init 23 = .ok (.newarray .int, 2) := by decide +kernel
theorem dX9_init_25 : decode cX9_init 25 = .ok (.putfield 18, 3) := by decide +kernel
theorem dX9_init_28 : decode cX9_init 28 = .ok (.aload_n 0, 1) := by decide +kernel
theorem dX9_init_29 : decode cX9_init 29 = .ok (.bipush 40, 2) := by decide +kernel
theorem dX9_init_31 : decode cX9_init 31 = .ok (.newarray .boolean, 2) := by decide +kernel
theorem dX9_init_33 : decode cX9_init 33 = .ok (.putfield 21, 3) := by decide +kernel
theorem dX9_init_36 : decode cX9_init 36 = .ok (.aload_n 0, 1) := by decide +kernel
theorem dX9_init_37 : decode cX9_init 37 = .ok (.iconst 0, 1) := by decide +kernel
theorem dX9_init_38 : decode cX9_init 38 = .ok (.putfield 25, 3) := by decide +kernel
theorem dX9_init_41 : decode cX9_init 41 = .ok (.return_, 1) := by decide +kernel
theorem dX9_add_0 : decode cX9_add 0 = .ok (.aload_n 0, 1) := by decide +kernel
theorem dX9_add_1 : decode cX9_add 1 = .ok (.getfield 9, 3) := by decide +kernel
theorem dX9_add_4 : decode cX9_add 4 = .ok (.aload_n 0, 1) := by decide +kernel
theorem dX9_add_5 : decode cX9_add 5 = .ok (.getfield 25, 3) := by decide +kernel
theorem dX9_add_8 : decode cX9_add 8 = .ok (.iload_n 1, 1) := by decide +kernel
theorem dX9_add_9 : decode cX9_add 9 = .ok (.iastore, 1) := by decide +kernel
theorem dX9_add_10 : decode cX9_add 10 = .ok (.aload_n 0, 1) := by decide +kernel
theorem dX9_add_11 : decode cX9_add 11 = .ok (.getfield 15, 3) := by decide +kernel
theorem dX9_add_14 : decode cX9_add 14 = .ok (.aload_n 0, 1) := by decide +kernel
theorem dX9_add_15 : decode cX9_add 15 = .ok (.getfield 25, 3) := by decide +kernel
theorem dX9_add_18 : decode cX9_add 18 = .ok (.iload_n 2, 1) := by decide +kernel
theorem dX9_add_19 : decode cX9_add 19 = .ok (.iastore, 1) := by decide +kernel
theorem dX9_add_20 : decode cX9_add 20 = .ok (.aload_n 0, 1) := by decide +kernel
theorem dX9_add_21 : decode cX9_add 21 = .ok (.getfield 18, 3) := by decide +kernel
theorem dX9_add_24 : decode cX9_add 24 = .ok (.aload_n 0, 1) := by decide +kernel
theorem dX9_add_25 : decode cX9_add 25 = .ok (.getfield 25, 3) := by decide +kernel
theorem dX9_add_28 : decode cX9_add 28 = .ok (.iload_n 3, 1) := by decide +kernel
theorem dX9_add_29 : decode cX9_add 29 = .ok (.iastore, 1) := by decide +kernel
theorem dX9_add_30 : decode cX9_add 30 = .ok (.aload_n 0, 1) := by decide +kernel
theorem dX9_add_31 : decode cX9_add 31 = .ok (.getfield 21, 3) := by decide +kernel
theorem dX9_add_34 : decode cX9_add 34 = .ok (.aload_n 0, 1) := by decide +kernel
theorem dX9_add_35 : decode cX9_add 35 = .ok (.getfield 25, 3) := by decide +kernel
theorem dX9_add_38 : decode cX9_add 38 = .ok (.iconst 1, 1) := by decide +kernel
theorem dX9_add_39 : decode cX9_add 39 = .ok (.bastore, 1) := by decide +kernel
theorem dX9_add_40 : decode cX9_add 40 = .ok (.aload_n 0, 1) := by decide +kernel
theorem dX9_add_41 : decode cX9_add 41 = .ok (.dup, 1) := by decide +kernel
theorem dX9_add_42 : decode cX9_add 42 = .ok (.getfield 25, 3) := by decide +kernel
theorem dX9_add_45 : decode cX9_add 45 = .ok (.iconst 1, 1) := by decide +kernel
theorem dX9_add_46 : decode cX9_add 46 = .ok (.iadd, 1) := by decide +kernel
theorem dX9_add_47 : decode cX9_add 47 = .ok (.putfield 25, 3) := by decide +kernel
theorem dX9_add_50 : decode cX9_add 50 = .ok (.aload_n 0, 1) := by decide +kernel
theorem dX9_add_51 : decode cX9_add 51 = .ok (.getfield 25, 3) := by decide +kernel
theorem dX9_add_54 : decode cX9_add 54 = .ok (.iconst 1, 1) := by decide +kernel
theorem dX9_add_55 : decode cX9_add 55 = .ok (.isub, 1) := by decide +kernel
theorem dX9_add_56 : decode cX9_add 56 = .ok (.ireturn, 1) := by decide +kernel
theorem dX9_stop_0 : decode cX9_stop 0 = .ok (.aload_n 0, 1) := by decide +kernel
theorem dX9_stop_1 : decode cX9_stop 1 = .ok (.getfield 21, 3) := by decide +kernel
theorem dX9_stop_4 : decode cX9_stop 4 = .ok (.iload_n 1, 1) := by decide +kernel
theorem dX9_stop_5 : decode cX9_stop 5 = .ok (.baload, 1) := by decide +kernel
theorem dX9_stop_6 : decode cX9_stop 6 = .ok (.istore_n 2, 1) := by decide +kernel
theorem dX9_stop_7 : decode cX9_stop 7 = .ok (.aload_n 0, 1) := by decide +kernel
theorem dX9_stop_8 : decode cX9_stop 8 = .ok (.getfield 21, 3) := by decide +kernel
theorem dX9_stop_11 : decode cX9_stop 11 = .ok (.iload_n 1, 1) := by decide +kernel
theorem dX9_stop_12 : decode cX9_stop 12 = .ok (.iconst 0, 1) := by decide +kernel
theorem dX9_stop_13 : decode cX9_stop 13 = .ok (.bastore, 1) := by decide +kernel
theorem dX9_stop_14 : decode cX9_stop 14 = .ok (.iload_n 2, 1) := by decide +kernel
theorem dX9_stop_15 : decode cX9_stop 15 = .ok (.ireturn, 1) := by decide +kernel
theorem dX9_speaksOf_0 : decode cX9_speaksOf 0 = .ok (.aload_n 0, 1) := by decide +kernel
theorem dX9_speaksOf_1 : decode cX9_speaksOf 1 = .ok (.getfield 21, 3) := by decide +kernel
theorem dX9_speaksOf_4 : decode cX9_speaksOf 4 = .ok (.iload_n 1, 1) := by decide +kernel
theorem dX9_speaksOf_5 : decode cX9_speaksOf 5 = .ok (.baload, 1) := by decide +kernel
theorem dX9_speaksOf_6 : decode cX9_speaksOf 6 = .ok (.ifCond .eq 17, 3) := by decide +kernel
theorem dX9_speaksOf_9 : decode cX9_speaksOf 9 = .ok (.aload_n 0, 1) := by decide +kernel
theorem dX9_speaksOf_10 : decode cX9_speaksOf 10 = .ok (.getfield 9, 3) := by decide +kernel
theorem dX9_speaksOf_13 : decode cX9_speaksOf 13 = .ok (.iload_n 1, 1) := by decide +kernel
theorem dX9_speaksOf_14 : decode cX9_speaksOf 14 = .ok (.iaload, 1) := by decide +kernel
theorem dX9_speaksOf_15 : decode cX9_speaksOf 15 = .ok (.iload_n 2, 1) := by decide +kernel
theorem dX9_speaksOf_16 : decode cX9_speaksOf 16 = .ok (.if_icmp .ne 7, 3) := by decide +kernel
theorem dX9_speaksOf_19 : decode cX9_speaksOf 19 = .ok (.iconst 1, 1) := by decide +kernel
theorem dX9_speaksOf_20 : decode cX9_speaksOf 20 = .ok (.goto 4, 3) := by decide +kernel
theorem dX9_speaksOf_23 : decode cX9_speaksOf 23 = .ok (.iconst 0, 1) := by decide +kernel
theorem dX9_speaksOf_24 : decode cX9_speaksOf 24 = .ok (.ireturn, 1) := by decide +kernel
set_option maxRecDepth 20000 in
theorem ggX9_edge_X9_speaksOf : GoodIn wsX9_edge wsX9_speaksOf := goodIn_r _ [15, 16, 17, 18, 19, 20, 21, 22] rfl (by decide +kernel)
set_option maxRecDepth 20000 in
theorem gX9_edge_X9_speaksOf : GoodIn wsX9_edge (wsV RX9 29 RX9 yX9_speaksOf wsX9_speaksOf) := goodIn_app (goodIn_of _ (by decide +kernel)) ggX9_edge_X9_speaksOf
theorem dX9_edge_0 : decode cX9_edge 0 = .ok (.iconst 0, 1) := by decide +kernel
theorem dX9_edge_1 : decode cX9_edge 1 = .ok (.istore_n 3, 1) := by decide +kernel
theorem dX9_edge_2 : decode cX9_edge 2 = .ok (.sipush 2000, 3) := by decide +kernel
theorem dX9_edge_5 : decode cX9_edge 5 = .ok (.istore 4, 2) := by decide +kernel
theorem dX9_edge_7 : decode cX9_edge 7 = .ok (.iconst 0, 1) := by decide +kernel
theorem dX9_edge_8 : decode cX9_edge 8 = .ok (.istore 5, 2) := by decide +kernel
theorem dX9_edge_10 : decode cX9_edge 10 = .ok (.iload 5, 2) := by decide +kernel
theorem dX9_edge_12 : decode cX9_edge 12 = .ok (.aload_n 0, 1) := by decide +kernel
theorem dX9_edge_13 : decode cX9_edge 13 = .ok (.getfield 25, 3) := by decide +kernel
theorem dX9_edge_16 : decode cX9_edge 16 = .ok (.if_icmp .ge 45, 3) := by decide +kernel
theorem dX9_edge_19 : decode cX9_edge 19 = .ok (.aload_n 0, 1) := by decide +kernel
theorem dX9_edge_20 : decode cX9_edge 20 = .ok (.iload 5, 2) := by decide +kernel
theorem dX9_edge_22 : decode cX9_edge 22 = .ok (.iload_n 1, 1) := by decide +kernel
theorem dX9_edge_23 : decode cX9_edge 23 = .ok (.invokevirtual 29, 3) := by decide +kernel
theorem dX9_edge_26 : decode cX9_edge 26 = .ok (.ifCond .eq 29, 3) := by decide +kernel
theorem dX9_edge_29 : decode cX9_edge 29 = .ok (.iload_n 3, 1) := by decide +kernel
theorem dX9_edge_30 : decode cX9_edge 30 = .ok (.aload_n 0, 1) := by decide +kernel
theorem dX9_edge_31 : decode cX9_edge 31 = .ok (.getfield 15, 3) := by decide +kernel
theorem dX9_edge_34 : decode cX9_edge 34 = .ok (.iload 5, 2) := by decide +kernel
theorem dX9_edge_36 : decode cX9_edge 36 = .ok (.iaload, 1) := by decide +kernel
theorem dX9_edge_37 : decode cX9_edge 37 = .ok (.invokestatic 33, 3) := by decide +kernel
theorem dX9_edge_40 : decode cX9_edge 40 = .ok (.istore_n 3, 1) := by decide +kernel
theorem dX9_edge_41 : decode cX9_edge 41 = .ok (.iload 4, 2) := by decide +kernel
theorem dX9_edge_43 : decode cX9_edge 43 = .ok (.aload_n 0, 1) := by decide +kernel
theorem dX9_edge_44 : decode cX9_edge 44 = .ok (.getfield 18, 3) := by decide +kernel
theorem dX9_edge_47 : decode cX9_edge 47 = .ok (.iload 5, 2) := by decide +kernel
theorem dX9_edge_49 : decode cX9_edge 49 = .ok (.iaload, 1) := by decide +kernel
theorem dX9_edge_50 : decode cX9_edge 50 = .ok (.invokestatic 39, 3) := by decide +kernel
theorem dX9_edge_53 : decode cX9_edge 53 = .ok (.istore 4, 2) := by decide +kernel
theorem dX9_edge_55 : decode cX9_edge 55 = .ok (.iinc 5 1, 3) := by decide +kernel
theorem dX9_edge_58 : decode cX9_edge 58 = .ok (.goto (-48), 3) := by decide +kernel
theorem dX9_edge_61 : decode cX9_edge 61 = .ok (.iload_n 3, 1) := by decide +kernel
theorem dX9_edge_62 : decode cX9_edge 62 = .ok (.iload 4, 2) := by decide +kernel
theorem dX9_edge_64 : decode cX9_edge 64 = .ok (.if_icmp .le 6, 3) := by decide +kernel
theorem dX9_edge_67 : decode cX9_edge 67 = .ok (.bipush (-9), 2) := by decide +kernel
theorem dX9_edge_69 : decode cX9_edge 69 = .ok (.ireturn, 1) := by decide +kernel
theorem dX9_edge_70 : decode cX9_edge 70 = .ok (.iload_n 2, 1) := by decide +kernel
theorem dX9_edge_71 : decode cX9_edge 71 = .ok (.ifCond .eq 8, 3) := by decide +kernel
theorem dX9_edge_74 : decode cX9_edge 74 = .ok (.iload 4, 2) := by decide +kernel
theorem dX9_edge_76 : decode cX9_edge 76 = .ok (.goto 4, 3) := by decide +kernel
theorem dX9_edge_79 : decode cX9_edge 79 = .ok (.iload_n 3, 1) := by decide +kernel
theorem dX9_edge_80 : decode cX9_edge 80 = .ok (.ireturn, 1) := by decide +kernel
set_option maxRecDepth 20000 in
theorem ggX9_firstAgainst_X9_speaksOf : GoodIn wsX9_firstAgainst wsX9_speaksOf := goodIn_r _ [15, 16, 17, 18, 19, 20, 21, 22] rfl (by decide +kernel)
set_option maxRecDepth 20000 in
theorem gX9_firstAgainst_X9_speaksOf : GoodIn wsX9_firstAgainst (wsV RX9 29 RX9 yX9_speaksOf wsX9_speaksOf) := goodIn_app (goodIn_of _ (by decide +kernel)) ggX9_firstAgainst_X9_speaksOf
theorem dX9_firstAgainst_0 : decode cX9_firstAgainst 0 = .ok (.iconst 0, 1) := by decide +kernel
theorem dX9_firstAgainst_1 : decode cX9_firstAgainst 1 = .ok (.istore_n 2, 1) := by decide +kernel
theorem dX9_firstAgainst_2 : decode cX9_firstAgainst 2 = .ok (.sipush 2000, 3) := by decide +kernel
theorem dX9_firstAgainst_5 : decode cX9_firstAgainst 5 = .ok (.istore_n 3, 1) := by decide +kernel
theorem dX9_firstAgainst_6 : decode cX9_firstAgainst 6 = .ok (.iconst 0, 1) := by decide +kernel
theorem dX9_firstAgainst_7 : decode cX9_firstAgainst 7 = .ok (.istore 4, 2) := by decide +kernel
theorem dX9_firstAgainst_9 : decode cX9_firstAgainst 9 = .ok (.iload 4, 2) := by decide +kernel
theorem dX9_firstAgainst_11 : decode cX9_firstAgainst 11 = .ok (.aload_n 0, 1) := by decide +kernel
theorem dX9_firstAgainst_12 : decode cX9_firstAgainst 12 = .ok (.getfield 25, 3) := by decide +kernel
theorem dX9_firstAgainst_15 : decode cX9_firstAgainst 15 = .ok (.if_icmp .ge 51, 3) := by decide +kernel
theorem dX9_firstAgainst_18 : decode cX9_firstAgainst 18 = .ok (.aload_n 0, 1) := by decide +kernel
theorem dX9_firstAgainst_19 : decode cX9_firstAgainst 19 = .ok (.iload 4, 2) := by decide +kernel
theorem dX9_firstAgainst_21 : decode cX9_firstAgainst 21 = .ok (.iload_n 1, 1) := by decide +kernel
theorem dX9_firstAgainst_22 : decode cX9_firstAgainst 22 = .ok (.invokevirtual 29, 3) := by decide +kernel
theorem dX9_firstAgainst_25 : decode cX9_firstAgainst 25 = .ok (.ifCond .eq 35, 3) := by decide +kernel
theorem dX9_firstAgainst_28 : decode cX9_firstAgainst 28 = .ok (.iload_n 2, 1) := by decide +kernel
theorem dX9_firstAgainst_29 : decode cX9_firstAgainst 29 = .ok (.aload_n 0, 1) := by decide +kernel
theorem dX9_firstAgainst_30 : decode cX9_firstAgainst 30 = .ok (.getfield 15, 3) := by decide +kernel
theorem dX9_firstAgainst_33 : decode cX9_firstAgainst 33 = .ok (.iload 4, 2) := by decide +kernel
theorem dX9_firstAgainst_35 : decode cX9_firstAgainst 35 = .ok (.iaload, 1) := by decide +kernel
theorem dX9_firstAgainst_36 : decode cX9_firstAgainst 36 = .ok (.invokestatic 33, 3) := by decide +kernel
theorem dX9_firstAgainst_39 : decode cX9_firstAgainst 39 = .ok (.istore_n 2, 1) := by decide +kernel
theorem dX9_firstAgainst_40 : decode cX9_firstAgainst 40 = .ok (.iload_n 3, 1) := by decide +kernel
theorem dX9_firstAgainst_41 : decode cX9_firstAgainst 41 = .ok (.aload_n 0, 1) := by decide +kernel
theorem dX9_firstAgainst_42 : decode cX9_firstAgainst 42 = .ok (.getfield 18, 3) := by decide +kernel
theorem dX9_firstAgainst_45 : decode cX9_firstAgainst 45 = .ok (.iload 4, 2) := by decide +kernel
theorem dX9_firstAgainst_47 : decode cX9_firstAgainst 47 = .ok (.iaload, 1) := by decide +kernel
theorem dX9_firstAgainst_48 : decode cX9_firstAgainst 48 = .ok (.invokestatic 39, 3) := by decide +kernel
theorem dX9_firstAgainst_51 : decode cX9_firstAgainst 51 = .ok (.istore_n 3, 1) := by decide +kernel
theorem dX9_firstAgainst_52 : decode cX9_firstAgainst 52 = .ok (.iload_n 2, 1) := by decide +kernel
theorem dX9_firstAgainst_53 : decode cX9_firstAgainst 53 = .ok (.iload_n 3, 1) := by decide +kernel
theorem dX9_firstAgainst_54 : decode cX9_firstAgainst 54 = .ok (.if_icmp .le 6, 3) := by decide +kernel
theorem dX9_firstAgainst_57 : decode cX9_firstAgainst 57 = .ok (.iload 4, 2) := by decide +kernel
theorem dX9_firstAgainst_59 : decode cX9_firstAgainst 59 = .ok (.ireturn, 1) := by decide +kernel
theorem dX9_firstAgainst_60 : decode cX9_firstAgainst 60 = .ok (.iinc 4 1, 3) := by decide +kernel
theorem dX9_firstAgainst_63 : decode cX9_firstAgainst 63 = .ok (.goto (-54), 3) := by decide +kernel
theorem dX9_firstAgainst_66 : decode cX9_firstAgainst 66 = .ok (.bipush (-9), 2) := by decide +kernel
theorem dX9_firstAgainst_68 : decode cX9_firstAgainst 68 = .ok (.ireturn, 1) := by decide +kernel
theorem dX9_counting_0 : decode cX9_counting 0 = .ok (.iconst 0, 1) := by decide +kernel
theorem dX9_counting_1 : decode cX9_counting 1 = .ok (.istore_n 1, 1) := by decide +kernel
theorem dX9_counting_2 : decode cX9_counting 2 = .ok (.iconst 0, 1) := by decide +kernel
theorem dX9_counting_3 : decode cX9_counting 3 = .ok (.istore_n 2, 1) := by decide +kernel
theorem dX9_counting_4 : decode cX9_counting 4 = .ok (.iload_n 2, 1) := by decide +kernel
theorem dX9_counting_5 : decode cX9_counting 5 = .ok (.aload_n 0, 1) := by decide +kernel
theorem dX9_counting_6 : decode cX9_counting 6 = .ok (.getfield 25, 3) := by decide +kernel
theorem dX9_counting_9 : decode cX9_counting 9 = .ok (.if_icmp .ge 26, 3) := by decide +kernel
theorem dX9_counting_12 : decode cX9_counting 12 = .ok (.iload_n 1, 1) := by decide +kernel
theorem dX9_counting_13 : decode cX9_counting 13 = .ok (.aload_n 0, 1) := by decide +kernel
theorem dX9_counting_14 : decode cX9_counting 14 = .ok (.getfield 21, 3) := by decide +kernel
theorem dX9_counting_17 : decode cX9_counting 17 = .ok (.iload_n 2, 1) := by decide +kernel
theorem dX9_counting_18 : decode cX9_counting 18 = .ok (.baload, 1) := by decide +kernel
theorem dX9_counting_19 : decode cX9_counting 19 = .ok (.ifCond .eq 7, 3) := by decide +kernel
theorem dX9_counting_22 : decode cX9_counting 22 = .ok (.iconst 1, 1) := by decide +kernel
theorem dX9_counting_23 : decode cX9_counting 23 = .ok (.goto 4, 3) := by decide +kernel
theorem dX9_counting_26 : decode cX9_counting 26 = .ok (.iconst 0, 1) := by decide +kernel
theorem dX9_counting_27 : decode cX9_counting 27 = .ok (.iadd, 1) := by decide +kernel
theorem dX9_counting_28 : decode cX9_counting 28 = .ok (.istore_n 1, 1) := by decide +kernel
theorem dX9_counting_29 : decode cX9_counting 29 = .ok (.iinc 2 1, 3) := by decide +kernel
theorem dX9_counting_32 : decode cX9_counting 32 = .ok (.goto (-28), 3) := by decide +kernel
theorem dX9_counting_35 : decode cX9_counting 35 = .ok (.iload_n 1, 1) := by decide +kernel
theorem dX9_counting_36 : decode cX9_counting 36 = .ok (.ireturn, 1) := by decide +kernel
theorem dJ6_bitCount_0f7a4_0 : decode cJ6_bitCount_0f7a4 0 = .ok (.iload_n 0, 1) := by decide +kernel
theorem dJ6_bitCount_0f7a4_1 : decode cJ6_bitCount_0f7a4 1 = .ok (.iload_n 0, 1) := by decide +kernel
theorem dJ6_bitCount_0f7a4_2 : decode cJ6_bitCount_0f7a4 2 = .ok (.iconst 1, 1) := by decide +kernel
theorem dJ6_bitCount_0f7a4_3 : decode cJ6_bitCount_0f7a4 3 = .ok (.iushr, 1) := by decide +kernel
theorem dJ6_bitCount_0f7a4_4 : decode cJ6_bitCount_0f7a4 4 = .ok (.ldc_w 265, 3) := by decide +kernel
theorem dJ6_bitCount_0f7a4_7 : decode cJ6_bitCount_0f7a4 7 = .ok (.iand, 1) := by decide +kernel
theorem dJ6_bitCount_0f7a4_8 : decode cJ6_bitCount_0f7a4 8 = .ok (.isub, 1) := by decide +kernel
theorem dJ6_bitCount_0f7a4_9 : decode cJ6_bitCount_0f7a4 9 = .ok (.istore_n 0, 1) := by decide +kernel
theorem dJ6_bitCount_0f7a4_10 : decode cJ6_bitCount_0f7a4 10 = .ok (.iload_n 0, 1) := by decide +kernel
theorem dJ6_bitCount_0f7a4_11 : decode cJ6_bitCount_0f7a4 11 = .ok (.ldc_w 266, 3) := by decide +kernel
theorem dJ6_bitCount_0f7a4_14 : decode cJ6_bitCount_0f7a4 14 = .ok (.iand, 1) := by decide +kernel
theorem dJ6_bitCount_0f7a4_15 : decode cJ6_bitCount_0f7a4 15 = .ok (.iload_n 0, 1) := by decide +kernel
theorem dJ6_bitCount_0f7a4_16 : decode cJ6_bitCount_0f7a4 16 = .ok (.iconst 2, 1) := by decide +kernel
theorem dJ6_bitCount_0f7a4_17 : decode cJ6_bitCount_0f7a4 17 = .ok (.iushr, 1) := by decide +kernel
theorem dJ6_bitCount_0f7a4_18 : decode cJ6_bitCount_0f7a4 18 = .ok (.ldc_w 266, 3) := by decide +kernel
theorem dJ6_bitCount_0f7a4_21 : decode cJ6_bitCount_0f7a4 21 = .ok (.iand, 1) := by decide +kernel
theorem dJ6_bitCount_0f7a4_22 : decode cJ6_bitCount_0f7a4 22 = .ok (.iadd, 1) := by decide +kernel
theorem dJ6_bitCount_0f7a4_23 : decode cJ6_bitCount_0f7a4 23 = .ok (.istore_n 0, 1) := by decide +kernel
theorem dJ6_bitCount_0f7a4_24 : decode cJ6_bitCount_0f7a4 24 = .ok (.iload_n 0, 1) := by decide +kernel
theorem dJ6_bitCount_0f7a4_25 : decode cJ6_bitCount_0f7a4 25 = .ok (.iload_n 0, 1) := by decide +kernel
theorem dJ6_bitCount_0f7a4_26 : decode cJ6_bitCount_0f7a4 26 = .ok (.iconst 4, 1) := by decide +kernel
theorem dJ6_bitCount_0f7a4_27 : decode cJ6_bitCount_0f7a4 27 = .ok (.iushr, 1) := by decide +kernel
theorem dJ6_bitCount_0f7a4_28 : decode cJ6_bitCount_0f7a4 28 = .ok (.iadd, 1) := by decide +kernel
theorem dJ6_bitCount_0f7a4_29 : decode cJ6_bitCount_0f7a4 29 = .ok (.ldc_w 267, 3) := by decide +kernel
theorem dJ6_bitCount_0f7a4_32 : decode cJ6_bitCount_0f7a4 32 = .ok (.iand, 1) := by decide +kernel
theorem dJ6_bitCount_0f7a4_33 : decode cJ6_bitCount_0f7a4 33 = .ok (.istore_n 0, 1) := by decide +kernel
theorem dJ6_bitCount_0f7a4_34 : decode cJ6_bitCount_0f7a4 34 = .ok (.iload_n 0, 1) := by decide +kernel
theorem dJ6_bitCount_0f7a4_35 : decode cJ6_bitCount_0f7a4 35 = .ok (.iload_n 0, 1) := by decide +kernel
theorem dJ6_bitCount_0f7a4_36 : decode cJ6_bitCount_0f7a4 36 = .ok (.bipush 8, 2) := by decide +kernel
theorem dJ6_bitCount_0f7a4_38 : decode cJ6_bitCount_0f7a4 38 = .ok (.iushr, 1) := by decide +kernel
theorem dJ6_bitCount_0f7a4_39 : decode cJ6_bitCount_0f7a4 39 = .ok (.iadd, 1) := by decide +kernel
theorem dJ6_bitCount_0f7a4_40 : decode cJ6_bitCount_0f7a4 40 = .ok (.istore_n 0, 1) := by decide +kernel
theorem dJ6_bitCount_0f7a4_41 : decode cJ6_bitCount_0f7a4 41 = .ok (.iload_n 0, 1) := by decide +kernel
theorem dJ6_bitCount_0f7a4_42 : decode cJ6_bitCount_0f7a4 42 = .ok (.iload_n 0, 1) := by decide +kernel
theorem dJ6_bitCount_0f7a4_43 : decode cJ6_bitCount_0f7a4 43 = .ok (.bipush 16, 2) := by decide +kernel
theorem dJ6_bitCount_0f7a4_45 : decode cJ6_bitCount_0f7a4 45 = .ok (.iushr, 1) := by decide +kernel
theorem dJ6_bitCount_0f7a4_46 : decode cJ6_bitCount_0f7a4 46 = .ok (.iadd, 1) := by decide +kernel
theorem dJ6_bitCount_0f7a4_47 : decode cJ6_bitCount_0f7a4 47 = .ok (.istore_n 0, 1) := by decide +kernel
theorem dJ6_bitCount_0f7a4_48 : decode cJ6_bitCount_0f7a4 48 = .ok (.iload_n 0, 1) := by decide +kernel
theorem dJ6_bitCount_0f7a4_49 : decode cJ6_bitCount_0f7a4 49 = .ok (.bipush 63, 2) := by decide +kernel
theorem dJ6_bitCount_0f7a4_51 : decode cJ6_bitCount_0f7a4 51 = .ok (.iand, 1) := by decide +kernel
theorem dJ6_bitCount_0f7a4_52 : decode cJ6_bitCount_0f7a4 52 = .ok (.ireturn, 1) := by decide +kernel
theorem dJ9_abs_0f7a4_0 : decode cJ9_abs_0f7a4 0 = .ok (.iload_n 0, 1) := by decide +kernel
theorem dJ9_abs_0f7a4_1 : decode cJ9_abs_0f7a4 1 = .ok (.ifCond .ge 8, 3) := by decide +kernel
theorem dJ9_abs_0f7a4_4 : decode cJ9_abs_0f7a4 4 = .ok (.iload_n 0, 1) := by decide +kernel
theorem dJ9_abs_0f7a4_5 : decode cJ9_abs_0f7a4 5 = .ok (.ineg, 1) := by decide +kernel
theorem dJ9_abs_0f7a4_6 : decode cJ9_abs_0f7a4 6 = .ok (.goto 4, 3) := by decide +kernel
theorem dJ9_abs_0f7a4_9 : decode cJ9_abs_0f7a4 9 = .ok (.iload_n 0, 1) := by decide +kernel
theorem dJ9_abs_0f7a4_10 : decode cJ9_abs_0f7a4 10 = .ok (.ireturn, 1) := by decide +kernel
theorem dJ9_max_7cf53_0 : decode cJ9_max_7cf53 0 = .ok (.iload_n 0, 1) := by decide +kernel
theorem dJ9_max_7cf53_1 : decode cJ9_max_7cf53 1 = .ok (.iload_n 1, 1) := by decide +kernel
theorem dJ9_max_7cf53_2 : decode cJ9_max_7cf53 2 = .ok (.if_icmp .lt 7, 3) := by decide +kernel
theorem dJ9_max_7cf53_5 : decode cJ9_max_7cf53 5 = .ok (.iload_n 0, 1) := by decide +kernel
theorem dJ9_max_7cf53_6 : decode cJ9_max_7cf53 6 = .ok (.goto 4, 3) := by decide +kernel
theorem dJ9_max_7cf53_9 : decode cJ9_max_7cf53 9 = .ok (.iload_n 1, 1) := by decide +kernel
theorem dJ9_max_7cf53_10 : decode cJ9_max_7cf53 10 = .ok (.ireturn, 1) := by decide +kernel
theorem dJ9_max_f86c9_0 : decode cJ9_max_f86c9 0 = .ok (.lload_n 0, 1) := by decide +kernel
theorem dJ9_max_f86c9_1 : decode cJ9_max_f86c9 1 = .ok (.lload_n 2, 1) := by decide +kernel
theorem dJ9_max_f86c9_2 : decode cJ9_max_f86c9 2 = .ok (.lcmp, 1) := by decide +kernel
theorem dJ9_max_f86c9_3 : decode cJ9_max_f86c9 3 = .ok (.ifCond .lt 7, 3) := by decide +kernel
theorem dJ9_max_f86c9_6 : decode cJ9_max_f86c9 6 = .ok (.lload_n 0, 1) := by decide +kernel
theorem dJ9_max_f86c9_7 : decode cJ9_max_f86c9 7 = .ok (.goto 4, 3) := by decide +kernel
theorem dJ9_max_f86c9_10 : decode cJ9_max_f86c9 10 = .ok (.lload_n 2, 1) := by decide +kernel
theorem dJ9_max_f86c9_11 : decode cJ9_max_f86c9 11 = .ok (.lreturn, 1) := by decide +kernel
theorem dJ9_min_7cf53_0 : decode cJ9_min_7cf53 0 = .ok (.iload_n 0, 1) := by decide +kernel
theorem dJ9_min_7cf53_1 : decode cJ9_min_7cf53 1 = .ok (.iload_n 1, 1) := by decide +kernel
theorem dJ9_min_7cf53_2 : decode cJ9_min_7cf53 2 = .ok (.if_icmp .gt 7, 3) := by decide +kernel
theorem dJ9_min_7cf53_5 : decode cJ9_min_7cf53 5 = .ok (.iload_n 0, 1) := by decide +kernel
theorem dJ9_min_7cf53_6 : decode cJ9_min_7cf53 6 = .ok (.goto 4, 3) := by decide +kernel
theorem dJ9_min_7cf53_9 : decode cJ9_min_7cf53 9 = .ok (.iload_n 1, 1) := by decide +kernel
theorem dJ9_min_7cf53_10 : decode cJ9_min_7cf53 10 = .ok (.ireturn, 1) := by decide +kernel
theorem dJ7_fill_d0a16_0 : decode cJ7_fill_d0a16 0 = .ok (.iconst 0, 1) := by decide +kernel
theorem dJ7_fill_d0a16_1 : decode cJ7_fill_d0a16 1 = .ok (.istore_n 3, 1) := by decide +kernel
theorem dJ7_fill_d0a16_2 : decode cJ7_fill_d0a16 2 = .ok (.aload_n 0, 1) := by decide +kernel
theorem dJ7_fill_d0a16_3 : decode cJ7_fill_d0a16 3 = .ok (.arraylength, 1) := by decide +kernel
theorem dJ7_fill_d0a16_4 : decode cJ7_fill_d0a16 4 = .ok (.istore 4, 2) := by decide +kernel
theorem dJ7_fill_d0a16_6 : decode cJ7_fill_d0a16 6 = .ok (.iload_n 3, 1) := by decide +kernel
theorem dJ7_fill_d0a16_7 : decode cJ7_fill_d0a16 7 = .ok (.iload 4, 2) := by decide +kernel
theorem dJ7_fill_d0a16_9 : decode cJ7_fill_d0a16 9 = .ok (.if_icmp .ge 13, 3) := by decide +kernel
theorem dJ7_fill_d0a16_12 : decode cJ7_fill_d0a16 12 = .ok (.aload_n 0, 1) := by decide +kernel
theorem dJ7_fill_d0a16_13 : decode cJ7_fill_d0a16 13 = .ok (.iload_n 3, 1) := by decide +kernel
theorem dJ7_fill_d0a16_14 : decode cJ7_fill_d0a16 14 = .ok (.lload_n 1, 1) := by decide +kernel
theorem dJ7_fill_d0a16_15 : decode cJ7_fill_d0a16 15 = .ok (.lastore, 1) := by decide +kernel
theorem dJ7_fill_d0a16_16 : decode cJ7_fill_d0a16 16 = .ok (.iinc 3 1, 3) := by decide +kernel
theorem dJ7_fill_d0a16_19 : decode cJ7_fill_d0a16 19 = .ok (.goto (-13), 3) := by decide +kernel
theorem dJ7_fill_d0a16_22 : decode cJ7_fill_d0a16 22 = .ok (.return_, 1) := by decide +kernel
theorem dJ7_fill_53178_0 : decode cJ7_fill_53178 0 = .ok (.iconst 0, 1) := by decide +kernel
theorem dJ7_fill_53178_1 : decode cJ7_fill_53178 1 = .ok (.istore_n 2, 1) := by decide +kernel
theorem dJ7_fill_53178_2 : decode cJ7_fill_53178 2 = .ok (.aload_n 0, 1) := by decide +kernel
theorem dJ7_fill_53178_3 : decode cJ7_fill_53178 3 = .ok (.arraylength, 1) := by decide +kernel
theorem dJ7_fill_53178_4 : decode cJ7_fill_53178 4 = .ok (.istore_n 3, 1) := by decide +kernel
theorem dJ7_fill_53178_5 : decode cJ7_fill_53178 5 = .ok (.iload_n 2, 1) := by decide +kernel
theorem dJ7_fill_53178_6 : decode cJ7_fill_53178 6 = .ok (.iload_n 3, 1) := by decide +kernel
theorem dJ7_fill_53178_7 : decode cJ7_fill_53178 7 = .ok (.if_icmp .ge 13, 3) := by decide +kernel
theorem dJ7_fill_53178_10 : decode cJ7_fill_53178 10 = .ok (.aload_n 0, 1) := by decide +kernel
theorem dJ7_fill_53178_11 : decode cJ7_fill_53178 11 = .ok (.iload_n 2, 1) := by decide +kernel
theorem dJ7_fill_53178_12 : decode cJ7_fill_53178 12 = .ok (.iload_n 1, 1) := by decide +kernel
theorem dJ7_fill_53178_13 : decode cJ7_fill_53178 13 = .ok (.iastore, 1) := by decide +kernel
theorem dJ7_fill_53178_14 : decode cJ7_fill_53178 14 = .ok (.iinc 2 1, 3) := by decide +kernel
theorem dJ7_fill_53178_17 : decode cJ7_fill_53178 17 = .ok (.goto (-12), 3) := by decide +kernel
theorem dJ7_fill_53178_20 : decode cJ7_fill_53178 20 = .ok (.return_, 1) := by decide +kernel
