set_option maxRecDepth 20000 in
theorem ggX10_init_X4_init : GoodIn wsX10_init wsX4_init := goodIn_r _ [45, 46, 2, 3, 47, 48, 49, 50, 123, 124, 125] rfl (by decide +kernel)
set_option maxRecDepth 20000 in
theorem gX10_init_X4_init_n11 : GoodIn wsX10_init (wsX4_init) := ggX10_init_X4_init
set_option maxRecDepth 20000 in
theorem ggX10_init_X8_init : GoodIn wsX10_init wsX8_init := goodIn_r _ [52, 53, 2, 3, 47, 54, 55, 136, 137] rfl (by decide +kernel)
set_option maxRecDepth 20000 in
theorem gX10_init_X8_init_n18 : GoodIn wsX10_init (wsX8_init) := ggX10_init_X8_init
set_option maxRecDepth 20000 in
theorem ggX10_init_X9_init : GoodIn wsX10_init wsX9_init := goodIn_r _ [57, 58, 2, 3, 47, 59, 60, 61, 62, 63, 64, 138, 139, 140, 141, 142] rfl (by decide +kernel)
set_option maxRecDepth 20000 in
theorem gX10_init_X9_init_n25 : GoodIn wsX10_init (wsX9_init) := ggX10_init_X9_init
set_option maxRecDepth 20000 in
theorem ggX10_init_X3_init : GoodIn wsX10_init wsX3_init := goodIn_r _ [66, 67, 2, 3, 47, 68, 69, 70, 71, 62, 72, 73, 143, 144, 145, 146, 147, 148] rfl (by decide +kernel)
set_option maxRecDepth 20000 in
theorem gX10_init_X3_init_n32 : GoodIn wsX10_init (wsX3_init) := ggX10_init_X3_init
set_option maxRecDepth 20000 in
theorem ggX10_init_X2_init : GoodIn wsX10_init wsX2_init := goodIn_r _ [75, 76, 2, 3, 47, 77, 78, 79, 80, 81, 82, 83, 84, 85, 86, 87, 88, 89, 149, 150, 151, 152, 153, 154, 155, 156, 157, 158, 159, 160, 161] rfl (by decide +kernel)
set_option maxRecDepth 20000 in
theorem gX10_init_X2_init_n39 : GoodIn wsX10_init (wsX2_init) := ggX10_init_X2_init
set_option maxRecDepth 20000 in
theorem ggX10_init_X7_init : GoodIn wsX10_init wsX7_init := goodIn_r _ [91, 92, 2, 3, 47, 93, 94, 95, 96, 97, 98, 162, 163, 164, 165] rfl (by decide +kernel)
set_option maxRecDepth 20000 in
theorem gX10_init_X7_init_n46 : GoodIn wsX10_init (wsX7_init) := ggX10_init_X7_init
set_option maxRecDepth 20000 in
theorem ggX10_init_X5_init : GoodIn wsX10_init wsX5_init := goodIn_r _ [100, 101, 2, 3, 47, 102, 103, 104, 105, 166, 167, 168, 169] rfl (by decide +kernel)
set_option maxRecDepth 20000 in
theorem gX10_init_X5_init_n53 : GoodIn wsX10_init (wsX5_init) := ggX10_init_X5_init
set_option maxRecDepth 20000 in
theorem ggX10_init_X6_init : GoodIn wsX10_init wsX6_init := goodIn_r _ [107, 108, 2, 3, 95, 109, 110, 170, 171] rfl (by decide +kernel)
set_option maxRecDepth 20000 in
theorem gX10_init_X6_init_n60 : GoodIn wsX10_init (wsX6_init) := ggX10_init_X6_init
set_option maxRecDepth 20000 in
theorem ggX10_init_X0_init : GoodIn wsX10_init wsX0_init := goodIn_r _ [112, 113, 2, 3, 95, 114, 115, 172, 173] rfl (by decide +kernel)
set_option maxRecDepth 20000 in
theorem gX10_init_X0_init_n67 : GoodIn wsX10_init (wsX0_init) := ggX10_init_X0_init
set_option maxRecDepth 20000 in
theorem ggX10_init_X1_init : GoodIn wsX10_init wsX1_init := goodIn_r _ [117, 118, 2, 3, 47, 119, 120, 121, 122, 174, 175, 176, 177] rfl (by decide +kernel)
set_option maxRecDepth 20000 in
theorem gX10_init_X1_init_n74 : GoodIn wsX10_init (wsX1_init) := ggX10_init_X1_init
theorem dX10_init_0 : decode cX10_init 0 = .ok (.aload_n 0, 1) := by decide +kernel
theorem dX10_init_1 : decode cX10_init 1 = .ok (.invokespecial 3, 3) := by decide +kernel
theorem dX10_init_4 : decode cX10_init 4 = .ok (.aload_n 0, 1) := by decide +kernel
theorem dX10_init_5 : decode cX10_init 5 = .ok (.new 9, 3) := by decide +kernel
theorem dX10_init_8 : decode cX10_init 8 = .ok (.dup, 1) := by decide +kernel
theorem dX10_init_9 : decode cX10_init 9 = .ok (.invokespecial 11, 3) := by decide +kernel
theorem dX10_init_12 : decode cX10_init 12 = .ok (.putfield 12, 3) := by decide +kernel
theorem dX10_init_15 : decode cX10_init 15 = .ok (.aload_n 0, 1) := by decide +kernel
theorem dX10_init_16 : decode cX10_init 16 = .ok (.new 16, 3) := by decide +kernel
theorem dX10_init_19 : decode cX10_init 19 = .ok (.dup, 1) := by decide +kernel
theorem dX10_init_20 : decode cX10_init 20 = .ok (.invokespecial 18, 3) := by decide +kernel
theorem dX10_init_23 : decode cX10_init 23 = .ok (.putfield 19, 3) := by decide +kernel
theorem dX10_init_26 : decode cX10_init 26 = .ok (.aload_n 0, 1) := by decide +kernel
theorem dX10_init_27 : decode cX10_init 27 = .ok (.new 23, 3) := by decide +kernel
theorem dX10_init_30 : decode cX10_init 30 = .ok (.dup, 1) := by decide +kernel
theorem dX10_init_31 : decode cX10_init 31 = .ok (.invokespecial 25, 3) := by decide +kernel
theorem dX10_init_34 : decode cX10_init 34 = .ok (.putfield 26, 3) := by decide +kernel
theorem dX10_init_37 : decode cX10_init 37 = .ok (.aload_n 0, 1) := by decide +kernel
theorem dX10_init_38 : decode cX10_init 38 = .ok (.new 30, 3) := by decide +kernel
theorem dX10_init_41 : decode cX10_init 41 = .ok (.dup, 1) := by decide +kernel
theorem dX10_init_42 : decode cX10_init 42 = .ok (.invokespecial 32, 3) := by decide +kernel
theorem dX10_init_45 : decode cX10_init 45 = .ok (.putfield 33, 3) := by decide +kernel
theorem dX10_init_48 : decode cX10_init 48 = .ok (.aload_n 0, 1) := by decide +kernel
theorem dX10_init_49 : decode cX10_init 49 = .ok (.new 37, 3) := by decide +kernel
theorem dX10_init_52 : decode cX10_init 52 = .ok (.dup, 1) := by decide +kernel
theorem dX10_init_53 : decode cX10_init 53 = .ok (.invokespecial 39, 3) := by decide +kernel
theorem dX10_init_56 : decode cX10_init 56 = .ok (.putfield 40, 3) := by decide +kernel
theorem dX10_init_59 : decode cX10_init 59 = .ok (.aload_n 0, 1) := by decide +kernel
theorem dX10_init_60 : decode cX10_init 60 = .ok (.new 44, 3) := by decide +kernel
theorem dX10_init_63 : decode cX10_init 63 = .ok (.dup, 1) := by decide +kernel
theorem dX10_init_64 : decode cX10_init 64 = .ok (.invokespecial 46, 3) := by decide +kernel
theorem dX10_init_67 : decode cX10_init 67 = .ok (.putfield 47, 3) := by decide +kernel
theorem dX10_init_70 : decode cX10_init 70 = .ok (.aload_n 0, 1) := by decide +kernel
theorem dX10_init_71 : decode cX10_init 71 = .ok (.new 51, 3) := by decide +kernel
theorem dX10_init_74 : decode cX10_init 74 = .ok (.dup, 1) := by decide +kernel
theorem dX10_init_75 : decode cX10_init 75 = .ok (.invokespecial 53, 3) := by decide +kernel
theorem dX10_init_78 : decode cX10_init 78 = .ok (.putfield 54, 3) := by decide +kernel
theorem dX10_init_81 : decode cX10_init 81 = .ok (.aload_n 0, 1) := by decide +kernel
theorem dX10_init_82 : decode cX10_init 82 = .ok (.new 58, 3) := by decide +kernel
theorem dX10_init_85 : decode cX10_init 85 = .ok (.dup, 1) := by decide +kernel
theorem dX10_init_86 : decode cX10_init 86 = .ok (.invokespecial 60, 3) := by decide +kernel
theorem dX10_init_89 : decode cX10_init 89 = .ok (.putfield 61, 3) := by decide +kernel
theorem dX10_init_92 : decode cX10_init 92 = .ok (.aload_n 0, 1) := by decide +kernel
theorem dX10_init_93 : decode cX10_init 93 = .ok (.new 65, 3) := by decide +kernel
theorem dX10_init_96 : decode cX10_init 96 = .ok (.dup, 1) := by decide +kernel
theorem dX10_init_97 : decode cX10_init 97 = .ok (.invokespecial 67, 3) := by decide +kernel
theorem dX10_init_100 : decode cX10_init 100 = .ok (.putfield 68, 3) := by decide +kernel
theorem dX10_init_103 : decode cX10_init 103 = .ok (.aload_n 0, 1) := by decide +kernel
theorem dX10_init_104 : decode cX10_init 104 = .ok (.new 72, 3) := by decide +kernel
theorem dX10_init_107 : decode cX10_init 107 = .ok (.dup, 1) := by decide +kernel
theorem dX10_init_108 : decode cX10_init 108 = .ok (.invokespecial 74, 3) := by decide +kernel
theorem dX10_init_111 : decode cX10_init 111 = .ok (.putfield 75, 3) := by decide +kernel
theorem dX10_init_114 : decode cX10_init 114 = .ok (.return_, 1) := by decide +kernel
set_option maxRecDepth 20000 in
theorem ggX10_kind_X10_within : GoodIn wsX10_kind wsX10_within := goodIn_r _ [5] rfl (by decide +kernel)
set_option maxRecDepth 20000 in
theorem gX10_kind_X10_within : GoodIn wsX10_kind (va_wsS RX10 79 yX10_within wsX10_within) := goodIn_app (goodIn_of _ (by decide +kernel)) ggX10_kind_X10_within
set_option maxRecDepth 20000 in
theorem ggX10_kind_X4_add : GoodIn wsX10_kind wsX4_add := goodIn_r _ [9, 10, 11, 12, 23, 24, 25] rfl (by decide +kernel)
set_option maxRecDepth 20000 in
theorem gX10_kind_X4_add_n87 : GoodIn wsX10_kind (wsX4_add) := ggX10_kind_X4_add
theorem dX10_kind_0 : decode cX10_kind 0 = .ok (.iload_n 1, 1) := by decide +kernel
theorem dX10_kind_1 : decode cX10_kind 1 = .ok (.iconst 1, 1) := by decide +kernel
theorem dX10_kind_2 : decode cX10_kind 2 = .ok (.sipush 2000, 3) := by decide +kernel
theorem dX10_kind_5 : decode cX10_kind 5 = .ok (.invokestatic 79, 3) := by decide +kernel
theorem dX10_kind_8 : decode cX10_kind 8 = .ok (.ifCond .eq 14, 3) := by decide +kernel
theorem dX10_kind_11 : decode cX10_kind 11 = .ok (.iload_n 2, 1) := by decide +kernel
theorem dX10_kind_12 : decode cX10_kind 12 = .ok (.iload_n 1, 1) := by decide +kernel
theorem dX10_kind_13 : decode cX10_kind 13 = .ok (.sipush 2000, 3) := by decide +kernel
theorem dX10_kind_16 : decode cX10_kind 16 = .ok (.invokestatic 79, 3) := by decide +kernel
theorem dX10_kind_19 : decode cX10_kind 19 = .ok (.ifCond .ne 6, 3) := by decide +kernel
theorem dX10_kind_22 : decode cX10_kind 22 = .ok (.bipush (-2), 2) := by decide +kernel
theorem dX10_kind_24 : decode cX10_kind 24 = .ok (.ireturn, 1) := by decide +kernel
theorem dX10_kind_25 : decode cX10_kind 25 = .ok (.aload_n 0, 1) := by decide +kernel
theorem dX10_kind_26 : decode cX10_kind 26 = .ok (.getfield 12, 3) := by decide +kernel
theorem dX10_kind_29 : decode cX10_kind 29 = .ok (.getfield 83, 3) := by decide +kernel
theorem dX10_kind_32 : decode cX10_kind 32 = .ok (.bipush 6, 2) := by decide +kernel
theorem dX10_kind_34 : decode cX10_kind 34 = .ok (.if_icmp .lt 8, 3) := by decide +kernel
theorem dX10_kind_37 : decode cX10_kind 37 = .ok (.bipush (-4), 2) := by decide +kernel
theorem dX10_kind_39 : decode cX10_kind 39 = .ok (.goto 12, 3) := by decide +kernel
theorem dX10_kind_42 : decode cX10_kind 42 = .ok (.aload_n 0, 1) := by decide +kernel
theorem dX10_kind_43 : decode cX10_kind 43 = .ok (.getfield 12, 3) := by decide +kernel
theorem dX10_kind_46 : decode cX10_kind 46 = .ok (.iload_n 1, 1) := by decide +kernel
theorem dX10_kind_47 : decode cX10_kind 47 = .ok (.iload_n 2, 1) := by decide +kernel
theorem dX10_kind_48 : decode cX10_kind 48 = .ok (.invokevirtual 87, 3) := by decide +kernel
theorem dX10_kind_51 : decode cX10_kind 51 = .ok (.ireturn, 1) := by decide +kernel
set_option maxRecDepth 20000 in
theorem ggX10_book_X10_isCell : GoodIn wsX10_book wsX10_isCell := goodIn_r _ [6, 7, 8, 9, 5, 10, 11, 12, 13, 14, 15, 16, 17, 18, 27, 28, 29, 30, 31, 32, 33, 34, 35, 36, 37, 38, 39] rfl (by decide +kernel)
set_option maxRecDepth 20000 in
theorem gX10_book_X10_isCell : GoodIn wsX10_book (wsV RX10 91 RX10 yX10_isCell wsX10_isCell) := goodIn_app (goodIn_of _ (by decide +kernel)) ggX10_book_X10_isCell
set_option maxRecDepth 20000 in
theorem ggX10_book_X10_within : GoodIn wsX10_book wsX10_within := goodIn_r _ [13] rfl (by decide +kernel)
set_option maxRecDepth 20000 in
theorem gX10_book_X10_within : GoodIn wsX10_book (va_wsS RX10 79 yX10_within wsX10_within) := goodIn_app (goodIn_of _ (by decide +kernel)) ggX10_book_X10_within
set_option maxRecDepth 20000 in
theorem ggX10_book_X10_cell : GoodIn wsX10_book wsX10_cell := goodIn_r _ [21] rfl (by decide +kernel)
set_option maxRecDepth 20000 in
theorem gX10_book_X10_cell : GoodIn wsX10_book (va_wsS RX10 95 yX10_cell wsX10_cell) := goodIn_app (goodIn_of _ (by decide +kernel)) ggX10_book_X10_cell
set_option maxRecDepth 20000 in
theorem ggX10_book_X8_setBooked : GoodIn wsX10_book wsX8_setBooked := goodIn_r _ [25, 26, 40, 41] rfl (by decide +kernel)
set_option maxRecDepth 20000 in
theorem gX10_book_X8_setBooked_n98 : GoodIn wsX10_book (wsX8_setBooked) := ggX10_book_X8_setBooked
theorem dX10_book_0 : decode cX10_book 0 = .ok (.aload_n 0, 1) := by decide +kernel
theorem dX10_book_1 : decode cX10_book 1 = .ok (.iload_n 1, 1) := by decide +kernel
theorem dX10_book_2 : decode cX10_book 2 = .ok (.iload_n 2, 1) := by decide +kernel
theorem dX10_book_3 : decode cX10_book 3 = .ok (.invokevirtual 91, 3) := by decide +kernel
theorem dX10_book_6 : decode cX10_book 6 = .ok (.ifCond .ne 5, 3) := by decide +kernel
theorem dX10_book_9 : decode cX10_book 9 = .ok (.iconst (-1), 1) := by decide +kernel
theorem dX10_book_10 : decode cX10_book 10 = .ok (.ireturn, 1) := by decide +kernel
theorem dX10_book_11 : decode cX10_book 11 = .ok (.iload_n 3, 1) := by decide +kernel
theorem dX10_book_12 : decode cX10_book 12 = .ok (.iconst 0, 1) := by decide +kernel
theorem dX10_book_13 : decode cX10_book 13 = .ok (.sipush 999, 3) := by decide +kernel
theorem dX10_book_16 : decode cX10_book 16 = .ok (.invokestatic 79, 3) := by decide +kernel
theorem dX10_book_19 : decode cX10_book 19 = .ok (.ifCond .eq 19, 3) := by decide +kernel
theorem dX10_book_22 : decode cX10_book 22 = .ok (.aload_n 0, 1) := by decide +kernel
theorem dX10_book_23 : decode cX10_book 23 = .ok (.getfield 19, 3) := by decide +kernel
theorem dX10_book_26 : decode cX10_book 26 = .ok (.iload_n 1, 1) := by decide +kernel
theorem dX10_book_27 : decode cX10_book 27 = .ok (.iload_n 2, 1) := by decide +kernel
theorem dX10_book_28 : decode cX10_book 28 = .ok (.invokestatic 95, 3) := by decide +kernel
theorem dX10_book_31 : decode cX10_book 31 = .ok (.iload_n 3, 1) := by decide +kernel
theorem dX10_book_32 : decode cX10_book 32 = .ok (.invokevirtual 98, 3) := by decide +kernel
theorem dX10_book_35 : decode cX10_book 35 = .ok (.goto 5, 3) := by decide +kernel
theorem dX10_book_38 : decode cX10_book 38 = .ok (.bipush (-2), 2) := by decide +kernel
theorem dX10_book_40 : decode cX10_book 40 = .ok (.ireturn, 1) := by decide +kernel
set_option maxRecDepth 20000 in
theorem ggX10_weigh_X10_isCell : GoodIn wsX10_weigh wsX10_isCell := goodIn_r _ [7, 2, 8, 9, 6, 10, 11, 12, 13, 14, 15, 16, 17, 18, 43, 44, 45, 46, 47, 48, 49, 50, 51, 52, 58, 59, 60] rfl (by decide +kernel)
set_option maxRecDepth 20000 in
theorem gX10_weigh_X10_isCell : GoodIn wsX10_weigh (wsV RX10 91 RX10 yX10_isCell wsX10_isCell) := goodIn_app (goodIn_of _ (by decide +kernel)) ggX10_weigh_X10_isCell
set_option maxRecDepth 20000 in
theorem ggX10_weigh_X10_isWeight : GoodIn wsX10_weigh wsX10_isWeight := goodIn_r _ [21, 22, 11, 12, 6, 13] rfl (by decide +kernel)
set_option maxRecDepth 20000 in
theorem gX10_weigh_X10_isWeight : GoodIn wsX10_weigh (va_wsS RX10 101 yX10_isWeight wsX10_isWeight) := goodIn_app (goodIn_of _ (by decide +kernel)) ggX10_weigh_X10_isWeight
set_option maxRecDepth 20000 in
theorem ggX10_weigh_X4_fewestReaching : GoodIn wsX10_weigh wsX4_fewestReaching := goodIn_r _ [25, 26, 58, 59, 60] rfl (by decide +kernel)
set_option maxRecDepth 20000 in
theorem gX10_weigh_X4_fewestReaching_n105 : GoodIn wsX10_weigh (wsX4_fewestReaching) := ggX10_weigh_X4_fewestReaching
set_option maxRecDepth 20000 in
theorem ggX10_weigh_X4_mostWithin : GoodIn wsX10_weigh wsX4_mostWithin := goodIn_r _ [29, 30, 58, 59, 60] rfl (by decide +kernel)
set_option maxRecDepth 20000 in
theorem gX10_weigh_X4_mostWithin_n108 : GoodIn wsX10_weigh (wsX4_mostWithin) := ggX10_weigh_X4_mostWithin
set_option maxRecDepth 20000 in
theorem ggX10_weigh_X10_cell : GoodIn wsX10_weigh wsX10_cell := goodIn_r _ [33] rfl (by decide +kernel)
set_option maxRecDepth 20000 in
theorem gX10_weigh_X10_cell : GoodIn wsX10_weigh (va_wsS RX10 95 yX10_cell wsX10_cell) := goodIn_app (goodIn_of _ (by decide +kernel)) ggX10_weigh_X10_cell
set_option maxRecDepth 20000 in
theorem ggX10_weigh_X9_add : GoodIn wsX10_weigh wsX9_add := goodIn_r _ [37, 38, 39, 40, 41, 42, 53, 54, 55, 56, 57] rfl (by decide +kernel)
set_option maxRecDepth 20000 in
theorem gX10_weigh_X9_add_n111 : GoodIn wsX10_weigh (wsX9_add) := ggX10_weigh_X9_add
theorem dX10_weigh_0 : decode cX10_weigh 0 = .ok (.aload_n 0, 1) := by decide +kernel
theorem dX10_weigh_1 : decode cX10_weigh 1 = .ok (.iload_n 1, 1) := by decide +kernel
theorem dX10_weigh_2 : decode cX10_weigh 2 = .ok (.iload_n 2, 1) := by decide +kernel
theorem dX10_weigh_3 : decode cX10_weigh 3 = .ok (.invokevirtual 91, 3) := by decide +kernel
theorem dX10_weigh_6 : decode cX10_weigh 6 = .ok (.ifCond .ne 5, 3) := by decide +kernel
theorem dX10_weigh_9 : decode cX10_weigh 9 = .ok (.iconst (-1), 1) := by decide +kernel
theorem dX10_weigh_10 : decode cX10_weigh 10 = .ok (.ireturn, 1) := by decide +kernel
theorem dX10_weigh_11 : decode cX10_weigh 11 = .ok (.iload_n 3, 1) := by decide +kernel
theorem dX10_weigh_12 : decode cX10_weigh 12 = .ok (.iload 4, 2) := by decide +kernel
theorem dX10_weigh_14 : decode cX10_weigh 14 = .ok (.invokestatic 101, 3) := by decide +kernel
theorem dX10_weigh_17 : decode cX10_weigh 17 = .ok (.ifCond .ne 6, 3) := by decide +kernel
theorem dX10_weigh_20 : decode cX10_weigh 20 = .ok (.bipush (-2), 2) := by decide +kernel
theorem dX10_weigh_22 : decode cX10_weigh 22 = .ok (.ireturn, 1) := by decide +kernel
theorem dX10_weigh_23 : decode cX10_weigh 23 = .ok (.aload_n 0, 1) := by decide +kernel
theorem dX10_weigh_24 : decode cX10_weigh 24 = .ok (.getfield 26, 3) := by decide +kernel
theorem dX10_weigh_27 : decode cX10_weigh 27 = .ok (.getfield 104, 3) := by decide +kernel
theorem dX10_weigh_30 : decode cX10_weigh 30 = .ok (.bipush 40, 2) := by decide +kernel
theorem dX10_weigh_32 : decode cX10_weigh 32 = .ok (.if_icmp .lt 6, 3) := by decide +kernel
theorem dX10_weigh_35 : decode cX10_weigh 35 = .ok (.bipush (-4), 2) := by decide +kernel
theorem dX10_weigh_37 : decode cX10_weigh 37 = .ok (.ireturn, 1) := by decide +kernel
theorem dX10_weigh_38 : decode cX10_weigh 38 = .ok (.aload_n 0, 1) := by decide +kernel
theorem dX10_weigh_39 : decode cX10_weigh 39 = .ok (.getfield 12, 3) := by decide +kernel
theorem dX10_weigh_42 : decode cX10_weigh 42 = .ok (.iload_n 2, 1) := by decide +kernel
theorem dX10_weigh_43 : decode cX10_weigh 43 = .ok (.iload_n 3, 1) := by decide +kernel
theorem dX10_weigh_44 : decode cX10_weigh 44 = .ok (.iload 4, 2) := by decide +kernel
theorem dX10_weigh_46 : decode cX10_weigh 46 = .ok (.isub, 1) := by decide +kernel
theorem dX10_weigh_47 : decode cX10_weigh 47 = .ok (.invokevirtual 105, 3) := by decide +kernel
theorem dX10_weigh_50 : decode cX10_weigh 50 = .ok (.istore 5, 2) := by decide +kernel
theorem dX10_weigh_52 : decode cX10_weigh 52 = .ok (.aload_n 0, 1) := by decide +kernel
theorem dX10_weigh_53 : decode cX10_weigh 53 = .ok (.getfield 12, 3) := by decide +kernel
theorem dX10_weigh_56 : decode cX10_weigh 56 = .ok (.iload_n 2, 1) := by decide +kernel
theorem dX10_weigh_57 : decode cX10_weigh 57 = .ok (.iload_n 3, 1) := by decide +kernel
theorem dX10_weigh_58 : decode cX10_weigh 58 = .ok (.iload 4, 2) := by decide +kernel
theorem dX10_weigh_60 : decode cX10_weigh 60 = .ok (.iadd, 1) := by decide +kernel
theorem dX10_weigh_61 : decode cX10_weigh 61 = .ok (.invokevirtual 108, 3) := by decide +kernel
theorem dX10_weigh_64 : decode cX10_weigh 64 = .ok (.istore 6, 2) := by decide +kernel
theorem dX10_weigh_66 : decode cX10_weigh 66 = .ok (.aload_n 0, 1) := by decide +kernel
theorem dX10_weigh_67 : decode cX10_weigh 67 = .ok (.getfield 26, 3) := by decide +kernel
theorem dX10_weigh_70 : decode cX10_weigh 70 = .ok (.iload_n 1, 1) := by decide +kernel
theorem dX10_weigh_71 : decode cX10_weigh 71 = .ok (.iload_n 2, 1) := by decide +kernel
theorem dX10_weigh_72 : decode cX10_weigh 72 = .ok (.invokestatic 95, 3) := by decide +kernel
theorem dX10_weigh_75 : decode cX10_weigh 75 = .ok (.iload 5, 2) := by decide +kernel
theorem dX10_weigh_77 : decode cX10_weigh 77 = .ok (.iload 6, 2) := by decide +kernel
theorem dX10_weigh_79 : decode cX10_weigh 79 = .ok (.invokevirtual 111, 3) := by decide +kernel
theorem dX10_weigh_82 : decode cX10_weigh 82 = .ok (.ireturn, 1) := by decide +kernel
set_option maxRecDepth 20000 in
theorem ggX10_drop_X10_within : GoodIn wsX10_drop wsX10_within := goodIn_r _ [5] rfl (by decide +kernel)
set_option maxRecDepth 20000 in
theorem gX10_drop_X10_within : GoodIn wsX10_drop (va_wsS RX10 79 yX10_within wsX10_within) := goodIn_app (goodIn_of _ (by decide +kernel)) ggX10_drop_X10_within
set_option maxRecDepth 20000 in
theorem ggX10_drop_X9_stop : GoodIn wsX10_drop wsX9_stop := goodIn_r _ [9, 10, 21, 22, 23, 24, 25] rfl (by decide +kernel)
set_option maxRecDepth 20000 in
theorem gX10_drop_X9_stop_n114 : GoodIn wsX10_drop (wsX9_stop) := ggX10_drop_X9_stop
theorem dX10_drop_0 : decode cX10_drop 0 = .ok (.iload_n 1, 1) := by decide +kernel
theorem dX10_drop_1 : decode cX10_drop 1 = .ok (.iconst 0, 1) := by decide +kernel
theorem dX10_drop_2 : decode cX10_drop 2 = .ok (.aload_n 0, 1) := by decide +kernel
theorem dX10_drop_3 : decode cX10_drop 3 = .ok (.getfield 26, 3) := by decide +kernel
theorem dX10_drop_6 : decode cX10_drop 6 = .ok (.getfield 104, 3) := by decide +kernel
theorem dX10_drop_9 : decode cX10_drop 9 = .ok (.iconst 1, 1) := by decide +kernel
theorem dX10_drop_10 : decode cX10_drop 10 = .ok (.isub, 1) := by decide +kernel
theorem dX10_drop_11 : decode cX10_drop 11 = .ok (.invokestatic 79, 3) := by decide +kernel
theorem dX10_drop_14 : decode cX10_drop 14 = .ok (.ifCond .ne 5, 3) := by decide +kernel
theorem dX10_drop_17 : decode cX10_drop 17 = .ok (.iconst (-1), 1) := by decide +kernel
theorem dX10_drop_18 : decode cX10_drop 18 = .ok (.ireturn, 1) := by decide +kernel
theorem dX10_drop_19 : decode cX10_drop 19 = .ok (.aload_n 0, 1) := by decide +kernel
theorem dX10_drop_20 : decode cX10_drop 20 = .ok (.getfield 26, 3) := by decide +kernel
theorem dX10_drop_23 : decode cX10_drop 23 = .ok (.iload_n 1, 1) := by decide +kernel
theorem dX10_drop_24 : decode cX10_drop 24 = .ok (.invokevirtual 114, 3) := by decide +kernel
theorem dX10_drop_27 : decode cX10_drop 27 = .ok (.ifCond .eq 7, 3) := by decide +kernel
theorem dX10_drop_30 : decode cX10_drop 30 = .ok (.iconst 1, 1) := by decide +kernel
theorem dX10_drop_31 : decode cX10_drop 31 = .ok (.goto 5, 3) := by decide +kernel
theorem dX10_drop_34 : decode cX10_drop 34 = .ok (.bipush (-3), 2) := by decide +kernel
theorem dX10_drop_36 : decode cX10_drop 36 = .ok (.ireturn, 1) := by decide +kernel
set_option maxRecDepth 20000 in
theorem ggX10_sure_X10_isCell : GoodIn wsX10_sure wsX10_isCell := goodIn_r _ [6, 7, 8, 9, 5, 10, 11, 12, 13, 14, 15, 16, 17, 18, 42, 43, 44, 45, 46, 47, 48, 49, 50, 51, 52, 53, 54] rfl (by decide +kernel)
set_option maxRecDepth 20000 in
theorem gX10_sure_X10_isCell : GoodIn wsX10_sure (wsV RX10 91 RX10 yX10_isCell wsX10_isCell) := goodIn_app (goodIn_of _ (by decide +kernel)) ggX10_sure_X10_isCell
set_option maxRecDepth 20000 in
theorem ggX10_sure_X10_cell : GoodIn wsX10_sure wsX10_cell := goodIn_r _ [21] rfl (by decide +kernel)
set_option maxRecDepth 20000 in
theorem gX10_sure_X10_cell : GoodIn wsX10_sure (va_wsS RX10 95 yX10_cell wsX10_cell) := goodIn_app (goodIn_of _ (by decide +kernel)) ggX10_sure_X10_cell
set_option maxRecDepth 20000 in
theorem ggX10_sure_X9_edge : GoodIn wsX10_sure wsX9_edge := goodIn_r _ [25, 26, 27, 28, 29, 30, 31, 32, 33, 34, 35, 36, 37, 38, 23, 39, 40, 41, 55, 56, 57, 58, 59] rfl (by decide +kernel)
set_option maxRecDepth 20000 in
theorem gX10_sure_X9_edge_n118 : GoodIn wsX10_sure (wsX9_edge) := ggX10_sure_X9_edge
theorem dX10_sure_0 : decode cX10_sure 0 = .ok (.aload_n 0, 1) := by decide +kernel
theorem dX10_sure_1 : decode cX10_sure 1 = .ok (.iload_n 1, 1) := by decide +kernel
theorem dX10_sure_2 : decode cX10_sure 2 = .ok (.iload_n 2, 1) := by decide +kernel
theorem dX10_sure_3 : decode cX10_sure 3 = .ok (.invokevirtual 91, 3) := by decide +kernel
theorem dX10_sure_6 : decode cX10_sure 6 = .ok (.ifCond .eq 19, 3) := by decide +kernel
theorem dX10_sure_9 : decode cX10_sure 9 = .ok (.aload_n 0, 1) := by decide +kernel
theorem dX10_sure_10 : decode cX10_sure 10 = .ok (.getfield 26, 3) := by decide +kernel
theorem dX10_sure_13 : decode cX10_sure 13 = .ok (.iload_n 1, 1) := by decide +kernel
theorem dX10_sure_14 : decode cX10_sure 14 = .ok (.iload_n 2, 1) := by decide +kernel
theorem dX10_sure_15 : decode cX10_sure 15 = .ok (.invokestatic 95, 3) := by decide +kernel
theorem dX10_sure_18 : decode cX10_sure 18 = .ok (.iload_n 3, 1) := by decide +kernel
theorem dX10_sure_19 : decode cX10_sure 19 = .ok (.invokevirtual 118, 3) := by decide +kernel
theorem dX10_sure_22 : decode cX10_sure 22 = .ok (.goto 4, 3) := by decide +kernel
theorem dX10_sure_25 : decode cX10_sure 25 = .ok (.iconst (-1), 1) := by decide +kernel
theorem dX10_sure_26 : decode cX10_sure 26 = .ok (.ireturn, 1) := by decide +kernel
set_option maxRecDepth 20000 in
theorem ggX10_quarrel_X10_isCell : GoodIn wsX10_quarrel wsX10_isCell := goodIn_r _ [6, 7, 8, 9, 5, 10, 11, 12, 13, 14, 15, 16, 17, 18, 42, 43, 44, 45, 46, 47, 48, 49, 50, 51, 52, 53, 54] rfl (by decide +kernel)
set_option maxRecDepth 20000 in
theorem gX10_quarrel_X10_isCell : GoodIn wsX10_quarrel (wsV RX10 91 RX10 yX10_isCell wsX10_isCell) := goodIn_app (goodIn_of _ (by decide +kernel)) ggX10_quarrel_X10_isCell
set_option maxRecDepth 20000 in
theorem ggX10_quarrel_X10_cell : GoodIn wsX10_quarrel wsX10_cell := goodIn_r _ [21] rfl (by decide +kernel)
set_option maxRecDepth 20000 in
theorem gX10_quarrel_X10_cell : GoodIn wsX10_quarrel (va_wsS RX10 95 yX10_cell wsX10_cell) := goodIn_app (goodIn_of _ (by decide +kernel)) ggX10_quarrel_X10_cell
set_option maxRecDepth 20000 in
theorem ggX10_quarrel_X9_firstAgainst : GoodIn wsX10_quarrel wsX9_firstAgainst := goodIn_r _ [25, 26, 27, 28, 29, 30, 31, 32, 33, 34, 35, 36, 37, 38, 23, 39, 40, 41, 55, 56, 57, 58, 59] rfl (by decide +kernel)
set_option maxRecDepth 20000 in
theorem gX10_quarrel_X9_firstAgainst_n122 : GoodIn wsX10_quarrel (wsX9_firstAgainst) := ggX10_quarrel_X9_firstAgainst
theorem dX10_quarrel_0 : decode cX10_quarrel 0 = .ok (.aload_n 0, 1) := by decide +kernel
theorem dX10_quarrel_1 : decode cX10_quarrel 1 = .ok (.iload_n 1, 1) := by decide +kernel
theorem dX10_quarrel_2 : decode cX10_quarrel 2 = .ok (.iload_n 2, 1) := by decide +kernel
theorem dX10_quarrel_3 : decode cX10_quarrel 3 = .ok (.invokevirtual 91, 3) := by decide +kernel
theorem dX10_quarrel_6 : decode cX10_quarrel 6 = .ok (.ifCond .eq 18, 3) := by decide +kernel
theorem dX10_quarrel_9 : decode cX10_quarrel 9 = .ok (.aload_n 0, 1) := by decide +kernel
theorem dX10_quarrel_10 : decode cX10_quarrel 10 = .ok (.getfield 26, 3) := by decide +kernel
theorem dX10_quarrel_13 : decode cX10_quarrel 13 = .ok (.iload_n 1, 1) := by decide +kernel
theorem dX10_quarrel_14 : decode cX10_quarrel 14 = .ok (.iload_n 2, 1) := by decide +kernel
theorem dX10_quarrel_15 : decode cX10_quarrel 15 = .ok (.invokestatic 95, 3) := by decide +kernel
theorem dX10_quarrel_18 : decode cX10_quarrel 18 = .ok (.invokevirtual 122, 3) := by decide +kernel
theorem dX10_quarrel_21 : decode cX10_quarrel 21 = .ok (.goto 4, 3) := by decide +kernel
theorem dX10_quarrel_24 : decode cX10_quarrel 24 = .ok (.iconst (-1), 1) := by decide +kernel
theorem dX10_quarrel_25 : decode cX10_quarrel 25 = .ok (.ireturn, 1) := by decide +kernel
set_option maxRecDepth 20000 in
theorem ggX10_tray_X10_trayRefusal : GoodIn wsX10_tray wsX10_trayRefusal := goodIn_r _ [6, 1, 7, 8, 9, 10, 11, 12, 5, 13, 14, 15, 16, 17, 18, 47, 48, 49, 50, 51, 52, 53, 54, 55, 56, 57, 58, 59] rfl (by decide +kernel)
set_option maxRecDepth 20000 in
theorem gX10_tray_X10_trayRefusal : GoodIn wsX10_tray (wsV RX10 126 RX10 yX10_trayRefusal wsX10_trayRefusal) := goodIn_app (goodIn_of _ (by decide +kernel)) ggX10_tray_X10_trayRefusal
set_option maxRecDepth 20000 in
theorem ggX10_tray_X4_pairsOn : GoodIn wsX10_tray wsX4_pairsOn := goodIn_r _ [21, 22, 23, 24, 25, 26, 27, 28, 8, 29, 30, 31, 32, 33, 34, 35, 36, 37, 38, 39, 40, 41, 42, 43, 44, 45, 46, 57, 58, 59] rfl (by decide +kernel)
set_option maxRecDepth 20000 in
theorem gX10_tray_X4_pairsOn_n130 : GoodIn wsX10_tray (wsX4_pairsOn) := ggX10_tray_X4_pairsOn
theorem dX10_tray_0 : decode cX10_tray 0 = .ok (.aload_n 0, 1) := by decide +kernel
theorem dX10_tray_1 : decode cX10_tray 1 = .ok (.iload_n 1, 1) := by decide +kernel
theorem dX10_tray_2 : decode cX10_tray 2 = .ok (.iload_n 2, 1) := by decide +kernel
theorem dX10_tray_3 : decode cX10_tray 3 = .ok (.iload_n 3, 1) := by decide +kernel
theorem dX10_tray_4 : decode cX10_tray 4 = .ok (.iload 4, 2) := by decide +kernel
theorem dX10_tray_6 : decode cX10_tray 6 = .ok (.invokevirtual 126, 3) := by decide +kernel
theorem dX10_tray_9 : decode cX10_tray 9 = .ok (.istore 5, 2) := by decide +kernel
theorem dX10_tray_11 : decode cX10_tray 11 = .ok (.iload 5, 2) := by decide +kernel
theorem dX10_tray_13 : decode cX10_tray 13 = .ok (.ifCond .eq 8, 3) := by decide +kernel
theorem dX10_tray_16 : decode cX10_tray 16 = .ok (.iload 5, 2) := by decide +kernel
theorem dX10_tray_18 : decode cX10_tray 18 = .ok (.goto 15, 3) := by decide +kernel
theorem dX10_tray_21 : decode cX10_tray 21 = .ok (.aload_n 0, 1) := by decide +kernel
theorem dX10_tray_22 : decode cX10_tray 22 = .ok (.getfield 12, 3) := by decide +kernel
theorem dX10_tray_25 : decode cX10_tray 25 = .ok (.iload_n 1, 1) := by decide +kernel
theorem dX10_tray_26 : decode cX10_tray 26 = .ok (.iload_n 2, 1) := by decide +kernel
theorem dX10_tray_27 : decode cX10_tray 27 = .ok (.iload_n 3, 1) := by decide +kernel
theorem dX10_tray_28 : decode cX10_tray 28 = .ok (.iload 4, 2) := by decide +kernel
theorem dX10_tray_30 : decode cX10_tray 30 = .ok (.invokevirtual 130, 3) := by decide +kernel
theorem dX10_tray_33 : decode cX10_tray 33 = .ok (.ireturn, 1) := by decide +kernel
set_option maxRecDepth 20000 in
theorem ggX10_trayPair_X10_trayRefusal : GoodIn wsX10_trayPair wsX10_trayRefusal := goodIn_r _ [6, 1, 7, 8, 9, 10, 11, 12, 5, 13, 14, 15, 16, 17, 18, 47, 48, 49, 50, 51, 52, 53, 54, 55, 56, 57, 58, 59] rfl (by decide +kernel)
set_option maxRecDepth 20000 in
theorem gX10_trayPair_X10_trayRefusal : GoodIn wsX10_trayPair (wsV RX10 126 RX10 yX10_trayRefusal wsX10_trayRefusal) := goodIn_app (goodIn_of _ (by decide +kernel)) ggX10_trayPair_X10_trayRefusal
set_option maxRecDepth 20000 in
theorem ggX10_trayPair_X4_pairAt : GoodIn wsX10_trayPair wsX4_pairAt := goodIn_r _ [21, 22, 23, 24, 25, 26, 27, 28, 8, 29, 30, 31, 32, 33, 34, 35, 36, 37, 38, 39, 40, 41, 42, 43, 44, 45, 46, 57, 58, 59] rfl (by decide +kernel)
set_option maxRecDepth 20000 in
theorem gX10_trayPair_X4_pairAt_n133 : GoodIn wsX10_trayPair (wsX4_pairAt) := ggX10_trayPair_X4_pairAt
theorem dX10_trayPair_0 : decode cX10_trayPair 0 = .ok (.aload_n 0, 1) := by decide +kernel
theorem dX10_trayPair_1 : decode cX10_trayPair 1 = .ok (.iload_n 1, 1) := by decide +kernel
theorem dX10_trayPair_2 : decode cX10_trayPair 2 = .ok (.iload_n 2, 1) := by decide +kernel
theorem dX10_trayPair_3 : decode cX10_trayPair 3 = .ok (.iload_n 3, 1) := by decide +kernel
theorem dX10_trayPair_4 : decode cX10_trayPair 4 = .ok (.iload 4, 2) := by decide +kernel
theorem dX10_trayPair_6 : decode cX10_trayPair 6 = .ok (.invokevirtual 126, 3) := by decide +kernel
theorem dX10_trayPair_9 : decode cX10_trayPair 9 = .ok (.istore 6, 2) := by decide +kernel
theorem dX10_trayPair_11 : decode cX10_trayPair 11 = .ok (.iload 6, 2) := by decide +kernel
theorem dX10_trayPair_13 : decode cX10_trayPair 13 = .ok (.ifCond .eq 8, 3) := by decide +kernel
theorem dX10_trayPair_16 : decode cX10_trayPair 16 = .ok (.iload 6, 2) := by decide +kernel
theorem dX10_trayPair_18 : decode cX10_trayPair 18 = .ok (.goto 17, 3) := by decide +kernel
theorem dX10_trayPair_21 : decode cX10_trayPair 21 = .ok (.aload_n 0, 1) := by decide +kernel
theorem dX10_trayPair_22 : decode cX10_trayPair 22 = .ok (.getfield 12, 3) := by decide +kernel
theorem dX10_trayPair_25 : decode cX10_trayPair 25 = .ok (.iload_n 1, 1) := by decide +kernel
theorem dX10_trayPair_26 : decode cX10_trayPair 26 = .ok (.iload_n 2, 1) := by decide +kernel
theorem dX10_trayPair_27 : decode cX10_trayPair 27 = .ok (.iload_n 3, 1) := by decide +kernel
theorem dX10_trayPair_28 : decode cX10_trayPair 28 = .ok (.iload 4, 2) := by decide +kernel
theorem dX10_trayPair_30 : decode cX10_trayPair 30 = .ok (.iload 5, 2) := by decide +kernel
theorem dX10_trayPair_32 : decode cX10_trayPair 32 = .ok (.invokevirtual 133, 3) := by decide +kernel
theorem dX10_trayPair_35 : decode cX10_trayPair 35 = .ok (.ireturn, 1) := by decide +kernel
set_option maxRecDepth 20000 in
theorem ggX10_ledger_X10_isCell : GoodIn wsX10_ledger wsX10_isCell := goodIn_r _ [6, 7, 8, 9, 5, 10, 11, 12, 13, 14, 15, 16, 17, 18, 27, 28, 29, 30, 31, 32, 33, 34, 35, 36, 37, 38, 39] rfl (by decide +kernel)
set_option maxRecDepth 20000 in
theorem gX10_ledger_X10_isCell : GoodIn wsX10_ledger (wsV RX10 91 RX10 yX10_isCell wsX10_isCell) := goodIn_app (goodIn_of _ (by decide +kernel)) ggX10_ledger_X10_isCell
set_option maxRecDepth 20000 in
theorem ggX10_ledger_X10_within : GoodIn wsX10_ledger wsX10_within := goodIn_r _ [13] rfl (by decide +kernel)
set_option maxRecDepth 20000 in
theorem gX10_ledger_X10_within : GoodIn wsX10_ledger (va_wsS RX10 79 yX10_within wsX10_within) := goodIn_app (goodIn_of _ (by decide +kernel)) ggX10_ledger_X10_within
set_option maxRecDepth 20000 in
theorem ggX10_ledger_X10_cell : GoodIn wsX10_ledger wsX10_cell := goodIn_r _ [21] rfl (by decide +kernel)
set_option maxRecDepth 20000 in
theorem gX10_ledger_X10_cell : GoodIn wsX10_ledger (va_wsS RX10 95 yX10_cell wsX10_cell) := goodIn_app (goodIn_of _ (by decide +kernel)) ggX10_ledger_X10_cell
set_option maxRecDepth 20000 in
theorem ggX10_ledger_X8_setParted : GoodIn wsX10_ledger wsX8_setParted := goodIn_r _ [25, 26, 40, 41] rfl (by decide +kernel)
set_option maxRecDepth 20000 in
theorem gX10_ledger_X8_setParted_n137 : GoodIn wsX10_ledger (wsX8_setParted) := ggX10_ledger_X8_setParted
theorem dX10_ledger_0 : decode cX10_ledger 0 = .ok (.aload_n 0, 1) := by decide +kernel
theorem dX10_ledger_1 : decode cX10_ledger 1 = .ok (.iload_n 1, 1) := by decide +kernel
theorem dX10_ledger_2 : decode cX10_ledger 2 = .ok (.iload_n 2, 1) := by decide +kernel
theorem dX10_ledger_3 : decode cX10_ledger 3 = .ok (.invokevirtual 91, 3) := by decide +kernel
theorem dX10_ledger_6 : decode cX10_ledger 6 = .ok (.ifCond .ne 5, 3) := by decide +kernel
theorem dX10_ledger_9 : decode cX10_ledger 9 = .ok (.iconst (-1), 1) := by decide +kernel
theorem dX10_ledger_10 : decode cX10_ledger 10 = .ok (.ireturn, 1) := by decide +kernel
theorem dX10_ledger_11 : decode cX10_ledger 11 = .ok (.iload_n 3, 1) := by decide +kernel
theorem dX10_ledger_12 : decode cX10_ledger 12 = .ok (.iconst 0, 1) := by decide +kernel
theorem dX10_ledger_13 : decode cX10_ledger 13 = .ok (.iconst 2, 1) := by decide +kernel
theorem dX10_ledger_14 : decode cX10_ledger 14 = .ok (.invokestatic 79, 3) := by decide +kernel
theorem dX10_ledger_17 : decode cX10_ledger 17 = .ok (.ifCond .eq 15, 3) := by decide +kernel
theorem dX10_ledger_20 : decode cX10_ledger 20 = .ok (.iload 4, 2) := by decide +kernel
theorem dX10_ledger_22 : decode cX10_ledger 22 = .ok (.iconst 0, 1) := by decide +kernel
theorem dX10_ledger_23 : decode cX10_ledger 23 = .ok (.sipush 999, 3) := by decide +kernel
theorem dX10_ledger_26 : decode cX10_ledger 26 = .ok (.invokestatic 79, 3) := by decide +kernel
theorem dX10_ledger_29 : decode cX10_ledger 29 = .ok (.ifCond .ne 6, 3) := by decide +kernel
theorem dX10_ledger_32 : decode cX10_ledger 32 = .ok (.bipush (-2), 2) := by decide +kernel
theorem dX10_ledger_34 : decode cX10_ledger 34 = .ok (.ireturn, 1) := by decide +kernel
theorem dX10_ledger_35 : decode cX10_ledger 35 = .ok (.aload_n 0, 1) := by decide +kernel
theorem dX10_ledger_36 : decode cX10_ledger 36 = .ok (.getfield 19, 3) := by decide +kernel
theorem dX10_ledger_39 : decode cX10_ledger 39 = .ok (.iload_n 1, 1) := by decide +kernel
theorem dX10_ledger_40 : decode cX10_ledger 40 = .ok (.iload_n 2, 1) := by decide +kernel
theorem dX10_ledger_41 : decode cX10_ledger 41 = .ok (.invokestatic 95, 3) := by decide +kernel
theorem dX10_ledger_44 : decode cX10_ledger 44 = .ok (.iload_n 3, 1) := by decide +kernel
theorem dX10_ledger_45 : decode cX10_ledger 45 = .ok (.iload 4, 2) := by decide +kernel
theorem dX10_ledger_47 : decode cX10_ledger 47 = .ok (.invokevirtual 137, 3) := by decide +kernel
theorem dX10_ledger_50 : decode cX10_ledger 50 = .ok (.ireturn, 1) := by decide +kernel
set_option maxRecDepth 20000 in
theorem ggX10_missing_X10_isCell : GoodIn wsX10_missing wsX10_isCell := goodIn_r _ [5, 6, 7, 8, 4, 9, 10, 11, 12, 13, 14, 15, 16, 17, 54, 55, 56, 57, 58, 59, 60, 61, 62, 63, 64, 65, 66] rfl (by decide +kernel)
set_option maxRecDepth 20000 in
theorem gX10_missing_X10_isCell : GoodIn wsX10_missing (wsV RX10 91 RX10 yX10_isCell wsX10_isCell) := goodIn_app (goodIn_of _ (by decide +kernel)) ggX10_missing_X10_isCell
set_option maxRecDepth 20000 in
theorem ggX10_missing_X10_cell : GoodIn wsX10_missing wsX10_cell := goodIn_r _ [20] rfl (by decide +kernel)
set_option maxRecDepth 20000 in
theorem gX10_missing_X10_cell : GoodIn wsX10_missing (va_wsS RX10 95 yX10_cell wsX10_cell) := goodIn_app (goodIn_of _ (by decide +kernel)) ggX10_missing_X10_cell
set_option maxRecDepth 20000 in
theorem ggX10_missing_X10_missingIn : GoodIn wsX10_missing wsX10_missingIn := goodIn_r _ [24, 25, 26, 27, 28, 29, 30, 31, 32, 33, 34, 35, 36, 37, 38, 39, 40, 41, 42, 43, 44, 45, 46, 47, 48, 49, 50, 51, 52, 53, 54, 55, 56, 57, 58, 59, 60, 61, 62, 63, 67, 68, 69, 70, 71, 72, 73] rfl (by decide +kernel)
set_option maxRecDepth 20000 in
theorem gX10_missing_X10_missingIn : GoodIn wsX10_missing (wsV RX10 140 RX10 yX10_missingIn wsX10_missingIn) := goodIn_app (goodIn_of _ (by decide +kernel)) ggX10_missing_X10_missingIn
theorem dX10_missing_0 : decode cX10_missing 0 = .ok (.aload_n 0, 1) := by decide +kernel
theorem dX10_missing_1 : decode cX10_missing 1 = .ok (.iload_n 1, 1) := by decide +kernel
theorem dX10_missing_2 : decode cX10_missing 2 = .ok (.iload_n 2, 1) := by decide +kernel
theorem dX10_missing_3 : decode cX10_missing 3 = .ok (.invokevirtual 91, 3) := by decide +kernel
theorem dX10_missing_6 : decode cX10_missing 6 = .ok (.ifCond .ne 5, 3) := by decide +kernel
theorem dX10_missing_9 : decode cX10_missing 9 = .ok (.iconst (-1), 1) := by decide +kernel
theorem dX10_missing_10 : decode cX10_missing 10 = .ok (.ireturn, 1) := by decide +kernel
theorem dX10_missing_11 : decode cX10_missing 11 = .ok (.aload_n 0, 1) := by decide +kernel
theorem dX10_missing_12 : decode cX10_missing 12 = .ok (.iload_n 1, 1) := by decide +kernel
theorem dX10_missing_13 : decode cX10_missing 13 = .ok (.iload_n 2, 1) := by decide +kernel
theorem dX10_missing_14 : decode cX10_missing 14 = .ok (.invokestatic 95, 3) := by decide +kernel
theorem dX10_missing_17 : decode cX10_missing 17 = .ok (.iload_n 3, 1) := by decide +kernel
theorem dX10_missing_18 : decode cX10_missing 18 = .ok (.invokevirtual 140, 3) := by decide +kernel
theorem dX10_missing_21 : decode cX10_missing 21 = .ok (.istore 4, 2) := by decide +kernel
theorem dX10_missing_23 : decode cX10_missing 23 = .ok (.iload 4, 2) := by decide +kernel
theorem dX10_missing_25 : decode cX10_missing 25 = .ok (.bipush (-9), 2) := by decide +kernel
theorem dX10_missing_27 : decode cX10_missing 27 = .ok (.if_icmp .ne 8, 3) := by decide +kernel
theorem dX10_missing_30 : decode cX10_missing 30 = .ok (.bipush (-3), 2) := by decide +kernel
theorem dX10_missing_32 : decode cX10_missing 32 = .ok (.goto 5, 3) := by decide +kernel
theorem dX10_missing_35 : decode cX10_missing 35 = .ok (.iload 4, 2) := by decide +kernel
theorem dX10_missing_37 : decode cX10_missing 37 = .ok (.ireturn, 1) := by decide +kernel
set_option maxRecDepth 20000 in
theorem ggX10_worst_X10_missingInHouse : GoodIn wsX10_worst wsX10_missingInHouse := goodIn_r _ [5, 6, 7, 8, 9, 10, 11, 12, 4, 13, 14, 15, 16, 17, 18, 19, 20, 21, 22, 23, 24, 25, 26, 27, 28, 29, 30, 31, 32, 33, 34, 35, 36, 37, 38, 39, 40, 41, 42, 43, 44, 45, 46, 47, 48, 49, 50, 51, 52, 53, 54, 55, 56, 57, 58, 59, 60, 61, 62] rfl (by decide +kernel)
set_option maxRecDepth 20000 in
theorem gX10_worst_X10_missingInHouse : GoodIn wsX10_worst (wsV RX10 143 RX10 yX10_missingInHouse wsX10_missingInHouse) := goodIn_app (goodIn_of _ (by decide +kernel)) ggX10_worst_X10_missingInHouse
theorem dX10_worst_0 : decode cX10_worst 0 = .ok (.bipush (-9), 2) := by decide +kernel
theorem dX10_worst_2 : decode cX10_worst 2 = .ok (.istore_n 1, 1) := by decide +kernel
theorem dX10_worst_3 : decode cX10_worst 3 = .ok (.iconst 0, 1) := by decide +kernel
theorem dX10_worst_4 : decode cX10_worst 4 = .ok (.istore_n 2, 1) := by decide +kernel
theorem dX10_worst_5 : decode cX10_worst 5 = .ok (.iconst 0, 1) := by decide +kernel
theorem dX10_worst_6 : decode cX10_worst 6 = .ok (.istore_n 3, 1) := by decide +kernel
theorem dX10_worst_7 : decode cX10_worst 7 = .ok (.iload_n 3, 1) := by decide +kernel
theorem dX10_worst_8 : decode cX10_worst 8 = .ok (.iconst 5, 1) := by decide +kernel
theorem dX10_worst_9 : decode cX10_worst 9 = .ok (.if_icmp .ge 27, 3) := by decide +kernel
theorem dX10_worst_12 : decode cX10_worst 12 = .ok (.aload_n 0, 1) := by decide +kernel
theorem dX10_worst_13 : decode cX10_worst 13 = .ok (.iload_n 3, 1) := by decide +kernel
theorem dX10_worst_14 : decode cX10_worst 14 = .ok (.invokevirtual 143, 3) := by decide +kernel
theorem dX10_worst_17 : decode cX10_worst 17 = .ok (.istore 4, 2) := by decide +kernel
theorem dX10_worst_19 : decode cX10_worst 19 = .ok (.iload 4, 2) := by decide +kernel
theorem dX10_worst_21 : decode cX10_worst 21 = .ok (.iload_n 2, 1) := by decide +kernel
theorem dX10_worst_22 : decode cX10_worst 22 = .ok (.if_icmp .le 8, 3) := by decide +kernel
theorem dX10_worst_25 : decode cX10_worst 25 = .ok (.iload 4, 2) := by decide +kernel
theorem dX10_worst_27 : decode cX10_worst 27 = .ok (.istore_n 2, 1) := by decide +kernel
theorem dX10_worst_28 : decode cX10_worst 28 = .ok (.iload_n 3, 1) := by decide +kernel
theorem dX10_worst_29 : decode cX10_worst 29 = .ok (.istore_n 1, 1) := by decide +kernel
theorem dX10_worst_30 : decode cX10_worst 30 = .ok (.iinc 3 1, 3) := by decide +kernel
theorem dX10_worst_33 : decode cX10_worst 33 = .ok (.goto (-26), 3) := by decide +kernel
theorem dX10_worst_36 : decode cX10_worst 36 = .ok (.iload_n 1, 1) := by decide +kernel
theorem dX10_worst_37 : decode cX10_worst 37 = .ok (.ireturn, 1) := by decide +kernel
set_option maxRecDepth 20000 in
theorem ggX10_farness_X10_isHouse : GoodIn wsX10_farness wsX10_isHouse := goodIn_r _ [5, 6, 7, 4, 8] rfl (by decide +kernel)
set_option maxRecDepth 20000 in
theorem gX10_farness_X10_isHouse : GoodIn wsX10_farness (va_wsS RX10 146 yX10_isHouse wsX10_isHouse) := goodIn_app (goodIn_of _ (by decide +kernel)) ggX10_farness_X10_isHouse
set_option maxRecDepth 20000 in
theorem ggX10_farness_X10_within : GoodIn wsX10_farness wsX10_within := goodIn_r _ [8] rfl (by decide +kernel)
set_option maxRecDepth 20000 in
theorem gX10_farness_X10_within : GoodIn wsX10_farness (va_wsS RX10 79 yX10_within wsX10_within) := goodIn_app (goodIn_of _ (by decide +kernel)) ggX10_farness_X10_within
set_option maxRecDepth 20000 in
theorem ggX10_farness_X2_setFar : GoodIn wsX10_farness wsX2_setFar := goodIn_r _ [12, 13, 24, 25, 26, 27, 28, 29, 30, 31, 32, 33, 34, 35, 36] rfl (by decide +kernel)
set_option maxRecDepth 20000 in
theorem gX10_farness_X2_setFar_n149 : GoodIn wsX10_farness (wsX2_setFar) := ggX10_farness_X2_setFar
theorem dX10_farness_0 : decode cX10_farness 0 = .ok (.iload_n 1, 1) := by decide +kernel
theorem dX10_farness_1 : decode cX10_farness 1 = .ok (.invokestatic 146, 3) := by decide +kernel
theorem dX10_farness_4 : decode cX10_farness 4 = .ok (.ifCond .eq 10, 3) := by decide +kernel
theorem dX10_farness_7 : decode cX10_farness 7 = .ok (.iload_n 2, 1) := by decide +kernel
theorem dX10_farness_8 : decode cX10_farness 8 = .ok (.invokestatic 146, 3) := by decide +kernel
theorem dX10_farness_11 : decode cX10_farness 11 = .ok (.ifCond .ne 5, 3) := by decide +kernel
theorem dX10_farness_14 : decode cX10_farness 14 = .ok (.iconst (-1), 1) := by decide +kernel
theorem dX10_farness_15 : decode cX10_farness 15 = .ok (.ireturn, 1) := by decide +kernel
theorem dX10_farness_16 : decode cX10_farness 16 = .ok (.iload_n 3, 1) := by decide +kernel
theorem dX10_farness_17 : decode cX10_farness 17 = .ok (.iconst 0, 1) := by decide +kernel
theorem dX10_farness_18 : decode cX10_farness 18 = .ok (.bipush 99, 2) := by decide +kernel
theorem dX10_farness_20 : decode cX10_farness 20 = .ok (.invokestatic 79, 3) := by decide +kernel
theorem dX10_farness_23 : decode cX10_farness 23 = .ok (.ifCond .ne 6, 3) := by decide +kernel
theorem dX10_farness_26 : decode cX10_farness 26 = .ok (.bipush (-2), 2) := by decide +kernel
theorem dX10_farness_28 : decode cX10_farness 28 = .ok (.ireturn, 1) := by decide +kernel
theorem dX10_farness_29 : decode cX10_farness 29 = .ok (.iload_n 1, 1) := by decide +kernel
theorem dX10_farness_30 : decode cX10_farness 30 = .ok (.iload_n 2, 1) := by decide +kernel
theorem dX10_farness_31 : decode cX10_farness 31 = .ok (.if_icmp .ne 8, 3) := by decide +kernel
theorem dX10_farness_34 : decode cX10_farness 34 = .ok (.bipush (-3), 2) := by decide +kernel
theorem dX10_farness_36 : decode cX10_farness 36 = .ok (.goto 13, 3) := by decide +kernel
theorem dX10_farness_39 : decode cX10_farness 39 = .ok (.aload_n 0, 1) := by decide +kernel
theorem dX10_farness_40 : decode cX10_farness 40 = .ok (.getfield 40, 3) := by decide +kernel
theorem dX10_farness_43 : decode cX10_farness 43 = .ok (.iload_n 1, 1) := by decide +kernel
theorem dX10_farness_44 : decode cX10_farness 44 = .ok (.iload_n 2, 1) := by decide +kernel
theorem dX10_farness_45 : decode cX10_farness 45 = .ok (.iload_n 3, 1) := by decide +kernel
theorem dX10_farness_46 : decode cX10_farness 46 = .ok (.invokevirtual 149, 3) := by decide +kernel
theorem dX10_farness_49 : decode cX10_farness 49 = .ok (.ireturn, 1) := by decide +kernel
set_option maxRecDepth 20000 in
theorem ggX10_event_X10_isCell : GoodIn wsX10_event wsX10_isCell := goodIn_r _ [6, 7, 8, 9, 5, 10, 11, 12, 13, 14, 15, 16, 17, 18, 29, 30, 31, 32, 33, 34, 35, 36, 37, 38, 45, 46, 47] rfl (by decide +kernel)
set_option maxRecDepth 20000 in
theorem gX10_event_X10_isCell : GoodIn wsX10_event (wsV RX10 91 RX10 yX10_isCell wsX10_isCell) := goodIn_app (goodIn_of _ (by decide +kernel)) ggX10_event_X10_isCell
set_option maxRecDepth 20000 in
theorem ggX10_event_X10_within : GoodIn wsX10_event wsX10_within := goodIn_r _ [13] rfl (by decide +kernel)
set_option maxRecDepth 20000 in
theorem gX10_event_X10_within : GoodIn wsX10_event (va_wsS RX10 79 yX10_within wsX10_within) := goodIn_app (goodIn_of _ (by decide +kernel)) ggX10_event_X10_within
set_option maxRecDepth 20000 in
theorem ggX10_event_X3_add : GoodIn wsX10_event wsX3_add := goodIn_r _ [22, 23, 24, 25, 26, 27, 28, 39, 40, 41, 42, 43, 44] rfl (by decide +kernel)
set_option maxRecDepth 20000 in
theorem gX10_event_X3_add_n153 : GoodIn wsX10_event (wsX3_add) := ggX10_event_X3_add
theorem dX10_event_0 : decode cX10_event 0 = .ok (.aload_n 0, 1) := by decide +kernel
theorem dX10_event_1 : decode cX10_event 1 = .ok (.iload_n 2, 1) := by decide +kernel
theorem dX10_event_2 : decode cX10_event 2 = .ok (.iload_n 3, 1) := by decide +kernel
theorem dX10_event_3 : decode cX10_event 3 = .ok (.invokevirtual 91, 3) := by decide +kernel
theorem dX10_event_6 : decode cX10_event 6 = .ok (.ifCond .ne 5, 3) := by decide +kernel
theorem dX10_event_9 : decode cX10_event 9 = .ok (.iconst (-1), 1) := by decide +kernel
theorem dX10_event_10 : decode cX10_event 10 = .ok (.ireturn, 1) := by decide +kernel
theorem dX10_event_11 : decode cX10_event 11 = .ok (.iload_n 1, 1) := by decide +kernel
theorem dX10_event_12 : decode cX10_event 12 = .ok (.iconst 0, 1) := by decide +kernel
theorem dX10_event_13 : decode cX10_event 13 = .ok (.sipush 999, 3) := by decide +kernel
theorem dX10_event_16 : decode cX10_event 16 = .ok (.invokestatic 79, 3) := by decide +kernel
theorem dX10_event_19 : decode cX10_event 19 = .ok (.ifCond .eq 15, 3) := by decide +kernel
theorem dX10_event_22 : decode cX10_event 22 = .ok (.iload 4, 2) := by decide +kernel
theorem dX10_event_24 : decode cX10_event 24 = .ok (.iconst 1, 1) := by decide +kernel
theorem dX10_event_25 : decode cX10_event 25 = .ok (.sipush 500, 3) := by decide +kernel
theorem dX10_event_28 : decode cX10_event 28 = .ok (.invokestatic 79, 3) := by decide +kernel
theorem dX10_event_31 : decode cX10_event 31 = .ok (.ifCond .ne 6, 3) := by decide +kernel
theorem dX10_event_34 : decode cX10_event 34 = .ok (.bipush (-2), 2) := by decide +kernel
theorem dX10_event_36 : decode cX10_event 36 = .ok (.ireturn, 1) := by decide +kernel
theorem dX10_event_37 : decode cX10_event 37 = .ok (.aload_n 0, 1) := by decide +kernel
theorem dX10_event_38 : decode cX10_event 38 = .ok (.getfield 33, 3) := by decide +kernel
theorem dX10_event_41 : decode cX10_event 41 = .ok (.getfield 152, 3) := by decide +kernel
theorem dX10_event_44 : decode cX10_event 44 = .ok (.bipush 12, 2) := by decide +kernel
theorem dX10_event_46 : decode cX10_event 46 = .ok (.if_icmp .lt 8, 3) := by decide +kernel
theorem dX10_event_49 : decode cX10_event 49 = .ok (.bipush (-4), 2) := by decide +kernel
theorem dX10_event_51 : decode cX10_event 51 = .ok (.goto 15, 3) := by decide +kernel
theorem dX10_event_54 : decode cX10_event 54 = .ok (.aload_n 0, 1) := by decide +kernel
theorem dX10_event_55 : decode cX10_event 55 = .ok (.getfield 33, 3) := by decide +kernel
theorem dX10_event_58 : decode cX10_event 58 = .ok (.iload_n 1, 1) := by decide +kernel
theorem dX10_event_59 : decode cX10_event 59 = .ok (.iload_n 2, 1) := by decide +kernel
theorem dX10_event_60 : decode cX10_event 60 = .ok (.iload_n 3, 1) := by decide +kernel
theorem dX10_event_61 : decode cX10_event 61 = .ok (.iload 4, 2) := by decide +kernel
theorem dX10_event_63 : decode cX10_event 63 = .ok (.invokevirtual 153, 3) := by decide +kernel
theorem dX10_event_66 : decode cX10_event 66 = .ok (.ireturn, 1) := by decide +kernel
set_option maxRecDepth 20000 in
theorem ggX10_off_X3_has : GoodIn wsX10_off wsX3_has := goodIn_r _ [5, 6, 7, 8, 9, 24, 25, 26, 27, 28, 29] rfl (by decide +kernel)
set_option maxRecDepth 20000 in
theorem gX10_off_X3_has_n155 : GoodIn wsX10_off (wsX3_has) := ggX10_off_X3_has
set_option maxRecDepth 20000 in
theorem ggX10_off_X3_stop : GoodIn wsX10_off wsX3_stop := goodIn_r _ [12, 13, 24, 25, 26, 27, 28, 29] rfl (by decide +kernel)
set_option maxRecDepth 20000 in
theorem gX10_off_X3_stop_n158 : GoodIn wsX10_off (wsX3_stop) := ggX10_off_X3_stop
theorem dX10_off_0 : decode cX10_off 0 = .ok (.aload_n 0, 1) := by decide +kernel
theorem dX10_off_1 : decode cX10_off 1 = .ok (.getfield 33, 3) := by decide +kernel
theorem dX10_off_4 : decode cX10_off 4 = .ok (.iload_n 1, 1) := by decide +kernel
theorem dX10_off_5 : decode cX10_off 5 = .ok (.invokevirtual 155, 3) := by decide +kernel
theorem dX10_off_8 : decode cX10_off 8 = .ok (.ifCond .ne 5, 3) := by decide +kernel
theorem dX10_off_11 : decode cX10_off 11 = .ok (.iconst (-1), 1) := by decide +kernel
theorem dX10_off_12 : decode cX10_off 12 = .ok (.ireturn, 1) := by decide +kernel
theorem dX10_off_13 : decode cX10_off 13 = .ok (.aload_n 0, 1) := by decide +kernel
theorem dX10_off_14 : decode cX10_off 14 = .ok (.getfield 33, 3) := by decide +kernel
theorem dX10_off_17 : decode cX10_off 17 = .ok (.iload_n 1, 1) := by decide +kernel
theorem dX10_off_18 : decode cX10_off 18 = .ok (.invokevirtual 158, 3) := by decide +kernel
theorem dX10_off_21 : decode cX10_off 21 = .ok (.ifCond .eq 7, 3) := by decide +kernel
theorem dX10_off_24 : decode cX10_off 24 = .ok (.iconst 1, 1) := by decide +kernel
theorem dX10_off_25 : decode cX10_off 25 = .ok (.goto 5, 3) := by decide +kernel
theorem dX10_off_28 : decode cX10_off 28 = .ok (.bipush (-3), 2) := by decide +kernel
theorem dX10_off_30 : decode cX10_off 30 = .ok (.ireturn, 1) := by decide +kernel
set_option maxRecDepth 20000 in
theorem ggX10_carried_X4_has : GoodIn wsX10_carried wsX4_has := goodIn_r _ [8, 9, 10, 11, 12, 116, 117, 118] rfl (by decide +kernel)
set_option maxRecDepth 20000 in
theorem gX10_carried_X4_has_n159 : GoodIn wsX10_carried (wsX4_has) := ggX10_carried_X4_has
set_option maxRecDepth 20000 in
theorem ggX10_carried_X2_leastFor : GoodIn wsX10_carried wsX2_leastFor := goodIn_r _ [16, 17, 18, 19, 14, 20, 21, 22, 23, 24, 25, 26, 27, 28, 29, 30, 31, 32, 33, 11, 34, 35, 36, 37, 38, 39, 40, 41, 42, 43, 44, 45, 46, 47, 48, 49, 50, 51, 52, 53, 54, 55, 56, 57, 58, 59, 60, 61, 62, 63, 64, 65, 66, 67, 68, 69, 70, 71, 72, 73, 74, 75, 76, 77, 78, 79, 80, 81, 82, 83, 84, 85, 86, 87, 88, 89, 90, 91, 92, 93, 94, 95, 96, 97, 98, 99, 100, 101, 102, 103, 104, 105, 119, 120, 121, 122, 123, 124, 125, 126, 127, 128, 129, 130, 131, 132, 133, 134, 135, 136, 137, 138, 139] rfl (by decide +kernel)
set_option maxRecDepth 20000 in
theorem gX10_carried_X2_leastFor_n160 : GoodIn wsX10_carried (wsX2_leastFor) := ggX10_carried_X2_leastFor
theorem dX10_carried_0 : decode cX10_carried 0 = .ok (.aload_n 0, 1) := by decide +kernel
theorem dX10_carried_1 : decode cX10_carried 1 = .ok (.getfield 12, 3) := by decide +kernel
theorem dX10_carried_4 : decode cX10_carried 4 = .ok (.iload_n 1, 1) := by decide +kernel
theorem dX10_carried_5 : decode cX10_carried 5 = .ok (.invokevirtual 159, 3) := by decide +kernel
theorem dX10_carried_8 : decode cX10_carried 8 = .ok (.ifCond .eq 24, 3) := by decide +kernel
theorem dX10_carried_11 : decode cX10_carried 11 = .ok (.aload_n 0, 1) := by decide +kernel
theorem dX10_carried_12 : decode cX10_carried 12 = .ok (.getfield 40, 3) := by decide +kernel
theorem dX10_carried_15 : decode cX10_carried 15 = .ok (.aload_n 0, 1) := by decide +kernel
theorem dX10_carried_16 : decode cX10_carried 16 = .ok (.getfield 33, 3) := by decide +kernel
theorem dX10_carried_19 : decode cX10_carried 19 = .ok (.aload_n 0, 1) := by decide +kernel
theorem dX10_carried_20 : decode cX10_carried 20 = .ok (.getfield 19, 3) := by decide +kernel
theorem dX10_carried_23 : decode cX10_carried 23 = .ok (.iload_n 1, 1) := by decide +kernel
theorem dX10_carried_24 : decode cX10_carried 24 = .ok (.bipush (-9), 2) := by decide +kernel
theorem dX10_carried_26 : decode cX10_carried 26 = .ok (.invokevirtual 160, 3) := by decide +kernel
theorem dX10_carried_29 : decode cX10_carried 29 = .ok (.goto 4, 3) := by decide +kernel
theorem dX10_carried_32 : decode cX10_carried 32 = .ok (.iconst (-1), 1) := by decide +kernel
theorem dX10_carried_33 : decode cX10_carried 33 = .ok (.ireturn, 1) := by decide +kernel
set_option maxRecDepth 20000 in
theorem ggX10_inNeed_X4_has : GoodIn wsX10_inNeed wsX4_has := goodIn_r _ [8, 9, 10, 11, 12, 49, 50, 51] rfl (by decide +kernel)
set_option maxRecDepth 20000 in
theorem gX10_inNeed_X4_has_n159 : GoodIn wsX10_inNeed (wsX4_has) := ggX10_inNeed_X4_has
set_option maxRecDepth 20000 in
theorem ggX10_inNeed_X2_firstShortDay : GoodIn wsX10_inNeed wsX2_firstShortDay := goodIn_r _ [16, 17, 18, 19, 14, 20, 21, 22, 23, 24, 25, 26, 27, 28, 29, 30, 31, 32, 33, 11, 34, 35, 36, 37, 38, 52, 53, 54, 55, 56, 57, 58, 59, 60, 61, 62, 63, 64, 65, 66, 67, 68, 69, 70, 71, 72] rfl (by decide +kernel)
set_option maxRecDepth 20000 in
theorem gX10_inNeed_X2_firstShortDay_n164 : GoodIn wsX10_inNeed (wsX2_firstShortDay) := ggX10_inNeed_X2_firstShortDay
theorem dX10_inNeed_0 : decode cX10_inNeed 0 = .ok (.aload_n 0, 1) := by decide +kernel
theorem dX10_inNeed_1 : decode cX10_inNeed 1 = .ok (.getfield 12, 3) := by decide +kernel
theorem dX10_inNeed_4 : decode cX10_inNeed 4 = .ok (.iload_n 1, 1) := by decide +kernel
theorem dX10_inNeed_5 : decode cX10_inNeed 5 = .ok (.invokevirtual 159, 3) := by decide +kernel
theorem dX10_inNeed_8 : decode cX10_inNeed 8 = .ok (.ifCond .eq 22, 3) := by decide +kernel
theorem dX10_inNeed_11 : decode cX10_inNeed 11 = .ok (.aload_n 0, 1) := by decide +kernel
theorem dX10_inNeed_12 : decode cX10_inNeed 12 = .ok (.getfield 40, 3) := by decide +kernel
theorem dX10_inNeed_15 : decode cX10_inNeed 15 = .ok (.aload_n 0, 1) := by decide +kernel
theorem dX10_inNeed_16 : decode cX10_inNeed 16 = .ok (.getfield 33, 3) := by decide +kernel
theorem dX10_inNeed_19 : decode cX10_inNeed 19 = .ok (.aload_n 0, 1) := by decide +kernel
theorem dX10_inNeed_20 : decode cX10_inNeed 20 = .ok (.getfield 19, 3) := by decide +kernel
theorem dX10_inNeed_23 : decode cX10_inNeed 23 = .ok (.iload_n 1, 1) := by decide +kernel
theorem dX10_inNeed_24 : decode cX10_inNeed 24 = .ok (.invokevirtual 164, 3) := by decide +kernel
theorem dX10_inNeed_27 : decode cX10_inNeed 27 = .ok (.goto 4, 3) := by decide +kernel
theorem dX10_inNeed_30 : decode cX10_inNeed 30 = .ok (.iconst (-1), 1) := by decide +kernel
theorem dX10_inNeed_31 : decode cX10_inNeed 31 = .ok (.ireturn, 1) := by decide +kernel
set_option maxRecDepth 20000 in
theorem ggX10_costs_X3_has : GoodIn wsX10_costs wsX3_has := goodIn_r _ [7, 8, 9, 10, 11, 115, 116, 117, 118, 119, 120] rfl (by decide +kernel)
set_option maxRecDepth 20000 in
theorem gX10_costs_X3_has_n155 : GoodIn wsX10_costs (wsX3_has) := ggX10_costs_X3_has
set_option maxRecDepth 20000 in
theorem ggX10_costs_X2_leastFor : GoodIn wsX10_costs wsX2_leastFor := goodIn_r _ [15, 16, 17, 18, 13, 19, 20, 21, 22, 23, 24, 25, 26, 27, 28, 29, 30, 31, 32, 10, 33, 34, 35, 36, 37, 38, 39, 40, 41, 42, 43, 44, 45, 46, 47, 48, 49, 50, 51, 52, 53, 54, 55, 56, 57, 58, 59, 60, 61, 62, 63, 64, 65, 66, 67, 68, 69, 70, 71, 72, 73, 74, 75, 76, 77, 78, 79, 80, 81, 82, 83, 84, 85, 86, 87, 88, 89, 90, 91, 92, 93, 94, 95, 96, 97, 98, 99, 100, 101, 102, 103, 104, 121, 122, 123, 124, 125, 126, 127, 128, 129, 130, 131, 132, 133, 115, 116, 117, 118, 119, 120, 134, 135] rfl (by decide +kernel)
set_option maxRecDepth 20000 in
theorem gX10_costs_X2_leastFor_n160 : GoodIn wsX10_costs (wsX2_leastFor) := ggX10_costs_X2_leastFor
theorem dX10_costs_0 : decode cX10_costs 0 = .ok (.aload_n 0, 1) := by decide +kernel
theorem dX10_costs_1 : decode cX10_costs 1 = .ok (.getfield 33, 3) := by decide +kernel
theorem dX10_costs_4 : decode cX10_costs 4 = .ok (.iload_n 1, 1) := by decide +kernel
theorem dX10_costs_5 : decode cX10_costs 5 = .ok (.invokevirtual 155, 3) := by decide +kernel
theorem dX10_costs_8 : decode cX10_costs 8 = .ok (.ifCond .ne 5, 3) := by decide +kernel
theorem dX10_costs_11 : decode cX10_costs 11 = .ok (.iconst (-1), 1) := by decide +kernel
theorem dX10_costs_12 : decode cX10_costs 12 = .ok (.ireturn, 1) := by decide +kernel
theorem dX10_costs_13 : decode cX10_costs 13 = .ok (.aload_n 0, 1) := by decide +kernel
theorem dX10_costs_14 : decode cX10_costs 14 = .ok (.getfield 33, 3) := by decide +kernel
theorem dX10_costs_17 : decode cX10_costs 17 = .ok (.getfield 168, 3) := by decide +kernel
theorem dX10_costs_20 : decode cX10_costs 20 = .ok (.iload_n 1, 1) := by decide +kernel
theorem dX10_costs_21 : decode cX10_costs 21 = .ok (.baload, 1) := by decide +kernel
theorem dX10_costs_22 : decode cX10_costs 22 = .ok (.ifCond .ne 6, 3) := by decide +kernel
theorem dX10_costs_25 : decode cX10_costs 25 = .ok (.bipush (-3), 2) := by decide +kernel
theorem dX10_costs_27 : decode cX10_costs 27 = .ok (.ireturn, 1) := by decide +kernel
theorem dX10_costs_28 : decode cX10_costs 28 = .ok (.aload_n 0, 1) := by decide +kernel
theorem dX10_costs_29 : decode cX10_costs 29 = .ok (.getfield 33, 3) := by decide +kernel
theorem dX10_costs_32 : decode cX10_costs 32 = .ok (.getfield 172, 3) := by decide +kernel
theorem dX10_costs_35 : decode cX10_costs 35 = .ok (.iload_n 1, 1) := by decide +kernel
theorem dX10_costs_36 : decode cX10_costs 36 = .ok (.iaload, 1) := by decide +kernel
theorem dX10_costs_37 : decode cX10_costs 37 = .ok (.istore_n 2, 1) := by decide +kernel
theorem dX10_costs_38 : decode cX10_costs 38 = .ok (.aload_n 0, 1) := by decide +kernel
theorem dX10_costs_39 : decode cX10_costs 39 = .ok (.getfield 40, 3) := by decide +kernel
theorem dX10_costs_42 : decode cX10_costs 42 = .ok (.aload_n 0, 1) := by decide +kernel
theorem dX10_costs_43 : decode cX10_costs 43 = .ok (.getfield 33, 3) := by decide +kernel
theorem dX10_costs_46 : decode cX10_costs 46 = .ok (.aload_n 0, 1) := by decide +kernel
theorem dX10_costs_47 : decode cX10_costs 47 = .ok (.getfield 19, 3) := by decide +kernel
theorem dX10_costs_50 : decode cX10_costs 50 = .ok (.iload_n 2, 1) := by decide +kernel
theorem dX10_costs_51 : decode cX10_costs 51 = .ok (.bipush (-9), 2) := by decide +kernel
theorem dX10_costs_53 : decode cX10_costs 53 = .ok (.invokevirtual 160, 3) := by decide +kernel
theorem dX10_costs_56 : decode cX10_costs 56 = .ok (.istore_n 3, 1) := by decide +kernel
theorem dX10_costs_57 : decode cX10_costs 57 = .ok (.iload_n 3, 1) := by decide +kernel
theorem dX10_costs_58 : decode cX10_costs 58 = .ok (.bipush (-9), 2) := by decide +kernel
theorem dX10_costs_60 : decode cX10_costs 60 = .ok (.if_icmp .ne 6, 3) := by decide +kernel
theorem dX10_costs_63 : decode cX10_costs 63 = .ok (.bipush (-9), 2) := by decide +kernel
theorem dX10_costs_65 : decode cX10_costs 65 = .ok (.ireturn, 1) := by decide +kernel
theorem dX10_costs_66 : decode cX10_costs 66 = .ok (.iload_n 3, 1) := by decide +kernel
theorem dX10_costs_67 : decode cX10_costs 67 = .ok (.aload_n 0, 1) := by decide +kernel
theorem dX10_costs_68 : decode cX10_costs 68 = .ok (.getfield 40, 3) := by decide +kernel
theorem dX10_costs_71 : decode cX10_costs 71 = .ok (.aload_n 0, 1) := by decide +kernel
theorem dX10_costs_72 : decode cX10_costs 72 = .ok (.getfield 33, 3) := by decide +kernel
theorem dX10_costs_75 : decode cX10_costs 75 = .ok (.aload_n 0, 1) := by decide +kernel
theorem dX10_costs_76 : decode cX10_costs 76 = .ok (.getfield 19, 3) := by decide +kernel
theorem dX10_costs_79 : decode cX10_costs 79 = .ok (.iload_n 2, 1) := by decide +kernel
theorem dX10_costs_80 : decode cX10_costs 80 = .ok (.iload_n 1, 1) := by decide +kernel
theorem dX10_costs_81 : decode cX10_costs 81 = .ok (.invokevirtual 160, 3) := by decide +kernel
theorem dX10_costs_84 : decode cX10_costs 84 = .ok (.isub, 1) := by decide +kernel
theorem dX10_costs_85 : decode cX10_costs 85 = .ok (.ireturn, 1) := by decide +kernel
set_option maxRecDepth 20000 in
theorem ggX10_lot_X10_isLot : GoodIn wsX10_lot wsX10_isLot := goodIn_r _ [5, 6, 7, 4, 8] rfl (by decide +kernel)
set_option maxRecDepth 20000 in
theorem gX10_lot_X10_isLot : GoodIn wsX10_lot (va_wsS RX10 176 yX10_isLot wsX10_isLot) := goodIn_app (goodIn_of _ (by decide +kernel)) ggX10_lot_X10_isLot
set_option maxRecDepth 20000 in
theorem ggX10_lot_X10_within : GoodIn wsX10_lot wsX10_within := goodIn_r _ [8] rfl (by decide +kernel)
set_option maxRecDepth 20000 in
theorem gX10_lot_X10_within : GoodIn wsX10_lot (va_wsS RX10 79 yX10_within wsX10_within) := goodIn_app (goodIn_of _ (by decide +kernel)) ggX10_lot_X10_within
set_option maxRecDepth 20000 in
theorem ggX10_lot_X7_setValue : GoodIn wsX10_lot wsX7_setValue := goodIn_r _ [12, 13, 14, 15, 16, 17, 18, 29, 30, 31, 32] rfl (by decide +kernel)
set_option maxRecDepth 20000 in
theorem gX10_lot_X7_setValue_n185 : GoodIn wsX10_lot (wsX7_setValue) := ggX10_lot_X7_setValue
theorem dX10_lot_0 : decode cX10_lot 0 = .ok (.iload_n 1, 1) := by decide +kernel
theorem dX10_lot_1 : decode cX10_lot 1 = .ok (.invokestatic 176, 3) := by decide +kernel
theorem dX10_lot_4 : decode cX10_lot 4 = .ok (.ifCond .ne 5, 3) := by decide +kernel
theorem dX10_lot_7 : decode cX10_lot 7 = .ok (.iconst (-1), 1) := by decide +kernel
theorem dX10_lot_8 : decode cX10_lot 8 = .ok (.ireturn, 1) := by decide +kernel
theorem dX10_lot_9 : decode cX10_lot 9 = .ok (.iload_n 2, 1) := by decide +kernel
theorem dX10_lot_10 : decode cX10_lot 10 = .ok (.iconst 0, 1) := by decide +kernel
theorem dX10_lot_11 : decode cX10_lot 11 = .ok (.iconst 3, 1) := by decide +kernel
theorem dX10_lot_12 : decode cX10_lot 12 = .ok (.invokestatic 79, 3) := by decide +kernel
theorem dX10_lot_15 : decode cX10_lot 15 = .ok (.ifCond .eq 20, 3) := by decide +kernel
theorem dX10_lot_18 : decode cX10_lot 18 = .ok (.iload_n 3, 1) := by decide +kernel
theorem dX10_lot_19 : decode cX10_lot 19 = .ok (.getstatic 179, 3) := by decide +kernel
theorem dX10_lot_22 : decode cX10_lot 22 = .ok (.iload_n 2, 1) := by decide +kernel
theorem dX10_lot_23 : decode cX10_lot 23 = .ok (.iaload, 1) := by decide +kernel
theorem dX10_lot_24 : decode cX10_lot 24 = .ok (.getstatic 182, 3) := by decide +kernel
theorem dX10_lot_27 : decode cX10_lot 27 = .ok (.iload_n 2, 1) := by decide +kernel
theorem dX10_lot_28 : decode cX10_lot 28 = .ok (.iaload, 1) := by decide +kernel
theorem dX10_lot_29 : decode cX10_lot 29 = .ok (.invokestatic 79, 3) := by decide +kernel
theorem dX10_lot_32 : decode cX10_lot 32 = .ok (.ifCond .ne 6, 3) := by decide +kernel
theorem dX10_lot_35 : decode cX10_lot 35 = .ok (.bipush (-2), 2) := by decide +kernel
theorem dX10_lot_37 : decode cX10_lot 37 = .ok (.ireturn, 1) := by decide +kernel
theorem dX10_lot_38 : decode cX10_lot 38 = .ok (.aload_n 0, 1) := by decide +kernel
theorem dX10_lot_39 : decode cX10_lot 39 = .ok (.getfield 47, 3) := by decide +kernel
theorem dX10_lot_42 : decode cX10_lot 42 = .ok (.iload_n 1, 1) := by decide +kernel
theorem dX10_lot_43 : decode cX10_lot 43 = .ok (.iload_n 2, 1) := by decide +kernel
theorem dX10_lot_44 : decode cX10_lot 44 = .ok (.iload_n 3, 1) := by decide +kernel
theorem dX10_lot_45 : decode cX10_lot 45 = .ok (.invokevirtual 185, 3) := by decide +kernel
theorem dX10_lot_48 : decode cX10_lot 48 = .ok (.ireturn, 1) := by decide +kernel
set_option maxRecDepth 20000 in
theorem ggX10_crew_X10_within : GoodIn wsX10_crew wsX10_within := goodIn_r _ [5] rfl (by decide +kernel)
set_option maxRecDepth 20000 in
theorem gX10_crew_X10_within : GoodIn wsX10_crew (va_wsS RX10 79 yX10_within wsX10_within) := goodIn_app (goodIn_of _ (by decide +kernel)) ggX10_crew_X10_within
set_option maxRecDepth 20000 in
theorem ggX10_crew_X7_setHands : GoodIn wsX10_crew wsX7_setHands := goodIn_r _ [9, 10, 11, 12, 13, 14, 15, 26, 27, 28, 29] rfl (by decide +kernel)
set_option maxRecDepth 20000 in
theorem gX10_crew_X7_setHands_n188 : GoodIn wsX10_crew (wsX7_setHands) := ggX10_crew_X7_setHands
theorem dX10_crew_0 : decode cX10_crew 0 = .ok (.iload_n 1, 1) := by decide +kernel
theorem dX10_crew_1 : decode cX10_crew 1 = .ok (.iconst 0, 1) := by decide +kernel
theorem dX10_crew_2 : decode cX10_crew 2 = .ok (.iconst 4, 1) := by decide +kernel
theorem dX10_crew_3 : decode cX10_crew 3 = .ok (.invokestatic 79, 3) := by decide +kernel
theorem dX10_crew_6 : decode cX10_crew 6 = .ok (.ifCond .eq 14, 3) := by decide +kernel
theorem dX10_crew_9 : decode cX10_crew 9 = .ok (.aload_n 0, 1) := by decide +kernel
theorem dX10_crew_10 : decode cX10_crew 10 = .ok (.getfield 47, 3) := by decide +kernel
theorem dX10_crew_13 : decode cX10_crew 13 = .ok (.iload_n 1, 1) := by decide +kernel
theorem dX10_crew_14 : decode cX10_crew 14 = .ok (.invokevirtual 188, 3) := by decide +kernel
theorem dX10_crew_17 : decode cX10_crew 17 = .ok (.goto 5, 3) := by decide +kernel
theorem dX10_crew_20 : decode cX10_crew 20 = .ok (.bipush (-2), 2) := by decide +kernel
theorem dX10_crew_22 : decode cX10_crew 22 = .ok (.ireturn, 1) := by decide +kernel
set_option maxRecDepth 20000 in
theorem ggX10_plan_X10_within : GoodIn wsX10_plan wsX10_within := goodIn_r _ [5] rfl (by decide +kernel)
set_option maxRecDepth 20000 in
theorem gX10_plan_X10_within : GoodIn wsX10_plan (va_wsS RX10 79 yX10_within wsX10_within) := goodIn_app (goodIn_of _ (by decide +kernel)) ggX10_plan_X10_within
set_option maxRecDepth 20000 in
theorem ggX10_plan_X7_fewestOver : GoodIn wsX10_plan wsX7_fewestOver := goodIn_r _ [9, 10, 11, 12, 7, 13, 14, 15, 16, 17, 18, 19, 20, 21, 22, 23, 24, 25, 26, 27, 28, 29, 30, 31, 32, 33, 34, 35, 36, 37, 38, 39, 40, 41, 42, 43, 44, 45, 46, 47, 48, 49, 50, 51, 52, 53, 54, 55, 56, 57, 58, 59, 60, 61, 62, 63, 64, 65, 66, 67, 68, 69, 70, 81, 82, 83, 84] rfl (by decide +kernel)
set_option maxRecDepth 20000 in
theorem gX10_plan_X7_fewestOver_n191 : GoodIn wsX10_plan (wsX7_fewestOver) := ggX10_plan_X7_fewestOver
theorem dX10_plan_0 : decode cX10_plan 0 = .ok (.iload_n 1, 1) := by decide +kernel
theorem dX10_plan_1 : decode cX10_plan 1 = .ok (.iconst 1, 1) := by decide +kernel
theorem dX10_plan_2 : decode cX10_plan 2 = .ok (.bipush 8, 2) := by decide +kernel
theorem dX10_plan_4 : decode cX10_plan 4 = .ok (.invokestatic 79, 3) := by decide +kernel
theorem dX10_plan_7 : decode cX10_plan 7 = .ok (.ifCond .eq 14, 3) := by decide +kernel
theorem dX10_plan_10 : decode cX10_plan 10 = .ok (.aload_n 0, 1) := by decide +kernel
theorem dX10_plan_11 : decode cX10_plan 11 = .ok (.getfield 47, 3) := by decide +kernel
theorem dX10_plan_14 : decode cX10_plan 14 = .ok (.iload_n 1, 1) := by decide +kernel
theorem dX10_plan_15 : decode cX10_plan 15 = .ok (.invokevirtual 191, 3) := by decide +kernel
theorem dX10_plan_18 : decode cX10_plan 18 = .ok (.goto 5, 3) := by decide +kernel
theorem dX10_plan_21 : decode cX10_plan 21 = .ok (.bipush (-2), 2) := by decide +kernel
theorem dX10_plan_23 : decode cX10_plan 23 = .ok (.ireturn, 1) := by decide +kernel
set_option maxRecDepth 20000 in
theorem ggX10_planned_X10_within : GoodIn wsX10_planned wsX10_within := goodIn_r _ [5] rfl (by decide +kernel)
set_option maxRecDepth 20000 in
theorem gX10_planned_X10_within : GoodIn wsX10_planned (va_wsS RX10 79 yX10_within wsX10_within) := goodIn_app (goodIn_of _ (by decide +kernel)) ggX10_planned_X10_within
set_option maxRecDepth 20000 in
theorem ggX10_planned_X7_setOfMonth : GoodIn wsX10_planned wsX7_setOfMonth := goodIn_r _ [9, 10, 11, 12, 7, 13, 14, 15, 16, 17, 18, 19, 20, 21, 22, 23, 24, 25, 26, 27, 28, 29, 30, 31, 32, 33, 34, 35, 36, 37, 38, 39, 40, 41, 42, 43, 44, 45, 46, 47, 48, 49, 50, 51, 52, 53, 54, 55, 56, 57, 58, 59, 60, 61, 62, 63, 64, 65, 66, 67, 68, 69, 70, 71, 72, 73, 74, 85, 86, 87, 88] rfl (by decide +kernel)
set_option maxRecDepth 20000 in
theorem gX10_planned_X7_setOfMonth_n194 : GoodIn wsX10_planned (wsX7_setOfMonth) := ggX10_planned_X7_setOfMonth
theorem dX10_planned_0 : decode cX10_planned 0 = .ok (.iload_n 1, 1) := by decide +kernel
theorem dX10_planned_1 : decode cX10_planned 1 = .ok (.iconst 1, 1) := by decide +kernel
theorem dX10_planned_2 : decode cX10_planned 2 = .ok (.bipush 8, 2) := by decide +kernel
theorem dX10_planned_4 : decode cX10_planned 4 = .ok (.invokestatic 79, 3) := by decide +kernel
theorem dX10_planned_7 : decode cX10_planned 7 = .ok (.ifCond .eq 14, 3) := by decide +kernel
theorem dX10_planned_10 : decode cX10_planned 10 = .ok (.iload_n 2, 1) := by decide +kernel
theorem dX10_planned_11 : decode cX10_planned 11 = .ok (.iconst 0, 1) := by decide +kernel
theorem dX10_planned_12 : decode cX10_planned 12 = .ok (.iload_n 1, 1) := by decide +kernel
theorem dX10_planned_13 : decode cX10_planned 13 = .ok (.iconst 1, 1) := by decide +kernel
theorem dX10_planned_14 : decode cX10_planned 14 = .ok (.isub, 1) := by decide +kernel
theorem dX10_planned_15 : decode cX10_planned 15 = .ok (.invokestatic 79, 3) := by decide +kernel
theorem dX10_planned_18 : decode cX10_planned 18 = .ok (.ifCond .ne 6, 3) := by decide +kernel
theorem dX10_planned_21 : decode cX10_planned 21 = .ok (.bipush (-2), 2) := by decide +kernel
theorem dX10_planned_23 : decode cX10_planned 23 = .ok (.ireturn, 1) := by decide +kernel
theorem dX10_planned_24 : decode cX10_planned 24 = .ok (.aload_n 0, 1) := by decide +kernel
theorem dX10_planned_25 : decode cX10_planned 25 = .ok (.getfield 47, 3) := by decide +kernel
theorem dX10_planned_28 : decode cX10_planned 28 = .ok (.iload_n 1, 1) := by decide +kernel
theorem dX10_planned_29 : decode cX10_planned 29 = .ok (.iload_n 2, 1) := by decide +kernel
theorem dX10_planned_30 : decode cX10_planned 30 = .ok (.invokevirtual 194, 3) := by decide +kernel
theorem dX10_planned_33 : decode cX10_planned 33 = .ok (.ireturn, 1) := by decide +kernel
set_option maxRecDepth 20000 in
theorem ggX10_month_X10_within : GoodIn wsX10_month wsX10_within := goodIn_r _ [5] rfl (by decide +kernel)
set_option maxRecDepth 20000 in
theorem gX10_month_X10_within : GoodIn wsX10_month (va_wsS RX10 79 yX10_within wsX10_within) := goodIn_app (goodIn_of _ (by decide +kernel)) ggX10_month_X10_within
set_option maxRecDepth 20000 in
theorem ggX10_month_J6_bitCount_0f7a4 : GoodIn wsX10_month wsJ6_bitCount_0f7a4 := goodIn_r _ [9, 10, 11, 12] rfl (by decide +kernel)
set_option maxRecDepth 20000 in
theorem gX10_month_J6_bitCount_0f7a4 : GoodIn wsX10_month (va_wsS RX10 197 yJ6_bitCount_0f7a4 wsJ6_bitCount_0f7a4) := goodIn_app (goodIn_of _ (by decide +kernel)) ggX10_month_J6_bitCount_0f7a4
set_option maxRecDepth 20000 in
theorem ggX10_month_X7_goBy : GoodIn wsX10_month wsX7_goBy := goodIn_r _ [16, 17, 18, 19, 20, 21, 32, 33, 34, 35] rfl (by decide +kernel)
set_option maxRecDepth 20000 in
theorem gX10_month_X7_goBy_n205 : GoodIn wsX10_month (wsX7_goBy) := ggX10_month_X7_goBy
theorem dX10_month_0 : decode cX10_month 0 = .ok (.iload_n 1, 1) := by decide +kernel
theorem dX10_month_1 : decode cX10_month 1 = .ok (.iconst 0, 1) := by decide +kernel
theorem dX10_month_2 : decode cX10_month 2 = .ok (.bipush 15, 2) := by decide +kernel
theorem dX10_month_4 : decode cX10_month 4 = .ok (.invokestatic 79, 3) := by decide +kernel
theorem dX10_month_7 : decode cX10_month 7 = .ok (.ifCond .ne 6, 3) := by decide +kernel
theorem dX10_month_10 : decode cX10_month 10 = .ok (.bipush (-2), 2) := by decide +kernel
theorem dX10_month_12 : decode cX10_month 12 = .ok (.ireturn, 1) := by decide +kernel
theorem dX10_month_13 : decode cX10_month 13 = .ok (.iload_n 1, 1) := by decide +kernel
theorem dX10_month_14 : decode cX10_month 14 = .ok (.invokestatic 197, 3) := by decide +kernel
theorem dX10_month_17 : decode cX10_month 17 = .ok (.aload_n 0, 1) := by decide +kernel
theorem dX10_month_18 : decode cX10_month 18 = .ok (.getfield 47, 3) := by decide +kernel
theorem dX10_month_21 : decode cX10_month 21 = .ok (.getfield 202, 3) := by decide +kernel
theorem dX10_month_24 : decode cX10_month 24 = .ok (.if_icmp .le 8, 3) := by decide +kernel
theorem dX10_month_27 : decode cX10_month 27 = .ok (.bipush (-3), 2) := by decide +kernel
theorem dX10_month_29 : decode cX10_month 29 = .ok (.goto 11, 3) := by decide +kernel
theorem dX10_month_32 : decode cX10_month 32 = .ok (.aload_n 0, 1) := by decide +kernel
theorem dX10_month_33 : decode cX10_month 33 = .ok (.getfield 47, 3) := by decide +kernel
theorem dX10_month_36 : decode cX10_month 36 = .ok (.iload_n 1, 1) := by decide +kernel
theorem dX10_month_37 : decode cX10_month 37 = .ok (.invokevirtual 205, 3) := by decide +kernel
theorem dX10_month_40 : decode cX10_month 40 = .ok (.ireturn, 1) := by decide +kernel
set_option maxRecDepth 20000 in
theorem ggX10_match_X10_isLot : GoodIn wsX10_match wsX10_isLot := goodIn_r _ [5, 6, 7, 4, 8] rfl (by decide +kernel)
set_option maxRecDepth 20000 in
theorem gX10_match_X10_isLot : GoodIn wsX10_match (va_wsS RX10 176 yX10_isLot wsX10_isLot) := goodIn_app (goodIn_of _ (by decide +kernel)) ggX10_match_X10_isLot
set_option maxRecDepth 20000 in
theorem ggX10_match_X10_within : GoodIn wsX10_match wsX10_within := goodIn_r _ [8] rfl (by decide +kernel)
set_option maxRecDepth 20000 in
theorem gX10_match_X10_within : GoodIn wsX10_match (va_wsS RX10 79 yX10_within wsX10_within) := goodIn_app (goodIn_of _ (by decide +kernel)) ggX10_match_X10_within
set_option maxRecDepth 20000 in
theorem ggX10_match_X7_apart : GoodIn wsX10_match wsX7_apart := goodIn_r _ [12, 13, 14, 15, 16, 17, 28, 29, 30, 31] rfl (by decide +kernel)
set_option maxRecDepth 20000 in
theorem gX10_match_X7_apart_n208 : GoodIn wsX10_match (wsX7_apart) := ggX10_match_X7_apart
theorem dX10_match_0 : decode cX10_match 0 = .ok (.iload_n 1, 1) := by decide +kernel
theorem dX10_match_1 : decode cX10_match 1 = .ok (.invokestatic 176, 3) := by decide +kernel
theorem dX10_match_4 : decode cX10_match 4 = .ok (.ifCond .eq 10, 3) := by decide +kernel
theorem dX10_match_7 : decode cX10_match 7 = .ok (.iload_n 2, 1) := by decide +kernel
theorem dX10_match_8 : decode cX10_match 8 = .ok (.invokestatic 176, 3) := by decide +kernel
theorem dX10_match_11 : decode cX10_match 11 = .ok (.ifCond .ne 5, 3) := by decide +kernel
theorem dX10_match_14 : decode cX10_match 14 = .ok (.iconst (-1), 1) := by decide +kernel
theorem dX10_match_15 : decode cX10_match 15 = .ok (.ireturn, 1) := by decide +kernel
theorem dX10_match_16 : decode cX10_match 16 = .ok (.iload_n 3, 1) := by decide +kernel
theorem dX10_match_17 : decode cX10_match 17 = .ok (.iconst 0, 1) := by decide +kernel
theorem dX10_match_18 : decode cX10_match 18 = .ok (.sipush 200, 3) := by decide +kernel
theorem dX10_match_21 : decode cX10_match 21 = .ok (.invokestatic 79, 3) := by decide +kernel
theorem dX10_match_24 : decode cX10_match 24 = .ok (.ifCond .ne 6, 3) := by decide +kernel
theorem dX10_match_27 : decode cX10_match 27 = .ok (.bipush (-2), 2) := by decide +kernel
theorem dX10_match_29 : decode cX10_match 29 = .ok (.ireturn, 1) := by decide +kernel
theorem dX10_match_30 : decode cX10_match 30 = .ok (.aload_n 0, 1) := by decide +kernel
theorem dX10_match_31 : decode cX10_match 31 = .ok (.getfield 47, 3) := by decide +kernel
theorem dX10_match_34 : decode cX10_match 34 = .ok (.iload_n 1, 1) := by decide +kernel
theorem dX10_match_35 : decode cX10_match 35 = .ok (.iload_n 2, 1) := by decide +kernel
theorem dX10_match_36 : decode cX10_match 36 = .ok (.invokevirtual 208, 3) := by decide +kernel
theorem dX10_match_39 : decode cX10_match 39 = .ok (.iload_n 3, 1) := by decide +kernel
theorem dX10_match_40 : decode cX10_match 40 = .ok (.if_icmp .gt 7, 3) := by decide +kernel
theorem dX10_match_43 : decode cX10_match 43 = .ok (.iconst 1, 1) := by decide +kernel
theorem dX10_match_44 : decode cX10_match 44 = .ok (.goto 4, 3) := by decide +kernel
theorem dX10_match_47 : decode cX10_match 47 = .ok (.iconst 0, 1) := by decide +kernel
theorem dX10_match_48 : decode cX10_match 48 = .ok (.ireturn, 1) := by decide +kernel
set_option maxRecDepth 20000 in
theorem ggX10_mark_X10_isSign : GoodIn wsX10_mark wsX10_isSign := goodIn_r _ [5, 6, 7, 4, 8] rfl (by decide +kernel)
set_option maxRecDepth 20000 in
theorem gX10_mark_X10_isSign : GoodIn wsX10_mark (va_wsS RX10 211 yX10_isSign wsX10_isSign) := goodIn_app (goodIn_of _ (by decide +kernel)) ggX10_mark_X10_isSign
set_option maxRecDepth 20000 in
theorem ggX10_mark_X10_within : GoodIn wsX10_mark wsX10_within := goodIn_r _ [8] rfl (by decide +kernel)
set_option maxRecDepth 20000 in
theorem gX10_mark_X10_within : GoodIn wsX10_mark (va_wsS RX10 79 yX10_within wsX10_within) := goodIn_app (goodIn_of _ (by decide +kernel)) ggX10_mark_X10_within
set_option maxRecDepth 20000 in
theorem ggX10_mark_X5_add : GoodIn wsX10_mark wsX5_add := goodIn_r _ [12, 13, 14, 15, 16, 27, 28, 29, 30] rfl (by decide +kernel)
set_option maxRecDepth 20000 in
theorem gX10_mark_X5_add_n220 : GoodIn wsX10_mark (wsX5_add) := ggX10_mark_X5_add
theorem dX10_mark_0 : decode cX10_mark 0 = .ok (.iload_n 2, 1) := by decide +kernel
theorem dX10_mark_1 : decode cX10_mark 1 = .ok (.invokestatic 211, 3) := by decide +kernel
theorem dX10_mark_4 : decode cX10_mark 4 = .ok (.ifCond .eq 30, 3) := by decide +kernel
theorem dX10_mark_7 : decode cX10_mark 7 = .ok (.iload_n 3, 1) := by decide +kernel
theorem dX10_mark_8 : decode cX10_mark 8 = .ok (.invokestatic 211, 3) := by decide +kernel
theorem dX10_mark_11 : decode cX10_mark 11 = .ok (.ifCond .eq 23, 3) := by decide +kernel
theorem dX10_mark_14 : decode cX10_mark 14 = .ok (.iload 4, 2) := by decide +kernel
theorem dX10_mark_16 : decode cX10_mark 16 = .ok (.invokestatic 211, 3) := by decide +kernel
theorem dX10_mark_19 : decode cX10_mark 19 = .ok (.ifCond .eq 15, 3) := by decide +kernel
theorem dX10_mark_22 : decode cX10_mark 22 = .ok (.iload 5, 2) := by decide +kernel
theorem dX10_mark_24 : decode cX10_mark 24 = .ok (.iconst 1, 1) := by decide +kernel
theorem dX10_mark_25 : decode cX10_mark 25 = .ok (.sipush 2000, 3) := by decide +kernel
theorem dX10_mark_28 : decode cX10_mark 28 = .ok (.invokestatic 79, 3) := by decide +kernel
theorem dX10_mark_31 : decode cX10_mark 31 = .ok (.ifCond .ne 6, 3) := by decide +kernel
theorem dX10_mark_34 : decode cX10_mark 34 = .ok (.bipush (-2), 2) := by decide +kernel
theorem dX10_mark_36 : decode cX10_mark 36 = .ok (.ireturn, 1) := by decide +kernel
theorem dX10_mark_37 : decode cX10_mark 37 = .ok (.iload_n 1, 1) := by decide +kernel
theorem dX10_mark_38 : decode cX10_mark 38 = .ok (.ifCond .eq 13, 3) := by decide +kernel
theorem dX10_mark_41 : decode cX10_mark 41 = .ok (.aload_n 0, 1) := by decide +kernel
theorem dX10_mark_42 : decode cX10_mark 42 = .ok (.getfield 54, 3) := by decide +kernel
theorem dX10_mark_45 : decode cX10_mark 45 = .ok (.getfield 214, 3) := by decide +kernel
theorem dX10_mark_48 : decode cX10_mark 48 = .ok (.goto 10, 3) := by decide +kernel
theorem dX10_mark_51 : decode cX10_mark 51 = .ok (.aload_n 0, 1) := by decide +kernel
theorem dX10_mark_52 : decode cX10_mark 52 = .ok (.getfield 54, 3) := by decide +kernel
theorem dX10_mark_55 : decode cX10_mark 55 = .ok (.getfield 217, 3) := by decide +kernel
theorem dX10_mark_58 : decode cX10_mark 58 = .ok (.bipush 8, 2) := by decide +kernel
theorem dX10_mark_60 : decode cX10_mark 60 = .ok (.if_icmp .lt 6, 3) := by decide +kernel
theorem dX10_mark_63 : decode cX10_mark 63 = .ok (.bipush (-4), 2) := by decide +kernel
theorem dX10_mark_65 : decode cX10_mark 65 = .ok (.ireturn, 1) := by decide +kernel
theorem dX10_mark_66 : decode cX10_mark 66 = .ok (.aload_n 0, 1) := by decide +kernel
theorem dX10_mark_67 : decode cX10_mark 67 = .ok (.getfield 54, 3) := by decide +kernel
theorem dX10_mark_70 : decode cX10_mark 70 = .ok (.iload_n 1, 1) := by decide +kernel
theorem dX10_mark_71 : decode cX10_mark 71 = .ok (.iload_n 2, 1) := by decide +kernel
theorem dX10_mark_72 : decode cX10_mark 72 = .ok (.iload_n 3, 1) := by decide +kernel
theorem dX10_mark_73 : decode cX10_mark 73 = .ok (.iload 4, 2) := by decide +kernel
theorem dX10_mark_75 : decode cX10_mark 75 = .ok (.iload 5, 2) := by decide +kernel
theorem dX10_mark_77 : decode cX10_mark 77 = .ok (.invokevirtual 220, 3) := by decide +kernel
theorem dX10_mark_80 : decode cX10_mark 80 = .ok (.ireturn, 1) := by decide +kernel
set_option maxRecDepth 20000 in
theorem ggX10_clear_X5_takeAway : GoodIn wsX10_clear wsX5_takeAway := goodIn_r _ [5, 6, 7, 18, 19, 20, 21] rfl (by decide +kernel)
set_option maxRecDepth 20000 in
theorem gX10_clear_X5_takeAway_n223 : GoodIn wsX10_clear (wsX5_takeAway) := ggX10_clear_X5_takeAway
theorem dX10_clear_0 : decode cX10_clear 0 = .ok (.aload_n 0, 1) := by decide +kernel
theorem dX10_clear_1 : decode cX10_clear 1 = .ok (.getfield 54, 3) := by decide +kernel
theorem dX10_clear_4 : decode cX10_clear 4 = .ok (.invokevirtual 223, 3) := by decide +kernel
theorem dX10_clear_7 : decode cX10_clear 7 = .ok (.ireturn, 1) := by decide +kernel
set_option maxRecDepth 20000 in
theorem ggX10_cost_X10_isPiece : GoodIn wsX10_cost wsX10_isPiece := goodIn_r _ [6, 1, 7, 8, 5, 9, 20, 21, 22, 23, 24, 25, 26, 27, 28, 29, 30, 31, 32, 33] rfl (by decide +kernel)
set_option maxRecDepth 20000 in
theorem gX10_cost_X10_isPiece : GoodIn wsX10_cost (wsV RX10 227 RX10 yX10_isPiece wsX10_isPiece) := goodIn_app (goodIn_of _ (by decide +kernel)) ggX10_cost_X10_isPiece
set_option maxRecDepth 20000 in
theorem ggX10_cost_X10_within : GoodIn wsX10_cost wsX10_within := goodIn_r _ [9] rfl (by decide +kernel)
set_option maxRecDepth 20000 in
theorem gX10_cost_X10_within : GoodIn wsX10_cost (va_wsS RX10 79 yX10_within wsX10_within) := goodIn_app (goodIn_of _ (by decide +kernel)) ggX10_cost_X10_within
set_option maxRecDepth 20000 in
theorem ggX10_cost_X5_price : GoodIn wsX10_cost wsX5_price := goodIn_r _ [13, 14, 15, 16, 17, 18, 19, 30, 31, 32, 33] rfl (by decide +kernel)
set_option maxRecDepth 20000 in
theorem gX10_cost_X5_price_n230 : GoodIn wsX10_cost (wsX5_price) := ggX10_cost_X5_price
theorem dX10_cost_0 : decode cX10_cost 0 = .ok (.aload_n 0, 1) := by decide +kernel
theorem dX10_cost_1 : decode cX10_cost 1 = .ok (.iload_n 1, 1) := by decide +kernel
theorem dX10_cost_2 : decode cX10_cost 2 = .ok (.invokevirtual 227, 3) := by decide +kernel
theorem dX10_cost_5 : decode cX10_cost 5 = .ok (.ifCond .eq 20, 3) := by decide +kernel
theorem dX10_cost_8 : decode cX10_cost 8 = .ok (.iload_n 2, 1) := by decide +kernel
theorem dX10_cost_9 : decode cX10_cost 9 = .ok (.iconst 0, 1) := by decide +kernel
theorem dX10_cost_10 : decode cX10_cost 10 = .ok (.aload_n 0, 1) := by decide +kernel
theorem dX10_cost_11 : decode cX10_cost 11 = .ok (.getfield 54, 3) := by decide +kernel
theorem dX10_cost_14 : decode cX10_cost 14 = .ok (.getfield 214, 3) := by decide +kernel
theorem dX10_cost_17 : decode cX10_cost 17 = .ok (.iconst 1, 1) := by decide +kernel
theorem dX10_cost_18 : decode cX10_cost 18 = .ok (.isub, 1) := by decide +kernel
theorem dX10_cost_19 : decode cX10_cost 19 = .ok (.invokestatic 79, 3) := by decide +kernel
theorem dX10_cost_22 : decode cX10_cost 22 = .ok (.ifCond .ne 5, 3) := by decide +kernel
theorem dX10_cost_25 : decode cX10_cost 25 = .ok (.iconst (-1), 1) := by decide +kernel
theorem dX10_cost_26 : decode cX10_cost 26 = .ok (.ireturn, 1) := by decide +kernel
theorem dX10_cost_27 : decode cX10_cost 27 = .ok (.aload_n 0, 1) := by decide +kernel
theorem dX10_cost_28 : decode cX10_cost 28 = .ok (.getfield 54, 3) := by decide +kernel
theorem dX10_cost_31 : decode cX10_cost 31 = .ok (.iload_n 1, 1) := by decide +kernel
theorem dX10_cost_32 : decode cX10_cost 32 = .ok (.iload_n 2, 1) := by decide +kernel
theorem dX10_cost_33 : decode cX10_cost 33 = .ok (.invokevirtual 230, 3) := by decide +kernel
theorem dX10_cost_36 : decode cX10_cost 36 = .ok (.ireturn, 1) := by decide +kernel
set_option maxRecDepth 20000 in
theorem ggX10_join_X6_bestPrice : GoodIn wsX10_join wsX6_bestPrice := goodIn_r _ [6, 7, 8, 9, 10, 4, 11, 12, 13, 14, 15, 16, 17, 18, 19, 20, 21, 22, 23, 24, 25, 26, 27, 28, 29, 30, 31, 32, 33, 34, 35, 36, 37, 38, 39, 40, 41, 42, 43, 57, 58, 59, 60, 61, 62] rfl (by decide +kernel)
set_option maxRecDepth 20000 in
theorem gX10_join_X6_bestPrice_n233 : GoodIn wsX10_join (wsX6_bestPrice) := ggX10_join_X6_bestPrice
set_option maxRecDepth 20000 in
theorem ggX10_join_X6_mostPairs : GoodIn wsX10_join wsX6_mostPairs := goodIn_r _ [46, 8, 9, 10, 4, 11, 12, 13, 14, 15, 16, 17, 18, 19, 20, 21, 22, 23, 24, 25, 7, 26, 27, 28, 29, 30, 31, 32, 33, 34, 35, 36, 37, 38, 39, 40, 41, 42, 43, 57, 58, 59, 60, 61, 62] rfl (by decide +kernel)
set_option maxRecDepth 20000 in
theorem gX10_join_X6_mostPairs_n237 : GoodIn wsX10_join (wsX6_mostPairs) := ggX10_join_X6_mostPairs
theorem dX10_join_0 : decode cX10_join 0 = .ok (.iload_n 1, 1) := by decide +kernel
theorem dX10_join_1 : decode cX10_join 1 = .ok (.ifCond .eq 17, 3) := by decide +kernel
theorem dX10_join_4 : decode cX10_join 4 = .ok (.aload_n 0, 1) := by decide +kernel
theorem dX10_join_5 : decode cX10_join 5 = .ok (.getfield 61, 3) := by decide +kernel
theorem dX10_join_8 : decode cX10_join 8 = .ok (.aload_n 0, 1) := by decide +kernel
theorem dX10_join_9 : decode cX10_join 9 = .ok (.getfield 54, 3) := by decide +kernel
theorem dX10_join_12 : decode cX10_join 12 = .ok (.invokevirtual 233, 3) := by decide +kernel
theorem dX10_join_15 : decode cX10_join 15 = .ok (.goto 14, 3) := by decide +kernel
theorem dX10_join_18 : decode cX10_join 18 = .ok (.aload_n 0, 1) := by decide +kernel
theorem dX10_join_19 : decode cX10_join 19 = .ok (.getfield 61, 3) := by decide +kernel
theorem dX10_join_22 : decode cX10_join 22 = .ok (.aload_n 0, 1) := by decide +kernel
theorem dX10_join_23 : decode cX10_join 23 = .ok (.getfield 54, 3) := by decide +kernel
theorem dX10_join_26 : decode cX10_join 26 = .ok (.invokevirtual 237, 3) := by decide +kernel
theorem dX10_join_29 : decode cX10_join 29 = .ok (.ireturn, 1) := by decide +kernel
set_option maxRecDepth 20000 in
theorem ggX10_joined_X10_isPiece : GoodIn wsX10_joined wsX10_isPiece := goodIn_r _ [7, 2, 8, 9, 6, 10, 51, 52, 53, 54, 55, 56, 57, 58, 59, 60, 61, 62, 63, 64] rfl (by decide +kernel)
set_option maxRecDepth 20000 in
theorem gX10_joined_X10_isPiece : GoodIn wsX10_joined (wsV RX10 227 RX10 yX10_isPiece wsX10_isPiece) := goodIn_app (goodIn_of _ (by decide +kernel)) ggX10_joined_X10_isPiece
set_option maxRecDepth 20000 in
theorem ggX10_joined_X6_findOf : GoodIn wsX10_joined wsX6_findOf := goodIn_r _ [14, 15, 16, 17, 18, 19, 20, 21, 22, 23, 12, 24, 25, 26, 27, 28, 29, 30, 31, 32, 33, 34, 35, 36, 37, 38, 39, 40, 41, 42, 43, 44, 45, 46, 47, 48, 49, 50, 65, 66, 61, 62, 63, 64] rfl (by decide +kernel)
set_option maxRecDepth 20000 in
theorem gX10_joined_X6_findOf_n240 : GoodIn wsX10_joined (wsX6_findOf) := ggX10_joined_X6_findOf
theorem dX10_joined_0 : decode cX10_joined 0 = .ok (.aload_n 0, 1) := by decide +kernel
theorem dX10_joined_1 : decode cX10_joined 1 = .ok (.iload_n 1, 1) := by decide +kernel
theorem dX10_joined_2 : decode cX10_joined 2 = .ok (.invokevirtual 227, 3) := by decide +kernel
theorem dX10_joined_5 : decode cX10_joined 5 = .ok (.ifCond .eq 18, 3) := by decide +kernel
theorem dX10_joined_8 : decode cX10_joined 8 = .ok (.aload_n 0, 1) := by decide +kernel
theorem dX10_joined_9 : decode cX10_joined 9 = .ok (.getfield 61, 3) := by decide +kernel
theorem dX10_joined_12 : decode cX10_joined 12 = .ok (.aload_n 0, 1) := by decide +kernel
theorem dX10_joined_13 : decode cX10_joined 13 = .ok (.getfield 54, 3) := by decide +kernel
theorem dX10_joined_16 : decode cX10_joined 16 = .ok (.iload_n 1, 1) := by decide +kernel
theorem dX10_joined_17 : decode cX10_joined 17 = .ok (.invokevirtual 240, 3) := by decide +kernel
theorem dX10_joined_20 : decode cX10_joined 20 = .ok (.goto 4, 3) := by decide +kernel
theorem dX10_joined_23 : decode cX10_joined 23 = .ok (.iconst (-1), 1) := by decide +kernel
theorem dX10_joined_24 : decode cX10_joined 24 = .ok (.ireturn, 1) := by decide +kernel
set_option maxRecDepth 20000 in
theorem ggX10_certain_X10_isPiece : GoodIn wsX10_certain wsX10_isPiece := goodIn_r _ [7, 2, 8, 9, 6, 10, 46, 47, 48, 49, 50, 51, 52, 53, 54, 55, 56, 57, 58, 59] rfl (by decide +kernel)
set_option maxRecDepth 20000 in
theorem gX10_certain_X10_isPiece : GoodIn wsX10_certain (wsV RX10 227 RX10 yX10_isPiece wsX10_isPiece) := goodIn_app (goodIn_of _ (by decide +kernel)) ggX10_certain_X10_isPiece
set_option maxRecDepth 20000 in
theorem ggX10_certain_X6_choicesOf : GoodIn wsX10_certain wsX6_choicesOf := goodIn_r _ [14, 15, 16, 17, 18, 19, 20, 21, 12, 22, 23, 24, 25, 26, 27, 28, 29, 30, 31, 32, 33, 34, 35, 36, 37, 38, 39, 40, 41, 42, 43, 44, 45, 56, 57, 58, 59, 60, 61] rfl (by decide +kernel)
set_option maxRecDepth 20000 in
theorem gX10_certain_X6_choicesOf_n244 : GoodIn wsX10_certain (wsX6_choicesOf) := ggX10_certain_X6_choicesOf
theorem dX10_certain_0 : decode cX10_certain 0 = .ok (.aload_n 0, 1) := by decide +kernel
theorem dX10_certain_1 : decode cX10_certain 1 = .ok (.iload_n 1, 1) := by decide +kernel
theorem dX10_certain_2 : decode cX10_certain 2 = .ok (.invokevirtual 227, 3) := by decide +kernel
theorem dX10_certain_5 : decode cX10_certain 5 = .ok (.ifCond .ne 5, 3) := by decide +kernel
theorem dX10_certain_8 : decode cX10_certain 8 = .ok (.iconst (-1), 1) := by decide +kernel
theorem dX10_certain_9 : decode cX10_certain 9 = .ok (.ireturn, 1) := by decide +kernel
theorem dX10_certain_10 : decode cX10_certain 10 = .ok (.aload_n 0, 1) := by decide +kernel
theorem dX10_certain_11 : decode cX10_certain 11 = .ok (.getfield 61, 3) := by decide +kernel
theorem dX10_certain_14 : decode cX10_certain 14 = .ok (.aload_n 0, 1) := by decide +kernel
theorem dX10_certain_15 : decode cX10_certain 15 = .ok (.getfield 54, 3) := by decide +kernel
theorem dX10_certain_18 : decode cX10_certain 18 = .ok (.iload_n 1, 1) := by decide +kernel
theorem dX10_certain_19 : decode cX10_certain 19 = .ok (.invokevirtual 244, 3) := by decide +kernel
theorem dX10_certain_22 : decode cX10_certain 22 = .ok (.iconst 1, 1) := by decide +kernel
theorem dX10_certain_23 : decode cX10_certain 23 = .ok (.if_icmp .ne 7, 3) := by decide +kernel
theorem dX10_certain_26 : decode cX10_certain 26 = .ok (.iconst 1, 1) := by decide +kernel
theorem dX10_certain_27 : decode cX10_certain 27 = .ok (.goto 4, 3) := by decide +kernel
theorem dX10_certain_30 : decode cX10_certain 30 = .ok (.iconst 0, 1) := by decide +kernel
theorem dX10_certain_31 : decode cX10_certain 31 = .ok (.ireturn, 1) := by decide +kernel
set_option maxRecDepth 20000 in
theorem ggX10_doubted_X10_isDraw : GoodIn wsX10_doubted wsX10_isDraw := goodIn_r _ [5, 6, 7, 4, 8] rfl (by decide +kernel)
set_option maxRecDepth 20000 in
theorem gX10_doubted_X10_isDraw : GoodIn wsX10_doubted (va_wsS RX10 247 yX10_isDraw wsX10_isDraw) := goodIn_app (goodIn_of _ (by decide +kernel)) ggX10_doubted_X10_isDraw
set_option maxRecDepth 20000 in
theorem ggX10_doubted_X10_within : GoodIn wsX10_doubted wsX10_within := goodIn_r _ [8] rfl (by decide +kernel)
set_option maxRecDepth 20000 in
theorem gX10_doubted_X10_within : GoodIn wsX10_doubted (va_wsS RX10 79 yX10_within wsX10_within) := goodIn_app (goodIn_of _ (by decide +kernel)) ggX10_doubted_X10_within
set_option maxRecDepth 20000 in
theorem ggX10_doubted_X0_isDoubted : GoodIn wsX10_doubted wsX0_isDoubted := goodIn_r _ [12, 13, 14, 15, 16, 17, 10, 18, 29, 30] rfl (by decide +kernel)
set_option maxRecDepth 20000 in
theorem gX10_doubted_X0_isDoubted_n250 : GoodIn wsX10_doubted (wsX0_isDoubted) := ggX10_doubted_X0_isDoubted
theorem dX10_doubted_0 : decode cX10_doubted 0 = .ok (.iload_n 1, 1) := by decide +kernel
theorem dX10_doubted_1 : decode cX10_doubted 1 = .ok (.iload_n 2, 1) := by decide +kernel
theorem dX10_doubted_2 : decode cX10_doubted 2 = .ok (.iload_n 3, 1) := by decide +kernel
theorem dX10_doubted_3 : decode cX10_doubted 3 = .ok (.invokestatic 247, 3) := by decide +kernel
theorem dX10_doubted_6 : decode cX10_doubted 6 = .ok (.ifCond .eq 17, 3) := by decide +kernel
theorem dX10_doubted_9 : decode cX10_doubted 9 = .ok (.iload 4, 2) := by decide +kernel
theorem dX10_doubted_11 : decode cX10_doubted 11 = .ok (.iload_n 3, 1) := by decide +kernel
theorem dX10_doubted_12 : decode cX10_doubted 12 = .ok (.iload_n 1, 1) := by decide +kernel
theorem dX10_doubted_13 : decode cX10_doubted 13 = .ok (.iload_n 2, 1) := by decide +kernel
theorem dX10_doubted_14 : decode cX10_doubted 14 = .ok (.isub, 1) := by decide +kernel
theorem dX10_doubted_15 : decode cX10_doubted 15 = .ok (.iload_n 3, 1) := by decide +kernel
theorem dX10_doubted_16 : decode cX10_doubted 16 = .ok (.iadd, 1) := by decide +kernel
theorem dX10_doubted_17 : decode cX10_doubted 17 = .ok (.invokestatic 79, 3) := by decide +kernel
theorem dX10_doubted_20 : decode cX10_doubted 20 = .ok (.ifCond .ne 6, 3) := by decide +kernel
theorem dX10_doubted_23 : decode cX10_doubted 23 = .ok (.bipush (-2), 2) := by decide +kernel
theorem dX10_doubted_25 : decode cX10_doubted 25 = .ok (.ireturn, 1) := by decide +kernel
theorem dX10_doubted_26 : decode cX10_doubted 26 = .ok (.aload_n 0, 1) := by decide +kernel
theorem dX10_doubted_27 : decode cX10_doubted 27 = .ok (.getfield 68, 3) := by decide +kernel
theorem dX10_doubted_30 : decode cX10_doubted 30 = .ok (.iload_n 1, 1) := by decide +kernel
theorem dX10_doubted_31 : decode cX10_doubted 31 = .ok (.iload_n 2, 1) := by decide +kernel
theorem dX10_doubted_32 : decode cX10_doubted 32 = .ok (.iload_n 3, 1) := by decide +kernel
theorem dX10_doubted_33 : decode cX10_doubted 33 = .ok (.iload 4, 2) := by decide +kernel
theorem dX10_doubted_35 : decode cX10_doubted 35 = .ok (.invokevirtual 250, 3) := by decide +kernel
theorem dX10_doubted_38 : decode cX10_doubted 38 = .ok (.ifCond .eq 7, 3) := by decide +kernel
theorem dX10_doubted_41 : decode cX10_doubted 41 = .ok (.iconst 1, 1) := by decide +kernel
theorem dX10_doubted_42 : decode cX10_doubted 42 = .ok (.goto 4, 3) := by decide +kernel
theorem dX10_doubted_45 : decode cX10_doubted 45 = .ok (.iconst 0, 1) := by decide +kernel
theorem dX10_doubted_46 : decode cX10_doubted 46 = .ok (.ireturn, 1) := by decide +kernel
set_option maxRecDepth 20000 in
theorem ggX10_bound_X10_isDraw : GoodIn wsX10_bound wsX10_isDraw := goodIn_r _ [5, 6, 7, 4, 8] rfl (by decide +kernel)
set_option maxRecDepth 20000 in
theorem gX10_bound_X10_isDraw : GoodIn wsX10_bound (va_wsS RX10 247 yX10_isDraw wsX10_isDraw) := goodIn_app (goodIn_of _ (by decide +kernel)) ggX10_bound_X10_isDraw
set_option maxRecDepth 20000 in
theorem ggX10_bound_X0_greatestKept : GoodIn wsX10_bound wsX0_greatestKept := goodIn_r _ [12, 13, 14, 15, 10, 16, 17, 18, 19, 20, 21, 22, 36, 37] rfl (by decide +kernel)
set_option maxRecDepth 20000 in
theorem gX10_bound_X0_greatestKept_n254 : GoodIn wsX10_bound (wsX0_greatestKept) := ggX10_bound_X0_greatestKept
set_option maxRecDepth 20000 in
theorem ggX10_bound_X0_leastKept : GoodIn wsX10_bound wsX0_leastKept := goodIn_r _ [25, 13, 14, 15, 10, 16, 17, 18, 19, 20, 21, 22, 36, 37] rfl (by decide +kernel)
set_option maxRecDepth 20000 in
theorem gX10_bound_X0_leastKept_n257 : GoodIn wsX10_bound (wsX0_leastKept) := ggX10_bound_X0_leastKept
theorem dX10_bound_0 : decode cX10_bound 0 = .ok (.iload_n 1, 1) := by decide +kernel
theorem dX10_bound_1 : decode cX10_bound 1 = .ok (.iload_n 2, 1) := by decide +kernel
theorem dX10_bound_2 : decode cX10_bound 2 = .ok (.iload_n 3, 1) := by decide +kernel
theorem dX10_bound_3 : decode cX10_bound 3 = .ok (.invokestatic 247, 3) := by decide +kernel
theorem dX10_bound_6 : decode cX10_bound 6 = .ok (.ifCond .ne 6, 3) := by decide +kernel
theorem dX10_bound_9 : decode cX10_bound 9 = .ok (.bipush (-2), 2) := by decide +kernel
theorem dX10_bound_11 : decode cX10_bound 11 = .ok (.ireturn, 1) := by decide +kernel
theorem dX10_bound_12 : decode cX10_bound 12 = .ok (.iload 4, 2) := by decide +kernel
theorem dX10_bound_14 : decode cX10_bound 14 = .ok (.ifCond .eq 16, 3) := by decide +kernel
theorem dX10_bound_17 : decode cX10_bound 17 = .ok (.aload_n 0, 1) := by decide +kernel
theorem dX10_bound_18 : decode cX10_bound 18 = .ok (.getfield 68, 3) := by decide +kernel
theorem dX10_bound_21 : decode cX10_bound 21 = .ok (.iload_n 1, 1) := by decide +kernel
theorem dX10_bound_22 : decode cX10_bound 22 = .ok (.iload_n 2, 1) := by decide +kernel
theorem dX10_bound_23 : decode cX10_bound 23 = .ok (.iload_n 3, 1) := by decide +kernel
theorem dX10_bound_24 : decode cX10_bound 24 = .ok (.invokevirtual 254, 3) := by decide +kernel
theorem dX10_bound_27 : decode cX10_bound 27 = .ok (.goto 13, 3) := by decide +kernel
theorem dX10_bound_30 : decode cX10_bound 30 = .ok (.aload_n 0, 1) := by decide +kernel
theorem dX10_bound_31 : decode cX10_bound 31 = .ok (.getfield 68, 3) := by decide +kernel
theorem dX10_bound_34 : decode cX10_bound 34 = .ok (.iload_n 1, 1) := by decide +kernel
theorem dX10_bound_35 : decode cX10_bound 35 = .ok (.iload_n 2, 1) := by decide +kernel
theorem dX10_bound_36 : decode cX10_bound 36 = .ok (.iload_n 3, 1) := by decide +kernel
theorem dX10_bound_37 : decode cX10_bound 37 = .ok (.invokevirtual 257, 3) := by decide +kernel
theorem dX10_bound_40 : decode cX10_bound 40 = .ok (.ireturn, 1) := by decide +kernel
set_option maxRecDepth 20000 in
theorem ggX10_broke_X10_within : GoodIn wsX10_broke wsX10_within := goodIn_r _ [5] rfl (by decide +kernel)
set_option maxRecDepth 20000 in
theorem gX10_broke_X10_within : GoodIn wsX10_broke (va_wsS RX10 79 yX10_within wsX10_within) := goodIn_app (goodIn_of _ (by decide +kernel)) ggX10_broke_X10_within
set_option maxRecDepth 20000 in
theorem ggX10_broke_X10_isShift : GoodIn wsX10_broke wsX10_isShift := goodIn_r _ [8, 2, 3, 4, 5] rfl (by decide +kernel)
set_option maxRecDepth 20000 in
theorem gX10_broke_X10_isShift : GoodIn wsX10_broke (va_wsS RX10 260 yX10_isShift wsX10_isShift) := goodIn_app (goodIn_of _ (by decide +kernel)) ggX10_broke_X10_isShift
set_option maxRecDepth 20000 in
theorem ggX10_broke_X1_add : GoodIn wsX10_broke wsX1_add := goodIn_r _ [12, 13, 14, 15, 16, 27, 28, 29, 30] rfl (by decide +kernel)
set_option maxRecDepth 20000 in
theorem gX10_broke_X1_add_n264 : GoodIn wsX10_broke (wsX1_add) := ggX10_broke_X1_add
theorem dX10_broke_0 : decode cX10_broke 0 = .ok (.iload_n 1, 1) := by decide +kernel
theorem dX10_broke_1 : decode cX10_broke 1 = .ok (.iconst 0, 1) := by decide +kernel
theorem dX10_broke_2 : decode cX10_broke 2 = .ok (.sipush 999, 3) := by decide +kernel
theorem dX10_broke_5 : decode cX10_broke 5 = .ok (.invokestatic 79, 3) := by decide +kernel
theorem dX10_broke_8 : decode cX10_broke 8 = .ok (.ifCond .eq 20, 3) := by decide +kernel
theorem dX10_broke_11 : decode cX10_broke 11 = .ok (.iload_n 2, 1) := by decide +kernel
theorem dX10_broke_12 : decode cX10_broke 12 = .ok (.invokestatic 260, 3) := by decide +kernel
theorem dX10_broke_15 : decode cX10_broke 15 = .ok (.ifCond .eq 13, 3) := by decide +kernel
theorem dX10_broke_18 : decode cX10_broke 18 = .ok (.iload_n 3, 1) := by decide +kernel
theorem dX10_broke_19 : decode cX10_broke 19 = .ok (.iconst 1, 1) := by decide +kernel
theorem dX10_broke_20 : decode cX10_broke 20 = .ok (.bipush 99, 2) := by decide +kernel
theorem dX10_broke_22 : decode cX10_broke 22 = .ok (.invokestatic 79, 3) := by decide +kernel
theorem dX10_broke_25 : decode cX10_broke 25 = .ok (.ifCond .ne 6, 3) := by decide +kernel
theorem dX10_broke_28 : decode cX10_broke 28 = .ok (.bipush (-2), 2) := by decide +kernel
theorem dX10_broke_30 : decode cX10_broke 30 = .ok (.ireturn, 1) := by decide +kernel
theorem dX10_broke_31 : decode cX10_broke 31 = .ok (.aload_n 0, 1) := by decide +kernel
theorem dX10_broke_32 : decode cX10_broke 32 = .ok (.getfield 75, 3) := by decide +kernel
theorem dX10_broke_35 : decode cX10_broke 35 = .ok (.getfield 263, 3) := by decide +kernel
theorem dX10_broke_38 : decode cX10_broke 38 = .ok (.bipush 60, 2) := by decide +kernel
theorem dX10_broke_40 : decode cX10_broke 40 = .ok (.if_icmp .lt 8, 3) := by decide +kernel
theorem dX10_broke_43 : decode cX10_broke 43 = .ok (.bipush (-4), 2) := by decide +kernel
theorem dX10_broke_45 : decode cX10_broke 45 = .ok (.goto 13, 3) := by decide +kernel
theorem dX10_broke_48 : decode cX10_broke 48 = .ok (.aload_n 0, 1) := by decide +kernel
theorem dX10_broke_49 : decode cX10_broke 49 = .ok (.getfield 75, 3) := by decide +kernel
theorem dX10_broke_52 : decode cX10_broke 52 = .ok (.iload_n 1, 1) := by decide +kernel
theorem dX10_broke_53 : decode cX10_broke 53 = .ok (.iload_n 2, 1) := by decide +kernel
theorem dX10_broke_54 : decode cX10_broke 54 = .ok (.iload_n 3, 1) := by decide +kernel
theorem dX10_broke_55 : decode cX10_broke 55 = .ok (.invokevirtual 264, 3) := by decide +kernel
theorem dX10_broke_58 : decode cX10_broke 58 = .ok (.ireturn, 1) := by decide +kernel
set_option maxRecDepth 20000 in
theorem ggX10_told_X10_isShift : GoodIn wsX10_told wsX10_isShift := goodIn_r _ [5, 6, 7, 4, 8] rfl (by decide +kernel)
set_option maxRecDepth 20000 in
theorem gX10_told_X10_isShift : GoodIn wsX10_told (va_wsS RX10 260 yX10_isShift wsX10_isShift) := goodIn_app (goodIn_of _ (by decide +kernel)) ggX10_told_X10_isShift
set_option maxRecDepth 20000 in
theorem ggX10_told_X10_within : GoodIn wsX10_told wsX10_within := goodIn_r _ [8] rfl (by decide +kernel)
set_option maxRecDepth 20000 in
theorem gX10_told_X10_within : GoodIn wsX10_told (va_wsS RX10 79 yX10_within wsX10_within) := goodIn_app (goodIn_of _ (by decide +kernel)) ggX10_told_X10_within
set_option maxRecDepth 20000 in
theorem ggX10_told_X1_tell : GoodIn wsX10_told wsX1_tell := goodIn_r _ [12, 13, 14, 15, 16, 7, 4, 8, 17, 18, 19, 10, 20, 31, 32, 33, 34] rfl (by decide +kernel)
set_option maxRecDepth 20000 in
theorem gX10_told_X1_tell_n265 : GoodIn wsX10_told (wsX1_tell) := ggX10_told_X1_tell
theorem dX10_told_0 : decode cX10_told 0 = .ok (.iload_n 1, 1) := by decide +kernel
theorem dX10_told_1 : decode cX10_told 1 = .ok (.invokestatic 260, 3) := by decide +kernel
theorem dX10_told_4 : decode cX10_told 4 = .ok (.ifCond .eq 25, 3) := by decide +kernel
theorem dX10_told_7 : decode cX10_told 7 = .ok (.iload_n 2, 1) := by decide +kernel
theorem dX10_told_8 : decode cX10_told 8 = .ok (.iconst 0, 1) := by decide +kernel
theorem dX10_told_9 : decode cX10_told 9 = .ok (.sipush 999, 3) := by decide +kernel
theorem dX10_told_12 : decode cX10_told 12 = .ok (.invokestatic 79, 3) := by decide +kernel
theorem dX10_told_15 : decode cX10_told 15 = .ok (.ifCond .eq 14, 3) := by decide +kernel
theorem dX10_told_18 : decode cX10_told 18 = .ok (.iload_n 3, 1) := by decide +kernel
theorem dX10_told_19 : decode cX10_told 19 = .ok (.iload_n 2, 1) := by decide +kernel
theorem dX10_told_20 : decode cX10_told 20 = .ok (.sipush 999, 3) := by decide +kernel
theorem dX10_told_23 : decode cX10_told 23 = .ok (.invokestatic 79, 3) := by decide +kernel
theorem dX10_told_26 : decode cX10_told 26 = .ok (.ifCond .ne 6, 3) := by decide +kernel
theorem dX10_told_29 : decode cX10_told 29 = .ok (.bipush (-2), 2) := by decide +kernel
theorem dX10_told_31 : decode cX10_told 31 = .ok (.ireturn, 1) := by decide +kernel
theorem dX10_told_32 : decode cX10_told 32 = .ok (.aload_n 0, 1) := by decide +kernel
theorem dX10_told_33 : decode cX10_told 33 = .ok (.getfield 75, 3) := by decide +kernel
theorem dX10_told_36 : decode cX10_told 36 = .ok (.iload_n 1, 1) := by decide +kernel
theorem dX10_told_37 : decode cX10_told 37 = .ok (.iload_n 2, 1) := by decide +kernel
theorem dX10_told_38 : decode cX10_told 38 = .ok (.iload_n 3, 1) := by decide +kernel
theorem dX10_told_39 : decode cX10_told 39 = .ok (.invokevirtual 265, 3) := by decide +kernel
theorem dX10_told_42 : decode cX10_told 42 = .ok (.ireturn, 1) := by decide +kernel
set_option maxRecDepth 20000 in
theorem ggX10_count_X9_counting : GoodIn wsX10_count wsX9_counting := goodIn_r _ [10, 11, 12, 45, 46, 47, 48, 49] rfl (by decide +kernel)
set_option maxRecDepth 20000 in
theorem gX10_count_X9_counting_n268 : GoodIn wsX10_count (wsX9_counting) := ggX10_count_X9_counting
set_option maxRecDepth 20000 in
theorem ggX10_count_X3_counting : GoodIn wsX10_count wsX3_counting := goodIn_r _ [16, 17, 18, 50, 51, 52, 53, 54, 55] rfl (by decide +kernel)
set_option maxRecDepth 20000 in
theorem gX10_count_X3_counting_n271 : GoodIn wsX10_count (wsX3_counting) := ggX10_count_X3_counting
set_option maxRecDepth 20000 in
theorem ggX10_count_X8_bookedInAll : GoodIn wsX10_count wsX8_bookedInAll := goodIn_r _ [22, 23, 56, 57] rfl (by decide +kernel)
set_option maxRecDepth 20000 in
theorem gX10_count_X8_bookedInAll_n272 : GoodIn wsX10_count (wsX8_bookedInAll) := ggX10_count_X8_bookedInAll
theorem dX10_count_0 : decode cX10_count 0 = .ok (.iload_n 1, 1) := by decide +kernel
theorem dX10_count_1 : decode cX10_count 1 = .ok (.tableswitch 99 0 6 #[43, 51, 59, 67, 75, 83, 91], 43) := by decide +kernel
theorem dX10_count_44 : decode cX10_count 44 = .ok (.aload_n 0, 1) := by decide +kernel
theorem dX10_count_45 : decode cX10_count 45 = .ok (.getfield 12, 3) := by decide +kernel
theorem dX10_count_48 : decode cX10_count 48 = .ok (.getfield 83, 3) := by decide +kernel
theorem dX10_count_51 : decode cX10_count 51 = .ok (.ireturn, 1) := by decide +kernel
theorem dX10_count_52 : decode cX10_count 52 = .ok (.aload_n 0, 1) := by decide +kernel
theorem dX10_count_53 : decode cX10_count 53 = .ok (.getfield 26, 3) := by decide +kernel
theorem dX10_count_56 : decode cX10_count 56 = .ok (.invokevirtual 268, 3) := by decide +kernel
theorem dX10_count_59 : decode cX10_count 59 = .ok (.ireturn, 1) := by decide +kernel
theorem dX10_count_60 : decode cX10_count 60 = .ok (.aload_n 0, 1) := by decide +kernel
theorem dX10_count_61 : decode cX10_count 61 = .ok (.getfield 33, 3) := by decide +kernel
theorem dX10_count_64 : decode cX10_count 64 = .ok (.invokevirtual 271, 3) := by decide +kernel
theorem dX10_count_67 : decode cX10_count 67 = .ok (.ireturn, 1) := by decide +kernel
theorem dX10_count_68 : decode cX10_count 68 = .ok (.aload_n 0, 1) := by decide +kernel
theorem dX10_count_69 : decode cX10_count 69 = .ok (.getfield 54, 3) := by decide +kernel
theorem dX10_count_72 : decode cX10_count 72 = .ok (.getfield 217, 3) := by decide +kernel
theorem dX10_count_75 : decode cX10_count 75 = .ok (.ireturn, 1) := by decide +kernel
theorem dX10_count_76 : decode cX10_count 76 = .ok (.aload_n 0, 1) := by decide +kernel
theorem dX10_count_77 : decode cX10_count 77 = .ok (.getfield 54, 3) := by decide +kernel
theorem dX10_count_80 : decode cX10_count 80 = .ok (.getfield 214, 3) := by decide +kernel
theorem dX10_count_83 : decode cX10_count 83 = .ok (.ireturn, 1) := by decide +kernel
theorem dX10_count_84 : decode cX10_count 84 = .ok (.aload_n 0, 1) := by decide +kernel
theorem dX10_count_85 : decode cX10_count 85 = .ok (.getfield 75, 3) := by decide +kernel
theorem dX10_count_88 : decode cX10_count 88 = .ok (.getfield 263, 3) := by decide +kernel
theorem dX10_count_91 : decode cX10_count 91 = .ok (.ireturn, 1) := by decide +kernel
theorem dX10_count_92 : decode cX10_count 92 = .ok (.aload_n 0, 1) := by decide +kernel
theorem dX10_count_93 : decode cX10_count 93 = .ok (.getfield 19, 3) := by decide +kernel
theorem dX10_count_96 : decode cX10_count 96 = .ok (.invokevirtual 272, 3) := by decide +kernel
theorem dX10_count_99 : decode cX10_count 99 = .ok (.ireturn, 1) := by decide +kernel
theorem dX10_count_100 : decode cX10_count 100 = .ok (.bipush (-2), 2) := by decide +kernel
theorem dX10_count_102 : decode cX10_count 102 = .ok (.ireturn, 1) := by decide +kernel
theorem dX10_within_0 : decode cX10_within 0 = .ok (.iload_n 0, 1) := by decide +kernel
theorem dX10_within_1 : decode cX10_within 1 = .ok (.iload_n 1, 1) := by decide +kernel
theorem dX10_within_2 : decode cX10_within 2 = .ok (.if_icmp .lt 12, 3) := by decide +kernel
theorem dX10_within_5 : decode cX10_within 5 = .ok (.iload_n 0, 1) := by decide +kernel
theorem dX10_within_6 : decode cX10_within 6 = .ok (.iload_n 2, 1) := by decide +kernel
theorem dX10_within_7 : decode cX10_within 7 = .ok (.if_icmp .gt 7, 3) := by decide +kernel
theorem dX10_within_10 : decode cX10_within 10 = .ok (.iconst 1, 1) := by decide +kernel
theorem dX10_within_11 : decode cX10_within 11 = .ok (.goto 4, 3) := by decide +kernel
theorem dX10_within_14 : decode cX10_within 14 = .ok (.iconst 0, 1) := by decide +kernel
theorem dX10_within_15 : decode cX10_within 15 = .ok (.ireturn, 1) := by decide +kernel
set_option maxRecDepth 20000 in
theorem ggX10_isHouse_X10_within : GoodIn wsX10_isHouse wsX10_within := goodIn_r _ [4] rfl (by decide +kernel)
set_option maxRecDepth 20000 in
theorem gX10_isHouse_X10_within : GoodIn wsX10_isHouse (va_wsS RX10 79 yX10_within wsX10_within) := goodIn_app (goodIn_of _ (by decide +kernel)) ggX10_isHouse_X10_within
theorem dX10_isHouse_0 : decode cX10_isHouse 0 = .ok (.iload_n 0, 1) := by decide +kernel
theorem dX10_isHouse_1 : decode cX10_isHouse 1 = .ok (.iconst 0, 1) := by decide +kernel
theorem dX10_isHouse_2 : decode cX10_isHouse 2 = .ok (.iconst 4, 1) := by decide +kernel
theorem dX10_isHouse_3 : decode cX10_isHouse 3 = .ok (.invokestatic 79, 3) := by decide +kernel
theorem dX10_isHouse_6 : decode cX10_isHouse 6 = .ok (.ireturn, 1) := by decide +kernel
set_option maxRecDepth 20000 in
theorem ggX10_isLot_X10_within : GoodIn wsX10_isLot wsX10_within := goodIn_r _ [4] rfl (by decide +kernel)
set_option maxRecDepth 20000 in
theorem gX10_isLot_X10_within : GoodIn wsX10_isLot (va_wsS RX10 79 yX10_within wsX10_within) := goodIn_app (goodIn_of _ (by decide +kernel)) ggX10_isLot_X10_within
theorem dX10_isLot_0 : decode cX10_isLot 0 = .ok (.iload_n 0, 1) := by decide +kernel
theorem dX10_isLot_1 : decode cX10_isLot 1 = .ok (.iconst 0, 1) := by decide +kernel
theorem dX10_isLot_2 : decode cX10_isLot 2 = .ok (.iconst 3, 1) := by decide +kernel
theorem dX10_isLot_3 : decode cX10_isLot 3 = .ok (.invokestatic 79, 3) := by decide +kernel
theorem dX10_isLot_6 : decode cX10_isLot 6 = .ok (.ireturn, 1) := by decide +kernel
set_option maxRecDepth 20000 in
theorem ggX10_isShift_X10_within : GoodIn wsX10_isShift wsX10_within := goodIn_r _ [4] rfl (by decide +kernel)
set_option maxRecDepth 20000 in
theorem gX10_isShift_X10_within : GoodIn wsX10_isShift (va_wsS RX10 79 yX10_within wsX10_within) := goodIn_app (goodIn_of _ (by decide +kernel)) ggX10_isShift_X10_within
theorem dX10_isShift_0 : decode cX10_isShift 0 = .ok (.iload_n 0, 1) := by decide +kernel
theorem dX10_isShift_1 : decode cX10_isShift 1 = .ok (.iconst 0, 1) := by decide +kernel
theorem dX10_isShift_2 : decode cX10_isShift 2 = .ok (.iconst 2, 1) := by decide +kernel
theorem dX10_isShift_3 : decode cX10_isShift 3 = .ok (.invokestatic 79, 3) := by decide +kernel
theorem dX10_isShift_6 : decode cX10_isShift 6 = .ok (.ireturn, 1) := by decide +kernel
set_option maxRecDepth 20000 in
theorem ggX10_isSign_X10_within : GoodIn wsX10_isSign wsX10_within := goodIn_r _ [4] rfl (by decide +kernel)
set_option maxRecDepth 20000 in
theorem gX10_isSign_X10_within : GoodIn wsX10_isSign (va_wsS RX10 79 yX10_within wsX10_within) := goodIn_app (goodIn_of _ (by decide +kernel)) ggX10_isSign_X10_within
theorem dX10_isSign_0 : decode cX10_isSign 0 = .ok (.iload_n 0, 1) := by decide +kernel
theorem dX10_isSign_1 : decode cX10_isSign 1 = .ok (.bipush (-9), 2) := by decide +kernel
theorem dX10_isSign_3 : decode cX10_isSign 3 = .ok (.if_icmp .eq 13, 3) := by decide +kernel
theorem dX10_isSign_6 : decode cX10_isSign 6 = .ok (.iload_n 0, 1) := by decide +kernel
theorem dX10_isSign_7 : decode cX10_isSign 7 = .ok (.iconst 0, 1) := by decide +kernel
theorem dX10_isSign_8 : decode cX10_isSign 8 = .ok (.bipush 9, 2) := by decide +kernel
theorem dX10_isSign_10 : decode cX10_isSign 10 = .ok (.invokestatic 79, 3) := by decide +kernel
theorem dX10_isSign_13 : decode cX10_isSign 13 = .ok (.ifCond .eq 7, 3) := by decide +kernel
theorem dX10_isSign_16 : decode cX10_isSign 16 = .ok (.iconst 1, 1) := by decide +kernel
theorem dX10_isSign_17 : decode cX10_isSign 17 = .ok (.goto 4, 3) := by decide +kernel
theorem dX10_isSign_20 : decode cX10_isSign 20 = .ok (.iconst 0, 1) := by decide +kernel
theorem dX10_isSign_21 : decode cX10_isSign 21 = .ok (.ireturn, 1) := by decide +kernel
set_option maxRecDepth 20000 in
theorem ggX10_isWeight_X10_within : GoodIn wsX10_isWeight wsX10_within := goodIn_r _ [5] rfl (by decide +kernel)
set_option maxRecDepth 20000 in
theorem gX10_isWeight_X10_within : GoodIn wsX10_isWeight (va_wsS RX10 79 yX10_within wsX10_within) := goodIn_app (goodIn_of _ (by decide +kernel)) ggX10_isWeight_X10_within
theorem dX10_isWeight_0 : decode cX10_isWeight 0 = .ok (.iload_n 0, 1) := by decide +kernel
theorem dX10_isWeight_1 : decode cX10_isWeight 1 = .ok (.iconst 0, 1) := by decide +kernel
theorem dX10_isWeight_2 : decode cX10_isWeight 2 = .ok (.ldc_w 275, 3) := by decide +kernel
theorem dX10_isWeight_5 : decode cX10_isWeight 5 = .ok (.invokestatic 79, 3) := by decide +kernel
theorem dX10_isWeight_8 : decode cX10_isWeight 8 = .ok (.ifCond .eq 18, 3) := by decide +kernel
theorem dX10_isWeight_11 : decode cX10_isWeight 11 = .ok (.iload_n 1, 1) := by decide +kernel
theorem dX10_isWeight_12 : decode cX10_isWeight 12 = .ok (.iconst 0, 1) := by decide +kernel
theorem dX10_isWeight_13 : decode cX10_isWeight 13 = .ok (.sipush 500, 3) := by decide +kernel
theorem dX10_isWeight_16 : decode cX10_isWeight 16 = .ok (.invokestatic 79, 3) := by decide +kernel
theorem dX10_isWeight_19 : decode cX10_isWeight 19 = .ok (.ifCond .eq 7, 3) := by decide +kernel
theorem dX10_isWeight_22 : decode cX10_isWeight 22 = .ok (.iconst 1, 1) := by decide +kernel
theorem dX10_isWeight_23 : decode cX10_isWeight 23 = .ok (.goto 4, 3) := by decide +kernel
theorem dX10_isWeight_26 : decode cX10_isWeight 26 = .ok (.iconst 0, 1) := by decide +kernel
theorem dX10_isWeight_27 : decode cX10_isWeight 27 = .ok (.ireturn, 1) := by decide +kernel
set_option maxRecDepth 20000 in
theorem ggX10_isDraw_X10_within : GoodIn wsX10_isDraw wsX10_within := goodIn_r _ [4] rfl (by decide +kernel)
set_option maxRecDepth 20000 in
theorem gX10_isDraw_X10_within : GoodIn wsX10_isDraw (va_wsS RX10 79 yX10_within wsX10_within) := goodIn_app (goodIn_of _ (by decide +kernel)) ggX10_isDraw_X10_within
theorem dX10_isDraw_0 : decode cX10_isDraw 0 = .ok (.iload_n 0, 1) := by decide +kernel
theorem dX10_isDraw_1 : decode cX10_isDraw 1 = .ok (.iconst 1, 1) := by decide +kernel
theorem dX10_isDraw_2 : decode cX10_isDraw 2 = .ok (.bipush 60, 2) := by decide +kernel
theorem dX10_isDraw_4 : decode cX10_isDraw 4 = .ok (.invokestatic 79, 3) := by decide +kernel
theorem dX10_isDraw_7 : decode cX10_isDraw 7 = .ok (.ifCond .eq 25, 3) := by decide +kernel
theorem dX10_isDraw_10 : decode cX10_isDraw 10 = .ok (.iload_n 1, 1) := by decide +kernel
theorem dX10_isDraw_11 : decode cX10_isDraw 11 = .ok (.iconst 1, 1) := by decide +kernel
theorem dX10_isDraw_12 : decode cX10_isDraw 12 = .ok (.iload_n 0, 1) := by decide +kernel
theorem dX10_isDraw_13 : decode cX10_isDraw 13 = .ok (.invokestatic 79, 3) := by decide +kernel
theorem dX10_isDraw_16 : decode cX10_isDraw 16 = .ok (.ifCond .eq 16, 3) := by decide +kernel
theorem dX10_isDraw_19 : decode cX10_isDraw 19 = .ok (.iload_n 2, 1) := by decide +kernel
theorem dX10_isDraw_20 : decode cX10_isDraw 20 = .ok (.iconst 0, 1) := by decide +kernel
theorem dX10_isDraw_21 : decode cX10_isDraw 21 = .ok (.iload_n 1, 1) := by decide +kernel
theorem dX10_isDraw_22 : decode cX10_isDraw 22 = .ok (.invokestatic 79, 3) := by decide +kernel
theorem dX10_isDraw_25 : decode cX10_isDraw 25 = .ok (.ifCond .eq 7, 3) := by decide +kernel
theorem dX10_isDraw_28 : decode cX10_isDraw 28 = .ok (.iconst 1, 1) := by decide +kernel
theorem dX10_isDraw_29 : decode cX10_isDraw 29 = .ok (.goto 4, 3) := by decide +kernel
theorem dX10_isDraw_32 : decode cX10_isDraw 32 = .ok (.iconst 0, 1) := by decide +kernel
theorem dX10_isDraw_33 : decode cX10_isDraw 33 = .ok (.ireturn, 1) := by decide +kernel
theorem dX10_cell_0 : decode cX10_cell 0 = .ok (.iload_n 0, 1) := by decide +kernel
theorem dX10_cell_1 : decode cX10_cell 1 = .ok (.bipush 6, 2) := by decide +kernel
theorem dX10_cell_3 : decode cX10_cell 3 = .ok (.imul, 1) := by decide +kernel
theorem dX10_cell_4 : decode cX10_cell 4 = .ok (.iload_n 1, 1) := by decide +kernel
theorem dX10_cell_5 : decode cX10_cell 5 = .ok (.iadd, 1) := by decide +kernel
theorem dX10_cell_6 : decode cX10_cell 6 = .ok (.ireturn, 1) := by decide +kernel
set_option maxRecDepth 20000 in
theorem ggX10_isCell_X10_isHouse : GoodIn wsX10_isCell wsX10_isHouse := goodIn_r _ [5, 6, 7, 4, 8] rfl (by decide +kernel)
set_option maxRecDepth 20000 in
theorem gX10_isCell_X10_isHouse : GoodIn wsX10_isCell (va_wsS RX10 146 yX10_isHouse wsX10_isHouse) := goodIn_app (goodIn_of _ (by decide +kernel)) ggX10_isCell_X10_isHouse
set_option maxRecDepth 20000 in
theorem ggX10_isCell_X4_has : GoodIn wsX10_isCell wsX4_has := goodIn_r _ [12, 13, 7, 4, 8, 24, 25, 26] rfl (by decide +kernel)
set_option maxRecDepth 20000 in
theorem gX10_isCell_X4_has_n159 : GoodIn wsX10_isCell (wsX4_has) := ggX10_isCell_X4_has
theorem dX10_isCell_0 : decode cX10_isCell 0 = .ok (.iload_n 1, 1) := by decide +kernel
theorem dX10_isCell_1 : decode cX10_isCell 1 = .ok (.invokestatic 146, 3) := by decide +kernel
theorem dX10_isCell_4 : decode cX10_isCell 4 = .ok (.ifCond .eq 18, 3) := by decide +kernel
theorem dX10_isCell_7 : decode cX10_isCell 7 = .ok (.aload_n 0, 1) := by decide +kernel
theorem dX10_isCell_8 : decode cX10_isCell 8 = .ok (.getfield 12, 3) := by decide +kernel
theorem dX10_isCell_11 : decode cX10_isCell 11 = .ok (.iload_n 2, 1) := by decide +kernel
theorem dX10_isCell_12 : decode cX10_isCell 12 = .ok (.invokevirtual 159, 3) := by decide +kernel
theorem dX10_isCell_15 : decode cX10_isCell 15 = .ok (.ifCond .eq 7, 3) := by decide +kernel
theorem dX10_isCell_18 : decode cX10_isCell 18 = .ok (.iconst 1, 1) := by decide +kernel
theorem dX10_isCell_19 : decode cX10_isCell 19 = .ok (.goto 4, 3) := by decide +kernel
theorem dX10_isCell_22 : decode cX10_isCell 22 = .ok (.iconst 0, 1) := by decide +kernel
theorem dX10_isCell_23 : decode cX10_isCell 23 = .ok (.ireturn, 1) := by decide +kernel
set_option maxRecDepth 20000 in
theorem ggX10_isPiece_X10_within : GoodIn wsX10_isPiece wsX10_within := goodIn_r _ [5] rfl (by decide +kernel)
set_option maxRecDepth 20000 in
theorem gX10_isPiece_X10_within : GoodIn wsX10_isPiece (va_wsS RX10 79 yX10_within wsX10_within) := goodIn_app (goodIn_of _ (by decide +kernel)) ggX10_isPiece_X10_within
theorem dX10_isPiece_0 : decode cX10_isPiece 0 = .ok (.iload_n 1, 1) := by decide +kernel
theorem dX10_isPiece_1 : decode cX10_isPiece 1 = .ok (.iconst 0, 1) := by decide +kernel
theorem dX10_isPiece_2 : decode cX10_isPiece 2 = .ok (.aload_n 0, 1) := by decide +kernel
theorem dX10_isPiece_3 : decode cX10_isPiece 3 = .ok (.getfield 54, 3) := by decide +kernel
theorem dX10_isPiece_6 : decode cX10_isPiece 6 = .ok (.getfield 217, 3) := by decide +kernel
theorem dX10_isPiece_9 : decode cX10_isPiece 9 = .ok (.iconst 1, 1) := by decide +kernel
theorem dX10_isPiece_10 : decode cX10_isPiece 10 = .ok (.isub, 1) := by decide +kernel
theorem dX10_isPiece_11 : decode cX10_isPiece 11 = .ok (.invokestatic 79, 3) := by decide +kernel
theorem dX10_isPiece_14 : decode cX10_isPiece 14 = .ok (.ireturn, 1) := by decide +kernel
set_option maxRecDepth 20000 in
theorem ggX10_trayRefusal_X4_has : GoodIn wsX10_trayRefusal wsX4_has := goodIn_r _ [5, 6, 7, 8, 9, 25, 26, 27] rfl (by decide +kernel)
set_option maxRecDepth 20000 in
theorem gX10_trayRefusal_X4_has_n159 : GoodIn wsX10_trayRefusal (wsX4_has) := ggX10_trayRefusal_X4_has
set_option maxRecDepth 20000 in
theorem ggX10_trayRefusal_X10_isWeight : GoodIn wsX10_trayRefusal wsX10_isWeight := goodIn_r _ [12, 13, 14, 7, 8, 9] rfl (by decide +kernel)
set_option maxRecDepth 20000 in
theorem gX10_trayRefusal_X10_isWeight : GoodIn wsX10_trayRefusal (va_wsS RX10 101 yX10_isWeight wsX10_isWeight) := goodIn_app (goodIn_of _ (by decide +kernel)) ggX10_trayRefusal_X10_isWeight
theorem dX10_trayRefusal_0 : decode cX10_trayRefusal 0 = .ok (.aload_n 0, 1) := by decide +kernel
theorem dX10_trayRefusal_1 : decode cX10_trayRefusal 1 = .ok (.getfield 12, 3) := by decide +kernel
theorem dX10_trayRefusal_4 : decode cX10_trayRefusal 4 = .ok (.iload_n 1, 1) := by decide +kernel
theorem dX10_trayRefusal_5 : decode cX10_trayRefusal 5 = .ok (.invokevirtual 159, 3) := by decide +kernel
theorem dX10_trayRefusal_8 : decode cX10_trayRefusal 8 = .ok (.ifCond .eq 14, 3) := by decide +kernel
theorem dX10_trayRefusal_11 : decode cX10_trayRefusal 11 = .ok (.aload_n 0, 1) := by decide +kernel
theorem dX10_trayRefusal_12 : decode cX10_trayRefusal 12 = .ok (.getfield 12, 3) := by decide +kernel
theorem dX10_trayRefusal_15 : decode cX10_trayRefusal 15 = .ok (.iload_n 2, 1) := by decide +kernel
theorem dX10_trayRefusal_16 : decode cX10_trayRefusal 16 = .ok (.invokevirtual 159, 3) := by decide +kernel
theorem dX10_trayRefusal_19 : decode cX10_trayRefusal 19 = .ok (.ifCond .ne 5, 3) := by decide +kernel
theorem dX10_trayRefusal_22 : decode cX10_trayRefusal 22 = .ok (.iconst (-1), 1) := by decide +kernel
theorem dX10_trayRefusal_23 : decode cX10_trayRefusal 23 = .ok (.ireturn, 1) := by decide +kernel
theorem dX10_trayRefusal_24 : decode cX10_trayRefusal 24 = .ok (.iload_n 3, 1) := by decide +kernel
theorem dX10_trayRefusal_25 : decode cX10_trayRefusal 25 = .ok (.iload 4, 2) := by decide +kernel
theorem dX10_trayRefusal_27 : decode cX10_trayRefusal 27 = .ok (.invokestatic 101, 3) := by decide +kernel
theorem dX10_trayRefusal_30 : decode cX10_trayRefusal 30 = .ok (.ifCond .ne 6, 3) := by decide +kernel
theorem dX10_trayRefusal_33 : decode cX10_trayRefusal 33 = .ok (.bipush (-2), 2) := by decide +kernel
theorem dX10_trayRefusal_35 : decode cX10_trayRefusal 35 = .ok (.ireturn, 1) := by decide +kernel
theorem dX10_trayRefusal_36 : decode cX10_trayRefusal 36 = .ok (.iload_n 1, 1) := by decide +kernel
theorem dX10_trayRefusal_37 : decode cX10_trayRefusal 37 = .ok (.iload_n 2, 1) := by decide +kernel
theorem dX10_trayRefusal_38 : decode cX10_trayRefusal 38 = .ok (.if_icmp .ne 8, 3) := by decide +kernel
theorem dX10_trayRefusal_41 : decode cX10_trayRefusal 41 = .ok (.bipush (-3), 2) := by decide +kernel
theorem dX10_trayRefusal_43 : decode cX10_trayRefusal 43 = .ok (.goto 4, 3) := by decide +kernel
theorem dX10_trayRefusal_46 : decode cX10_trayRefusal 46 = .ok (.iconst 0, 1) := by decide +kernel
theorem dX10_trayRefusal_47 : decode cX10_trayRefusal 47 = .ok (.ireturn, 1) := by decide +kernel
set_option maxRecDepth 20000 in
theorem ggX10_missingIn_X9_edge : GoodIn wsX10_missingIn wsX9_edge := goodIn_r _ [10, 11, 12, 13, 4, 5, 6, 14, 15, 16, 17, 18, 19, 20, 8, 21, 22, 23, 40, 41, 42, 43, 44] rfl (by decide +kernel)
set_option maxRecDepth 20000 in
theorem gX10_missingIn_X9_edge_n118 : GoodIn wsX10_missingIn (wsX9_edge) := ggX10_missingIn_X9_edge
set_option maxRecDepth 20000 in
theorem ggX10_missingIn_X8_lost : GoodIn wsX10_missingIn wsX8_lost := goodIn_r _ [27, 28, 29, 45, 46] rfl (by decide +kernel)
set_option maxRecDepth 20000 in
theorem gX10_missingIn_X8_lost_n276 : GoodIn wsX10_missingIn (wsX8_lost) := ggX10_missingIn_X8_lost
theorem dX10_missingIn_0 : decode cX10_missingIn 0 = .ok (.aload_n 0, 1) := by decide +kernel
theorem dX10_missingIn_1 : decode cX10_missingIn 1 = .ok (.getfield 26, 3) := by decide +kernel
theorem dX10_missingIn_4 : decode cX10_missingIn 4 = .ok (.iload_n 1, 1) := by decide +kernel
theorem dX10_missingIn_5 : decode cX10_missingIn 5 = .ok (.iload_n 2, 1) := by decide +kernel
theorem dX10_missingIn_6 : decode cX10_missingIn 6 = .ok (.ifCond .ne 7, 3) := by decide +kernel
theorem dX10_missingIn_9 : decode cX10_missingIn 9 = .ok (.iconst 1, 1) := by decide +kernel
theorem dX10_missingIn_10 : decode cX10_missingIn 10 = .ok (.goto 4, 3) := by decide +kernel
theorem dX10_missingIn_13 : decode cX10_missingIn 13 = .ok (.iconst 0, 1) := by decide +kernel
theorem dX10_missingIn_14 : decode cX10_missingIn 14 = .ok (.invokevirtual 118, 3) := by decide +kernel
theorem dX10_missingIn_17 : decode cX10_missingIn 17 = .ok (.istore_n 3, 1) := by decide +kernel
theorem dX10_missingIn_18 : decode cX10_missingIn 18 = .ok (.iload_n 3, 1) := by decide +kernel
theorem dX10_missingIn_19 : decode cX10_missingIn 19 = .ok (.bipush (-9), 2) := by decide +kernel
theorem dX10_missingIn_21 : decode cX10_missingIn 21 = .ok (.if_icmp .ne 8, 3) := by decide +kernel
theorem dX10_missingIn_24 : decode cX10_missingIn 24 = .ok (.bipush (-9), 2) := by decide +kernel
theorem dX10_missingIn_26 : decode cX10_missingIn 26 = .ok (.goto 17, 3) := by decide +kernel
theorem dX10_missingIn_29 : decode cX10_missingIn 29 = .ok (.iconst 0, 1) := by decide +kernel
theorem dX10_missingIn_30 : decode cX10_missingIn 30 = .ok (.aload_n 0, 1) := by decide +kernel
theorem dX10_missingIn_31 : decode cX10_missingIn 31 = .ok (.getfield 19, 3) := by decide +kernel
theorem dX10_missingIn_34 : decode cX10_missingIn 34 = .ok (.iload_n 1, 1) := by decide +kernel
theorem dX10_missingIn_35 : decode cX10_missingIn 35 = .ok (.invokevirtual 276, 3) := by decide +kernel
theorem dX10_missingIn_38 : decode cX10_missingIn 38 = .ok (.iload_n 3, 1) := by decide +kernel
theorem dX10_missingIn_39 : decode cX10_missingIn 39 = .ok (.isub, 1) := by decide +kernel
theorem dX10_missingIn_40 : decode cX10_missingIn 40 = .ok (.invokestatic 279, 3) := by decide +kernel
theorem dX10_missingIn_43 : decode cX10_missingIn 43 = .ok (.ireturn, 1) := by decide +kernel
set_option maxRecDepth 20000 in
theorem ggX10_missingInHouse_X10_cell : GoodIn wsX10_missingInHouse wsX10_cell := goodIn_r _ [9] rfl (by decide +kernel)
set_option maxRecDepth 20000 in
theorem gX10_missingInHouse_X10_cell : GoodIn wsX10_missingInHouse (va_wsS RX10 95 yX10_cell wsX10_cell) := goodIn_app (goodIn_of _ (by decide +kernel)) ggX10_missingInHouse_X10_cell
set_option maxRecDepth 20000 in
theorem ggX10_missingInHouse_X10_missingIn : GoodIn wsX10_missingInHouse wsX10_missingIn := goodIn_r _ [13, 14, 15, 2, 3, 4, 5, 16, 17, 18, 19, 20, 21, 22, 23, 24, 25, 26, 27, 28, 29, 30, 31, 32, 33, 34, 35, 36, 37, 38, 39, 40, 41, 42, 43, 44, 45, 46, 47, 48, 52, 53, 54, 55, 56, 57, 58] rfl (by decide +kernel)
set_option maxRecDepth 20000 in
theorem gX10_missingInHouse_X10_missingIn : GoodIn wsX10_missingInHouse (wsV RX10 140 RX10 yX10_missingIn wsX10_missingIn) := goodIn_app (goodIn_of _ (by decide +kernel)) ggX10_missingInHouse_X10_missingIn
theorem dX10_missingInHouse_0 : decode cX10_missingInHouse 0 = .ok (.iconst 0, 1) := by decide +kernel
theorem dX10_missingInHouse_1 : decode cX10_missingInHouse 1 = .ok (.istore_n 2, 1) := by decide +kernel
theorem dX10_missingInHouse_2 : decode cX10_missingInHouse 2 = .ok (.iconst 0, 1) := by decide +kernel
theorem dX10_missingInHouse_3 : decode cX10_missingInHouse 3 = .ok (.istore_n 3, 1) := by decide +kernel
theorem dX10_missingInHouse_4 : decode cX10_missingInHouse 4 = .ok (.iload_n 3, 1) := by decide +kernel
theorem dX10_missingInHouse_5 : decode cX10_missingInHouse 5 = .ok (.aload_n 0, 1) := by decide +kernel
theorem dX10_missingInHouse_6 : decode cX10_missingInHouse 6 = .ok (.getfield 12, 3) := by decide +kernel
theorem dX10_missingInHouse_9 : decode cX10_missingInHouse 9 = .ok (.getfield 83, 3) := by decide +kernel
theorem dX10_missingInHouse_12 : decode cX10_missingInHouse 12 = .ok (.if_icmp .ge 26, 3) := by decide +kernel
theorem dX10_missingInHouse_15 : decode cX10_missingInHouse 15 = .ok (.iload_n 2, 1) := by decide +kernel
theorem dX10_missingInHouse_16 : decode cX10_missingInHouse 16 = .ok (.iconst 0, 1) := by decide +kernel
theorem dX10_missingInHouse_17 : decode cX10_missingInHouse 17 = .ok (.aload_n 0, 1) := by decide +kernel
theorem dX10_missingInHouse_18 : decode cX10_missingInHouse 18 = .ok (.iload_n 1, 1) := by decide +kernel
theorem dX10_missingInHouse_19 : decode cX10_missingInHouse 19 = .ok (.iload_n 3, 1) := by decide +kernel
theorem dX10_missingInHouse_20 : decode cX10_missingInHouse 20 = .ok (.invokestatic 95, 3) := by decide +kernel
theorem dX10_missingInHouse_23 : decode cX10_missingInHouse 23 = .ok (.iconst 0, 1) := by decide +kernel
theorem dX10_missingInHouse_24 : decode cX10_missingInHouse 24 = .ok (.invokevirtual 140, 3) := by decide +kernel
theorem dX10_missingInHouse_27 : decode cX10_missingInHouse 27 = .ok (.invokestatic 279, 3) := by decide +kernel
theorem dX10_missingInHouse_30 : decode cX10_missingInHouse 30 = .ok (.iadd, 1) := by decide +kernel
theorem dX10_missingInHouse_31 : decode cX10_missingInHouse 31 = .ok (.istore_n 2, 1) := by decide +kernel
theorem dX10_missingInHouse_32 : decode cX10_missingInHouse 32 = .ok (.iinc 3 1, 3) := by decide +kernel
theorem dX10_missingInHouse_35 : decode cX10_missingInHouse 35 = .ok (.goto (-31), 3) := by decide +kernel
theorem dX10_missingInHouse_38 : decode cX10_missingInHouse 38 = .ok (.iload_n 2, 1) := by decide +kernel
theorem dX10_missingInHouse_39 : decode cX10_missingInHouse 39 = .ok (.ireturn, 1) := by decide +kernel
