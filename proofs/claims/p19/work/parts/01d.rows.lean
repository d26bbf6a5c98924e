theorem dX4_drawAnew_1 : decode cX4_drawAnew 1 = .ok (.getfield 19, 3) := by decide +kernel
theorem dX4_drawAnew_4 : decode cX4_drawAnew 4 = .ok (.iconst 0, 1) := by decide +kernel
theorem dX4_drawAnew_5 : decode cX4_drawAnew 5 = .ok (.aload_n 0, 1) := by decide +kernel
theorem dX4_drawAnew_6 : decode cX4_drawAnew 6 = .ok (.getfield 23, 3) := by decide +kernel
theorem dX4_drawAnew_9 : decode cX4_drawAnew 9 = .ok (.iconst 0, 1) := by decide +kernel
theorem dX4_drawAnew_10 : decode cX4_drawAnew 10 = .ok (.bipush 64, 2) := by decide +kernel
theorem dX4_drawAnew_12 : decode cX4_drawAnew 12 = .ok (.invokestatic 115, 3) := by decide +kernel
theorem dX4_drawAnew_15 : decode cX4_drawAnew 15 = .ok (.iload_n 1, 1) := by decide +kernel
theorem dX4_drawAnew_16 : decode cX4_drawAnew 16 = .ok (.ifCond .ne 7, 3) := by decide +kernel
theorem dX4_drawAnew_19 : decode cX4_drawAnew 19 = .ok (.iconst 0, 1) := by decide +kernel
theorem dX4_drawAnew_20 : decode cX4_drawAnew 20 = .ok (.goto 11, 3) := by decide +kernel
theorem dX4_drawAnew_23 : decode cX4_drawAnew 23 = .ok (.aload_n 0, 1) := by decide +kernel
theorem dX4_drawAnew_24 : decode cX4_drawAnew 24 = .ok (.getfield 15, 3) := by decide +kernel
theorem dX4_drawAnew_27 : decode cX4_drawAnew 27 = .ok (.iload_n 1, 1) := by decide +kernel
theorem dX4_drawAnew_28 : decode cX4_drawAnew 28 = .ok (.invokevirtual 74, 3) := by decide +kernel
theorem dX4_drawAnew_31 : decode cX4_drawAnew 31 = .ok (.istore_n 3, 1) := by decide +kernel
theorem dX4_drawAnew_32 : decode cX4_drawAnew 32 = .ok (.iconst 0, 1) := by decide +kernel
theorem dX4_drawAnew_33 : decode cX4_drawAnew 33 = .ok (.istore 4, 2) := by decide +kernel
theorem dX4_drawAnew_35 : decode cX4_drawAnew 35 = .ok (.iload 4, 2) := by decide +kernel
theorem dX4_drawAnew_37 : decode cX4_drawAnew 37 = .ok (.iload_n 2, 1) := by decide +kernel
theorem dX4_drawAnew_38 : decode cX4_drawAnew 38 = .ok (.if_icmp .ge 93, 3) := by decide +kernel
theorem dX4_drawAnew_41 : decode cX4_drawAnew 41 = .ok (.iload 4, 2) := by decide +kernel
theorem dX4_drawAnew_43 : decode cX4_drawAnew 43 = .ok (.bipush 64, 2) := by decide +kernel
theorem dX4_drawAnew_45 : decode cX4_drawAnew 45 = .ok (.if_icmp .ge 86, 3) := by decide +kernel
theorem dX4_drawAnew_48 : decode cX4_drawAnew 48 = .ok (.aload_n 0, 1) := by decide +kernel
theorem dX4_drawAnew_49 : decode cX4_drawAnew 49 = .ok (.getfield 15, 3) := by decide +kernel
theorem dX4_drawAnew_52 : decode cX4_drawAnew 52 = .ok (.sipush 256, 3) := by decide +kernel
theorem dX4_drawAnew_55 : decode cX4_drawAnew 55 = .ok (.invokevirtual 74, 3) := by decide +kernel
theorem dX4_drawAnew_58 : decode cX4_drawAnew 58 = .ok (.aload_n 0, 1) := by decide +kernel
theorem dX4_drawAnew_59 : decode cX4_drawAnew 59 = .ok (.getfield 40, 3) := by decide +kernel
theorem dX4_drawAnew_62 : decode cX4_drawAnew 62 = .ok (.if_icmp .ge 7, 3) := by decide +kernel
theorem dX4_drawAnew_65 : decode cX4_drawAnew 65 = .ok (.iconst 1, 1) := by decide +kernel
theorem dX4_drawAnew_66 : decode cX4_drawAnew 66 = .ok (.goto 4, 3) := by decide +kernel
theorem dX4_drawAnew_69 : decode cX4_drawAnew 69 = .ok (.iconst 0, 1) := by decide +kernel
theorem dX4_drawAnew_70 : decode cX4_drawAnew 70 = .ok (.istore 5, 2) := by decide +kernel
theorem dX4_drawAnew_72 : decode cX4_drawAnew 72 = .ok (.iload_n 1, 1) := by decide +kernel
theorem dX4_drawAnew_73 : decode cX4_drawAnew 73 = .ok (.ifCond .eq 8, 3) := by decide +kernel
theorem dX4_drawAnew_76 : decode cX4_drawAnew 76 = .ok (.iload 5, 2) := by decide +kernel
theorem dX4_drawAnew_78 : decode cX4_drawAnew 78 = .ok (.ifCond .eq 24, 3) := by decide +kernel
theorem dX4_drawAnew_81 : decode cX4_drawAnew 81 = .ok (.aload_n 0, 1) := by decide +kernel
theorem dX4_drawAnew_82 : decode cX4_drawAnew 82 = .ok (.getfield 19, 3) := by decide +kernel
theorem dX4_drawAnew_85 : decode cX4_drawAnew 85 = .ok (.iload 4, 2) := by decide +kernel
theorem dX4_drawAnew_87 : decode cX4_drawAnew 87 = .ok (.aload_n 0, 1) := by decide +kernel
theorem dX4_drawAnew_88 : decode cX4_drawAnew 88 = .ok (.getfield 9, 3) := by decide +kernel
theorem dX4_drawAnew_91 : decode cX4_drawAnew 91 = .ok (.aload_n 0, 1) := by decide +kernel
theorem dX4_drawAnew_92 : decode cX4_drawAnew 92 = .ok (.getfield 15, 3) := by decide +kernel
theorem dX4_drawAnew_95 : decode cX4_drawAnew 95 = .ok (.invokevirtual 50, 3) := by decide +kernel
theorem dX4_drawAnew_98 : decode cX4_drawAnew 98 = .ok (.iastore, 1) := by decide +kernel
theorem dX4_drawAnew_99 : decode cX4_drawAnew 99 = .ok (.goto 26, 3) := by decide +kernel
theorem dX4_drawAnew_102 : decode cX4_drawAnew 102 = .ok (.aload_n 0, 1) := by decide +kernel
theorem dX4_drawAnew_103 : decode cX4_drawAnew 103 = .ok (.getfield 19, 3) := by decide +kernel
theorem dX4_drawAnew_106 : decode cX4_drawAnew 106 = .ok (.iload 4, 2) := by decide +kernel
theorem dX4_drawAnew_108 : decode cX4_drawAnew 108 = .ok (.aload_n 0, 1) := by decide +kernel
theorem dX4_drawAnew_109 : decode cX4_drawAnew 109 = .ok (.iload_n 3, 1) := by decide +kernel
theorem dX4_drawAnew_110 : decode cX4_drawAnew 110 = .ok (.iload 4, 2) := by decide +kernel
theorem dX4_drawAnew_112 : decode cX4_drawAnew 112 = .ok (.iload_n 1, 1) := by decide +kernel
theorem dX4_drawAnew_113 : decode cX4_drawAnew 113 = .ok (.imul, 1) := by decide +kernel
theorem dX4_drawAnew_114 : decode cX4_drawAnew 114 = .ok (.iadd, 1) := by decide +kernel
theorem dX4_drawAnew_115 : decode cX4_drawAnew 115 = .ok (.i2l, 1) := by decide +kernel
theorem dX4_drawAnew_116 : decode cX4_drawAnew 116 = .ok (.iload_n 2, 1) := by decide +kernel
theorem dX4_drawAnew_117 : decode cX4_drawAnew 117 = .ok (.i2l, 1) := by decide +kernel
theorem dX4_drawAnew_118 : decode cX4_drawAnew 118 = .ok (.invokestatic 83, 3) := by decide +kernel
theorem dX4_drawAnew_121 : decode cX4_drawAnew 121 = .ok (.invokevirtual 121, 3) := by decide +kernel
theorem dX4_drawAnew_124 : decode cX4_drawAnew 124 = .ok (.iastore, 1) := by decide +kernel
theorem dX4_drawAnew_125 : decode cX4_drawAnew 125 = .ok (.iinc 4 1, 3) := by decide +kernel
theorem dX4_drawAnew_128 : decode cX4_drawAnew 128 = .ok (.goto (-93), 3) := by decide +kernel
theorem dX4_drawAnew_131 : decode cX4_drawAnew 131 = .ok (.aload_n 0, 1) := by decide +kernel
theorem dX4_drawAnew_132 : decode cX4_drawAnew 132 = .ok (.iload_n 2, 1) := by decide +kernel
theorem dX4_drawAnew_133 : decode cX4_drawAnew 133 = .ok (.putfield 36, 3) := by decide +kernel
theorem dX4_drawAnew_136 : decode cX4_drawAnew 136 = .ok (.return_, 1) := by decide +kernel
theorem dX4_oldCellBeyond_0 : decode cX4_oldCellBeyond 0 = .ok (.iconst 0, 1) := by decide +kernel
theorem dX4_oldCellBeyond_1 : decode cX4_oldCellBeyond 1 = .ok (.istore_n 3, 1) := by decide +kernel
theorem dX4_oldCellBeyond_2 : decode cX4_oldCellBeyond 2 = .ok (.iconst 0, 1) := by decide +kernel
theorem dX4_oldCellBeyond_3 : decode cX4_oldCellBeyond 3 = .ok (.istore 4, 2) := by decide +kernel
theorem dX4_oldCellBeyond_5 : decode cX4_oldCellBeyond 5 = .ok (.iload 4, 2) := by decide +kernel
theorem dX4_oldCellBeyond_7 : decode cX4_oldCellBeyond 7 = .ok (.aload_n 0, 1) := by decide +kernel
theorem dX4_oldCellBeyond_8 : decode cX4_oldCellBeyond 8 = .ok (.getfield 36, 3) := by decide +kernel
theorem dX4_oldCellBeyond_11 : decode cX4_oldCellBeyond 11 = .ok (.if_icmp .ge 41, 3) := by decide +kernel
theorem dX4_oldCellBeyond_14 : decode cX4_oldCellBeyond 14 = .ok (.iload 4, 2) := by decide +kernel
theorem dX4_oldCellBeyond_16 : decode cX4_oldCellBeyond 16 = .ok (.bipush 64, 2) := by decide +kernel
theorem dX4_oldCellBeyond_18 : decode cX4_oldCellBeyond 18 = .ok (.if_icmp .ge 34, 3) := by decide +kernel
theorem dX4_oldCellBeyond_21 : decode cX4_oldCellBeyond 21 = .ok (.iload_n 3, 1) := by decide +kernel
theorem dX4_oldCellBeyond_22 : decode cX4_oldCellBeyond 22 = .ok (.aload_n 0, 1) := by decide +kernel
theorem dX4_oldCellBeyond_23 : decode cX4_oldCellBeyond 23 = .ok (.getfield 26, 3) := by decide +kernel
theorem dX4_oldCellBeyond_26 : decode cX4_oldCellBeyond 26 = .ok (.iload 4, 2) := by decide +kernel
theorem dX4_oldCellBeyond_28 : decode cX4_oldCellBeyond 28 = .ok (.iaload, 1) := by decide +kernel
theorem dX4_oldCellBeyond_29 : decode cX4_oldCellBeyond 29 = .ok (.iadd, 1) := by decide +kernel
theorem dX4_oldCellBeyond_30 : decode cX4_oldCellBeyond 30 = .ok (.istore_n 3, 1) := by decide +kernel
theorem dX4_oldCellBeyond_31 : decode cX4_oldCellBeyond 31 = .ok (.iload_n 3, 1) := by decide +kernel
theorem dX4_oldCellBeyond_32 : decode cX4_oldCellBeyond 32 = .ok (.i2l, 1) := by decide +kernel
theorem dX4_oldCellBeyond_33 : decode cX4_oldCellBeyond 33 = .ok (.lload_n 1, 1) := by decide +kernel
theorem dX4_oldCellBeyond_34 : decode cX4_oldCellBeyond 34 = .ok (.lcmp, 1) := by decide +kernel
theorem dX4_oldCellBeyond_35 : decode cX4_oldCellBeyond 35 = .ok (.ifCond .le 11, 3) := by decide +kernel
theorem dX4_oldCellBeyond_38 : decode cX4_oldCellBeyond 38 = .ok (.aload_n 0, 1) := by decide +kernel
theorem dX4_oldCellBeyond_39 : decode cX4_oldCellBeyond 39 = .ok (.getfield 23, 3) := by decide +kernel
theorem dX4_oldCellBeyond_42 : decode cX4_oldCellBeyond 42 = .ok (.iload 4, 2) := by decide +kernel
theorem dX4_oldCellBeyond_44 : decode cX4_oldCellBeyond 44 = .ok (.iaload, 1) := by decide +kernel
theorem dX4_oldCellBeyond_45 : decode cX4_oldCellBeyond 45 = .ok (.ireturn, 1) := by decide +kernel
theorem dX4_oldCellBeyond_46 : decode cX4_oldCellBeyond 46 = .ok (.iinc 4 1, 3) := by decide +kernel
theorem dX4_oldCellBeyond_49 : decode cX4_oldCellBeyond 49 = .ok (.goto (-44), 3) := by decide +kernel
theorem dX4_oldCellBeyond_52 : decode cX4_oldCellBeyond 52 = .ok (.aload_n 0, 1) := by decide +kernel
theorem dX4_oldCellBeyond_53 : decode cX4_oldCellBeyond 53 = .ok (.getfield 23, 3) := by decide +kernel
theorem dX4_oldCellBeyond_56 : decode cX4_oldCellBeyond 56 = .ok (.iconst 0, 1) := by decide +kernel
theorem dX4_oldCellBeyond_57 : decode cX4_oldCellBeyond 57 = .ok (.iaload, 1) := by decide +kernel
theorem dX4_oldCellBeyond_58 : decode cX4_oldCellBeyond 58 = .ok (.ireturn, 1) := by decide +kernel
set_option maxRecDepth 20000 in
theorem ggX5_init_X3_init : GoodIn wsX5_init wsX3_init := goodIn_r _ [28, 29, 2, 3, 30, 31, 21, 32, 33, 34, 35, 6, 36, 37, 38, 39, 40, 41, 42, 43, 44, 45, 46, 47, 48, 49, 50, 51, 52, 53, 54, 55, 56, 57, 58, 59, 94, 95, 96] (by decide +kernel) (by decide +kernel)
set_option maxRecDepth 20000 in
theorem gX5_init_X3_init : GoodIn wsX5_init (wsX3_init) := ggX5_init_X3_init
set_option maxRecDepth 20000 in
theorem ggX5_init_X1_init : GoodIn wsX5_init wsX1_init := goodIn_r _ [62, 63, 2, 3, 64, 106] (by decide +kernel) (by decide +kernel)
set_option maxRecDepth 20000 in
theorem gX5_init_X1_init : GoodIn wsX5_init (wsX1_init) := ggX5_init_X1_init
set_option maxRecDepth 20000 in
theorem ggX5_init_X4_init : GoodIn wsX5_init wsX4_init := goodIn_r _ [67, 68, 2, 3, 69, 70, 21, 71, 72, 73, 74, 75, 76, 77, 78, 79, 80, 81, 82, 83, 84, 107, 108, 109, 110, 111, 112, 113, 114, 115, 116, 117, 121] (by decide +kernel) (by decide +kernel)
set_option maxRecDepth 20000 in
theorem gX5_init_X4_init : GoodIn wsX5_init (wsX4_init) := ggX5_init_X4_init
set_option maxRecDepth 20000 in
theorem ggX5_init_X0_init : GoodIn wsX5_init wsX0_init := goodIn_r _ [87, 88, 2, 3, 89, 90, 75, 76, 91, 92, 93, 80, 81, 82, 83, 84, 118, 119, 120, 121] (by decide +kernel) (by decide +kernel)
set_option maxRecDepth 20000 in
theorem gX5_init_X0_init : GoodIn wsX5_init (wsX0_init) := ggX5_init_X0_init
theorem dX5_init_0 : decode cX5_init 0 = .ok (.aload_n 0, 1) := by decide +kernel
theorem dX5_init_1 : decode cX5_init 1 = .ok (.invokespecial 1, 3) := by decide +kernel
theorem dX5_init_4 : decode cX5_init 4 = .ok (.aload_n 0, 1) := by decide +kernel
theorem dX5_init_5 : decode cX5_init 5 = .ok (.new 7, 3) := by decide +kernel
theorem dX5_init_8 : decode cX5_init 8 = .ok (.dup, 1) := by decide +kernel
theorem dX5_init_9 : decode cX5_init 9 = .ok (.invokespecial 9, 3) := by decide +kernel
theorem dX5_init_12 : decode cX5_init 12 = .ok (.putfield 10, 3) := by decide +kernel
theorem dX5_init_15 : decode cX5_init 15 = .ok (.aload_n 0, 1) := by decide +kernel
theorem dX5_init_16 : decode cX5_init 16 = .ok (.new 16, 3) := by decide +kernel
theorem dX5_init_19 : decode cX5_init 19 = .ok (.dup, 1) := by decide +kernel
theorem dX5_init_20 : decode cX5_init 20 = .ok (.invokespecial 18, 3) := by decide +kernel
theorem dX5_init_23 : decode cX5_init 23 = .ok (.putfield 19, 3) := by decide +kernel
theorem dX5_init_26 : decode cX5_init 26 = .ok (.aload_n 0, 1) := by decide +kernel
theorem dX5_init_27 : decode cX5_init 27 = .ok (.new 23, 3) := by decide +kernel
theorem dX5_init_30 : decode cX5_init 30 = .ok (.dup, 1) := by decide +kernel
theorem dX5_init_31 : decode cX5_init 31 = .ok (.aload_n 0, 1) := by decide +kernel
theorem dX5_init_32 : decode cX5_init 32 = .ok (.getfield 10, 3) := by decide +kernel
theorem dX5_init_35 : decode cX5_init 35 = .ok (.aload_n 0, 1) := by decide +kernel
theorem dX5_init_36 : decode cX5_init 36 = .ok (.getfield 19, 3) := by decide +kernel
theorem dX5_init_39 : decode cX5_init 39 = .ok (.invokespecial 25, 3) := by decide +kernel
theorem dX5_init_42 : decode cX5_init 42 = .ok (.putfield 28, 3) := by decide +kernel
theorem dX5_init_45 : decode cX5_init 45 = .ok (.aload_n 0, 1) := by decide +kernel
theorem dX5_init_46 : decode cX5_init 46 = .ok (.new 32, 3) := by decide +kernel
theorem dX5_init_49 : decode cX5_init 49 = .ok (.dup, 1) := by decide +kernel
theorem dX5_init_50 : decode cX5_init 50 = .ok (.aload_n 0, 1) := by decide +kernel
theorem dX5_init_51 : decode cX5_init 51 = .ok (.getfield 10, 3) := by decide +kernel
theorem dX5_init_54 : decode cX5_init 54 = .ok (.invokespecial 34, 3) := by decide +kernel
theorem dX5_init_57 : decode cX5_init 57 = .ok (.putfield 37, 3) := by decide +kernel
theorem dX5_init_60 : decode cX5_init 60 = .ok (.aload_n 0, 1) := by decide +kernel
theorem dX5_init_61 : decode cX5_init 61 = .ok (.new 32, 3) := by decide +kernel
theorem dX5_init_64 : decode cX5_init 64 = .ok (.dup, 1) := by decide +kernel
theorem dX5_init_65 : decode cX5_init 65 = .ok (.aload_n 0, 1) := by decide +kernel
theorem dX5_init_66 : decode cX5_init 66 = .ok (.getfield 10, 3) := by decide +kernel
theorem dX5_init_69 : decode cX5_init 69 = .ok (.invokespecial 34, 3) := by decide +kernel
theorem dX5_init_72 : decode cX5_init 72 = .ok (.putfield 41, 3) := by decide +kernel
theorem dX5_init_75 : decode cX5_init 75 = .ok (.aload_n 0, 1) := by decide +kernel
theorem dX5_init_76 : decode cX5_init 76 = .ok (.sipush 300, 3) := by decide +kernel
theorem dX5_init_79 : decode cX5_init 79 = .ok (.newarray .int, 2) := by decide +kernel
theorem dX5_init_81 : decode cX5_init 81 = .ok (.putfield 44, 3) := by decide +kernel
theorem dX5_init_84 : decode cX5_init 84 = .ok (.aload_n 0, 1) := by decide +kernel
theorem dX5_init_85 : decode cX5_init 85 = .ok (.sipush 300, 3) := by decide +kernel
theorem dX5_init_88 : decode cX5_init 88 = .ok (.newarray .int, 2) := by decide +kernel
theorem dX5_init_90 : decode cX5_init 90 = .ok (.putfield 48, 3) := by decide +kernel
theorem dX5_init_93 : decode cX5_init 93 = .ok (.aload_n 0, 1) := by decide +kernel
theorem dX5_init_94 : decode cX5_init 94 = .ok (.iconst 0, 1) := by decide +kernel
theorem dX5_init_95 : decode cX5_init 95 = .ok (.putfield 51, 3) := by decide +kernel
theorem dX5_init_98 : decode cX5_init 98 = .ok (.aload_n 0, 1) := by decide +kernel
theorem dX5_init_99 : decode cX5_init 99 = .ok (.iconst 0, 1) := by decide +kernel
theorem dX5_init_100 : decode cX5_init 100 = .ok (.putfield 55, 3) := by decide +kernel
theorem dX5_init_103 : decode cX5_init 103 = .ok (.return_, 1) := by decide +kernel
set_option maxRecDepth 20000 in
theorem ggX5_wall_X5_checkCell : GoodIn wsX5_wall wsX5_checkCell := goodIn_ca (goodIn_r _ [8, 9, 10, 11, 12, 7, 13] (by decide +kernel) (by decide +kernel)) (goodIn_sub (fun _ h => List.mem_cons_of_mem _ (List.mem_append_right _ h)) (by decide +kernel))
set_option maxRecDepth 20000 in
theorem gX5_wall_X5_checkCell : GoodIn wsX5_wall (va_wsS RX5 59 yX5_checkCell wsX5_checkCell) := goodIn_app (goodIn_of _ (by decide +kernel)) ggX5_wall_X5_checkCell
set_option maxRecDepth 20000 in
theorem ggX5_wall_X5_numberOf : GoodIn wsX5_wall wsX5_numberOf := goodIn_r _ [16] (by decide +kernel) (by decide +kernel)
set_option maxRecDepth 20000 in
theorem gX5_wall_X5_numberOf : GoodIn wsX5_wall (va_wsS RX5 63 yX5_numberOf wsX5_numberOf) := goodIn_app (goodIn_of _ (by decide +kernel)) ggX5_wall_X5_numberOf
set_option maxRecDepth 20000 in
theorem ggX5_wall_X3_isFree : GoodIn wsX5_wall wsX3_isFree := goodIn_r _ [21, 22, 23, 7, 24, 60, 61, 62] (by decide +kernel) (by decide +kernel)
set_option maxRecDepth 20000 in
theorem gX5_wall_X3_isFree : GoodIn wsX5_wall (wsV RX5 67 RX3 yX3_isFree wsX3_isFree) := goodIn_app (goodIn_of _ (by decide +kernel)) ggX5_wall_X3_isFree
set_option maxRecDepth 20000 in
theorem ggX5_wall_X3_freeCells : GoodIn wsX5_wall wsX3_freeCells := goodIn_r _ [28, 29, 60, 61, 62] (by decide +kernel) (by decide +kernel)
set_option maxRecDepth 20000 in
theorem gX5_wall_X3_freeCells : GoodIn wsX5_wall (wsV RX5 71 RX3 yX3_freeCells wsX3_freeCells) := goodIn_app (goodIn_of _ (by decide +kernel)) ggX5_wall_X3_freeCells
set_option maxRecDepth 20000 in
theorem ggX5_wall_X3_build : GoodIn wsX5_wall wsX3_build := goodIn_r _ [33, 22, 23, 7, 24, 34, 35, 36, 20, 37, 29, 38, 39, 40, 41, 42, 43, 44, 45, 46, 47, 48, 49, 12, 13, 15, 16, 50, 18, 19, 21, 60, 61, 62] (by decide +kernel) (by decide +kernel)
set_option maxRecDepth 20000 in
theorem gX5_wall_X3_build : GoodIn wsX5_wall (wsV RX5 78 RX3 yX3_build wsX3_build) := goodIn_app (goodIn_of _ (by decide +kernel)) ggX5_wall_X3_build
theorem dX5_wall_0 : decode cX5_wall 0 = .ok (.iload_n 1, 1) := by decide +kernel
theorem dX5_wall_1 : decode cX5_wall 1 = .ok (.iload_n 2, 1) := by decide +kernel
theorem dX5_wall_2 : decode cX5_wall 2 = .ok (.invokestatic 59, 3) := by decide +kernel
theorem dX5_wall_5 : decode cX5_wall 5 = .ok (.iload_n 1, 1) := by decide +kernel
theorem dX5_wall_6 : decode cX5_wall 6 = .ok (.iload_n 2, 1) := by decide +kernel
theorem dX5_wall_7 : decode cX5_wall 7 = .ok (.invokestatic 63, 3) := by decide +kernel
theorem dX5_wall_10 : decode cX5_wall 10 = .ok (.istore 4, 2) := by decide +kernel
theorem dX5_wall_12 : decode cX5_wall 12 = .ok (.aload_n 0, 1) := by decide +kernel
theorem dX5_wall_13 : decode cX5_wall 13 = .ok (.getfield 10, 3) := by decide +kernel
theorem dX5_wall_16 : decode cX5_wall 16 = .ok (.iload 4, 2) := by decide +kernel
theorem dX5_wall_18 : decode cX5_wall 18 = .ok (.invokevirtual 67, 3) := by decide +kernel
theorem dX5_wall_21 : decode cX5_wall 21 = .ok (.ifCond .ne 7, 3) := by decide +kernel
theorem dX5_wall_24 : decode cX5_wall 24 = .ok (.iconst 1, 1) := by decide +kernel
theorem dX5_wall_25 : decode cX5_wall 25 = .ok (.goto 4, 3) := by decide +kernel
theorem dX5_wall_28 : decode cX5_wall 28 = .ok (.iconst 0, 1) := by decide +kernel
theorem dX5_wall_29 : decode cX5_wall 29 = .ok (.istore 5, 2) := by decide +kernel
theorem dX5_wall_31 : decode cX5_wall 31 = .ok (.iload_n 3, 1) := by decide +kernel
theorem dX5_wall_32 : decode cX5_wall 32 = .ok (.ifCond .eq 23, 3) := by decide +kernel
theorem dX5_wall_35 : decode cX5_wall 35 = .ok (.iload 5, 2) := by decide +kernel
theorem dX5_wall_37 : decode cX5_wall 37 = .ok (.ifCond .ne 18, 3) := by decide +kernel
theorem dX5_wall_40 : decode cX5_wall 40 = .ok (.aload_n 0, 1) := by decide +kernel
theorem dX5_wall_41 : decode cX5_wall 41 = .ok (.getfield 10, 3) := by decide +kernel
theorem dX5_wall_44 : decode cX5_wall 44 = .ok (.invokevirtual 71, 3) := by decide +kernel
theorem dX5_wall_47 : decode cX5_wall 47 = .ok (.iconst 1, 1) := by decide +kernel
theorem dX5_wall_48 : decode cX5_wall 48 = .ok (.if_icmp .gt 7, 3) := by decide +kernel
theorem dX5_wall_51 : decode cX5_wall 51 = .ok (.iconst 1, 1) := by decide +kernel
theorem dX5_wall_52 : decode cX5_wall 52 = .ok (.goto 4, 3) := by decide +kernel
theorem dX5_wall_55 : decode cX5_wall 55 = .ok (.iconst 0, 1) := by decide +kernel
theorem dX5_wall_56 : decode cX5_wall 56 = .ok (.istore 6, 2) := by decide +kernel
theorem dX5_wall_58 : decode cX5_wall 58 = .ok (.aload_n 0, 1) := by decide +kernel
theorem dX5_wall_59 : decode cX5_wall 59 = .ok (.getfield 55, 3) := by decide +kernel
theorem dX5_wall_62 : decode cX5_wall 62 = .ok (.ifCond .ne 8, 3) := by decide +kernel
theorem dX5_wall_65 : decode cX5_wall 65 = .ok (.iload 6, 2) := by decide +kernel
theorem dX5_wall_67 : decode cX5_wall 67 = .ok (.ifCond .eq 11, 3) := by decide +kernel
theorem dX5_wall_70 : decode cX5_wall 70 = .ok (.new 75, 3) := by decide +kernel
theorem dX5_wall_73 : decode cX5_wall 73 = .ok (.dup, 1) := by decide +kernel
theorem dX5_wall_74 : decode cX5_wall 74 = .ok (.invokespecial 77, 3) := by decide +kernel
theorem dX5_wall_77 : decode cX5_wall 77 = .ok (.athrow, 1) := by decide +kernel
theorem dX5_wall_78 : decode cX5_wall 78 = .ok (.aload_n 0, 1) := by decide +kernel
theorem dX5_wall_79 : decode cX5_wall 79 = .ok (.getfield 10, 3) := by decide +kernel
theorem dX5_wall_82 : decode cX5_wall 82 = .ok (.iload 4, 2) := by decide +kernel
theorem dX5_wall_84 : decode cX5_wall 84 = .ok (.iload_n 3, 1) := by decide +kernel
theorem dX5_wall_85 : decode cX5_wall 85 = .ok (.invokevirtual 78, 3) := by decide +kernel
theorem dX5_wall_88 : decode cX5_wall 88 = .ok (.iload 5, 2) := by decide +kernel
theorem dX5_wall_90 : decode cX5_wall 90 = .ok (.ireturn, 1) := by decide +kernel
set_option maxRecDepth 20000 in
theorem ggX5_draw_X1_change : GoodIn wsX5_draw wsX1_change := goodIn_r _ [9, 10, 20] (by decide +kernel) (by decide +kernel)
set_option maxRecDepth 20000 in
theorem gX5_draw_X1_change : GoodIn wsX5_draw (wsV RX5 86 RX1 yX1_change wsX1_change) := goodIn_app (goodIn_of _ (by decide +kernel)) ggX5_draw_X1_change
theorem dX5_draw_0 : decode cX5_draw 0 = .ok (.iload_n 1, 1) := by decide +kernel
theorem dX5_draw_1 : decode cX5_draw 1 = .ok (.iconst 1, 1) := by decide +kernel
theorem dX5_draw_2 : decode cX5_draw 2 = .ok (.if_icmp .lt 9, 3) := by decide +kernel
theorem dX5_draw_5 : decode cX5_draw 5 = .ok (.iload_n 1, 1) := by decide +kernel
theorem dX5_draw_6 : decode cX5_draw 6 = .ok (.ldc 82, 2) := by decide +kernel
theorem dX5_draw_8 : decode cX5_draw 8 = .ok (.if_icmp .le 11, 3) := by decide +kernel
theorem dX5_draw_11 : decode cX5_draw 11 = .ok (.new 83, 3) := by decide +kernel
theorem dX5_draw_14 : decode cX5_draw 14 = .ok (.dup, 1) := by decide +kernel
theorem dX5_draw_15 : decode cX5_draw 15 = .ok (.invokespecial 85, 3) := by decide +kernel
theorem dX5_draw_18 : decode cX5_draw 18 = .ok (.athrow, 1) := by decide +kernel
theorem dX5_draw_19 : decode cX5_draw 19 = .ok (.aload_n 0, 1) := by decide +kernel
theorem dX5_draw_20 : decode cX5_draw 20 = .ok (.getfield 19, 3) := by decide +kernel
theorem dX5_draw_23 : decode cX5_draw 23 = .ok (.iload_n 1, 1) := by decide +kernel
theorem dX5_draw_24 : decode cX5_draw 24 = .ok (.invokevirtual 86, 3) := by decide +kernel
theorem dX5_draw_27 : decode cX5_draw 27 = .ok (.ireturn, 1) := by decide +kernel
set_option maxRecDepth 20000 in
theorem ggX5_spread_X4_begin : GoodIn wsX5_spread wsX4_begin := goodIn_r _ [11, 12, 13, 14, 15, 16, 17, 18, 19, 20, 21, 22, 23, 24, 25, 26, 27, 28, 29, 30, 31, 32, 33, 63, 64, 65, 66, 67, 68, 69, 70, 71, 72, 73, 74, 75, 76, 77] (by decide +kernel) (by decide +kernel)
set_option maxRecDepth 20000 in
theorem gX5_spread_X4_begin : GoodIn wsX5_spread (wsV RX5 90 RX4 yX4_begin wsX4_begin) := goodIn_app (goodIn_of _ (by decide +kernel)) ggX5_spread_X4_begin
set_option maxRecDepth 20000 in
theorem ggX5_spread_X0_begin : GoodIn wsX5_spread wsX0_begin := goodIn_r _ [38, 39, 40, 41, 42, 43, 23, 44, 26, 45, 46, 47, 48, 49, 50, 51, 52, 53, 78, 79, 80, 74, 75, 76, 81] (by decide +kernel) (by decide +kernel)
set_option maxRecDepth 20000 in
theorem gX5_spread_X0_begin : GoodIn wsX5_spread (wsV RX5 94 RX0 yX0_begin wsX0_begin) := goodIn_app (goodIn_of _ (by decide +kernel)) ggX5_spread_X0_begin
theorem dX5_spread_0 : decode cX5_spread 0 = .ok (.iload_n 1, 1) := by decide +kernel
theorem dX5_spread_1 : decode cX5_spread 1 = .ok (.bipush 8, 2) := by decide +kernel
theorem dX5_spread_3 : decode cX5_spread 3 = .ok (.if_icmp .lt 9, 3) := by decide +kernel
theorem dX5_spread_6 : decode cX5_spread 6 = .ok (.iload_n 1, 1) := by decide +kernel
theorem dX5_spread_7 : decode cX5_spread 7 = .ok (.bipush 64, 2) := by decide +kernel
theorem dX5_spread_9 : decode cX5_spread 9 = .ok (.if_icmp .le 11, 3) := by decide +kernel
theorem dX5_spread_12 : decode cX5_spread 12 = .ok (.new 83, 3) := by decide +kernel
theorem dX5_spread_15 : decode cX5_spread 15 = .ok (.dup, 1) := by decide +kernel
theorem dX5_spread_16 : decode cX5_spread 16 = .ok (.invokespecial 85, 3) := by decide +kernel
theorem dX5_spread_19 : decode cX5_spread 19 = .ok (.athrow, 1) := by decide +kernel
theorem dX5_spread_20 : decode cX5_spread 20 = .ok (.aload_n 0, 1) := by decide +kernel
theorem dX5_spread_21 : decode cX5_spread 21 = .ok (.getfield 28, 3) := by decide +kernel
theorem dX5_spread_24 : decode cX5_spread 24 = .ok (.iload_n 1, 1) := by decide +kernel
theorem dX5_spread_25 : decode cX5_spread 25 = .ok (.invokevirtual 90, 3) := by decide +kernel
theorem dX5_spread_28 : decode cX5_spread 28 = .ok (.aload_n 0, 1) := by decide +kernel
theorem dX5_spread_29 : decode cX5_spread 29 = .ok (.getfield 37, 3) := by decide +kernel
theorem dX5_spread_32 : decode cX5_spread 32 = .ok (.invokevirtual 94, 3) := by decide +kernel
theorem dX5_spread_35 : decode cX5_spread 35 = .ok (.aload_n 0, 1) := by decide +kernel
theorem dX5_spread_36 : decode cX5_spread 36 = .ok (.iconst 0, 1) := by decide +kernel
theorem dX5_spread_37 : decode cX5_spread 37 = .ok (.putfield 51, 3) := by decide +kernel
theorem dX5_spread_40 : decode cX5_spread 40 = .ok (.aload_n 0, 1) := by decide +kernel
theorem dX5_spread_41 : decode cX5_spread 41 = .ok (.iconst 1, 1) := by decide +kernel
theorem dX5_spread_42 : decode cX5_spread 42 = .ok (.putfield 55, 3) := by decide +kernel
theorem dX5_spread_45 : decode cX5_spread 45 = .ok (.return_, 1) := by decide +kernel
set_option maxRecDepth 20000 in
theorem ggX5_drive_X5_checkDirection : GoodIn wsX5_drive wsX5_checkDirection := goodIn_ca (goodIn_r _ [6, 7, 8, 9, 10, 5, 11] (by decide +kernel) (by decide +kernel)) (goodIn_sub (fun _ h => List.mem_cons_of_mem _ (List.mem_append_left _ (List.mem_append_right _ h))) (by decide +kernel))
set_option maxRecDepth 20000 in
theorem gX5_drive_X5_checkDirection : GoodIn wsX5_drive (va_wsS RX5 96 yX5_checkDirection wsX5_checkDirection) := goodIn_app (goodIn_of _ (by decide +kernel)) ggX5_drive_X5_checkDirection
set_option maxRecDepth 20000 in
theorem ggX5_drive_X5_checkMayTell : GoodIn wsX5_drive wsX5_checkMayTell := goodIn_ca (goodIn_r _ [15, 16, 17, 18, 19, 126, 127, 128, 129, 130, 131, 132, 133, 134] (by decide +kernel) (by decide +kernel)) (goodIn_sub (fun _ h => List.mem_cons_of_mem _ (List.mem_append_right _ h)) (by decide +kernel))
set_option maxRecDepth 20000 in
theorem gX5_drive_X5_checkMayTell : GoodIn wsX5_drive (wsV RX5 99 RX5 yX5_checkMayTell wsX5_checkMayTell) := goodIn_app (goodIn_of _ (by decide +kernel)) ggX5_drive_X5_checkMayTell
set_option maxRecDepth 20000 in
theorem ggX5_drive_X4_move : GoodIn wsX5_drive wsX4_move := goodIn_r _ [24, 25, 26, 27, 28, 29, 30, 23, 31, 32, 33, 34, 35, 36, 37, 38, 39, 40, 41, 42, 43, 44, 45, 46, 47, 48, 49, 50, 51, 52, 53, 54, 5, 55, 10, 11, 56, 57, 58, 59, 60, 61, 62, 63, 64, 135, 136, 137, 138, 139, 140, 141, 142, 143, 144, 145, 146, 147, 148, 149] (by decide +kernel) (by decide +kernel)
set_option maxRecDepth 20000 in
theorem gX5_drive_X4_move : GoodIn wsX5_drive (wsV RX5 102 RX4 yX4_move wsX4_move) := goodIn_app (goodIn_of _ (by decide +kernel)) ggX5_drive_X4_move
set_option maxRecDepth 20000 in
theorem ggX5_drive_X0_push : GoodIn wsX5_drive wsX0_push := goodIn_r _ [69, 70, 71, 72, 73, 74, 75, 76, 77, 78, 79, 80, 81, 82, 83, 84, 85, 86, 87, 88, 89, 90, 91, 43, 92, 93, 54, 5, 55, 94, 95, 96, 97, 98, 99, 100, 101, 102, 41, 42, 44, 45, 46, 47, 48, 49, 50, 51, 52, 53, 10, 11, 56, 57, 58, 59, 60, 61, 62, 63, 64, 103, 104, 105, 68, 106, 107, 108, 109, 110, 111, 112, 113, 114, 115, 116, 117, 118, 119, 150, 151, 152, 153, 147, 148, 149] (by decide +kernel) (by decide +kernel)
set_option maxRecDepth 20000 in
theorem gX5_drive_X0_push : GoodIn wsX5_drive (wsV RX5 105 RX0 yX0_push wsX0_push) := goodIn_app (goodIn_of _ (by decide +kernel)) ggX5_drive_X0_push
set_option maxRecDepth 20000 in
theorem ggX5_drive_X5_keep : GoodIn wsX5_drive wsX5_keep := goodIn_r _ [123, 19, 124, 125, 126, 127, 128, 129, 130, 131, 132, 133, 134] (by decide +kernel) (by decide +kernel)
set_option maxRecDepth 20000 in
theorem gX5_drive_X5_keep : GoodIn wsX5_drive (wsV RX5 108 RX5 yX5_keep wsX5_keep) := goodIn_app (goodIn_of _ (by decide +kernel)) ggX5_drive_X5_keep
theorem dX5_drive_0 : decode cX5_drive 0 = .ok (.iload_n 1, 1) := by decide +kernel
theorem dX5_drive_1 : decode cX5_drive 1 = .ok (.invokestatic 96, 3) := by decide +kernel
theorem dX5_drive_4 : decode cX5_drive 4 = .ok (.aload_n 0, 1) := by decide +kernel
theorem dX5_drive_5 : decode cX5_drive 5 = .ok (.invokevirtual 99, 3) := by decide +kernel
theorem dX5_drive_8 : decode cX5_drive 8 = .ok (.aload_n 0, 1) := by decide +kernel
theorem dX5_drive_9 : decode cX5_drive 9 = .ok (.getfield 28, 3) := by decide +kernel
theorem dX5_drive_12 : decode cX5_drive 12 = .ok (.iload_n 1, 1) := by decide +kernel
theorem dX5_drive_13 : decode cX5_drive 13 = .ok (.invokevirtual 102, 3) := by decide +kernel
theorem dX5_drive_16 : decode cX5_drive 16 = .ok (.aload_n 0, 1) := by decide +kernel
theorem dX5_drive_17 : decode cX5_drive 17 = .ok (.getfield 37, 3) := by decide +kernel
theorem dX5_drive_20 : decode cX5_drive 20 = .ok (.iload_n 1, 1) := by decide +kernel
theorem dX5_drive_21 : decode cX5_drive 21 = .ok (.invokevirtual 105, 3) := by decide +kernel
theorem dX5_drive_24 : decode cX5_drive 24 = .ok (.aload_n 0, 1) := by decide +kernel
theorem dX5_drive_25 : decode cX5_drive 25 = .ok (.iload_n 1, 1) := by decide +kernel
theorem dX5_drive_26 : decode cX5_drive 26 = .ok (.iconst (-1), 1) := by decide +kernel
theorem dX5_drive_27 : decode cX5_drive 27 = .ok (.invokevirtual 108, 3) := by decide +kernel
theorem dX5_drive_30 : decode cX5_drive 30 = .ok (.return_, 1) := by decide +kernel
set_option maxRecDepth 20000 in
theorem ggX5_read_X5_checkDirection : GoodIn wsX5_read wsX5_checkDirection := goodIn_ca (goodIn_r _ [8, 9, 10, 11, 12, 7, 13] (by decide +kernel) (by decide +kernel)) (goodIn_sub (fun _ h => List.mem_cons_of_mem _ (List.mem_append_left _ (List.mem_append_right _ h))) (by decide +kernel))
set_option maxRecDepth 20000 in
theorem gX5_read_X5_checkDirection : GoodIn wsX5_read (va_wsS RX5 96 yX5_checkDirection wsX5_checkDirection) := goodIn_app (goodIn_of _ (by decide +kernel)) ggX5_read_X5_checkDirection
set_option maxRecDepth 20000 in
theorem ggX5_read_X5_checkMayTell : GoodIn wsX5_read wsX5_checkMayTell := goodIn_ca (goodIn_r _ [17, 18, 19, 20, 21, 158, 159, 160, 161, 162, 163, 164, 165, 166] (by decide +kernel) (by decide +kernel)) (goodIn_sub (fun _ h => List.mem_cons_of_mem _ (List.mem_append_right _ h)) (by decide +kernel))
set_option maxRecDepth 20000 in
theorem gX5_read_X5_checkMayTell : GoodIn wsX5_read (wsV RX5 99 RX5 yX5_checkMayTell wsX5_checkMayTell) := goodIn_app (goodIn_of _ (by decide +kernel)) ggX5_read_X5_checkMayTell
set_option maxRecDepth 20000 in
theorem ggX5_read_X4_weigh : GoodIn wsX5_read wsX4_weigh := goodIn_r _ [26, 27, 28, 29, 30, 31, 32, 33, 34, 35, 36, 37, 38, 39, 40, 41, 42, 43, 44, 45, 7, 46, 12, 13, 47, 48, 49, 50, 51, 25, 52, 53, 54, 55, 56, 57, 58, 59, 60, 61, 62, 63, 64, 65, 66, 67, 68, 69, 70, 71, 72, 73, 74, 75, 76, 77, 78, 79, 80, 81, 82, 83, 84, 85, 86, 87, 88, 89, 90, 91, 92, 93, 94, 95, 96, 97, 98, 99, 100, 101, 102, 103, 104, 105, 106, 107, 108, 109, 110, 111, 112, 113, 167, 168, 169, 170, 171, 172, 173, 174, 175, 176, 177, 178, 179, 180, 181, 182] (by decide +kernel) (by decide +kernel)
set_option maxRecDepth 20000 in
theorem gX5_read_X4_weigh : GoodIn wsX5_read (wsV RX5 111 RX4 yX4_weigh wsX4_weigh) := goodIn_app (goodIn_of _ (by decide +kernel)) ggX5_read_X4_weigh
set_option maxRecDepth 20000 in
theorem ggX5_read_X0_weigh : GoodIn wsX5_read wsX0_weigh := goodIn_r _ [118, 119, 120, 121, 83, 84, 75, 85, 77, 45, 7, 46, 122, 32, 33, 34, 35, 36, 37, 38, 39, 40, 41, 42, 43, 44, 12, 13, 123, 124, 125, 126, 127, 128, 129, 130, 131, 132, 133, 134, 135, 136, 117, 137, 138, 139, 140, 141, 108, 142, 143, 144, 145, 146, 147, 148, 149, 150, 151, 183, 184, 185, 181, 178, 179, 180] (by decide +kernel) (by decide +kernel)
set_option maxRecDepth 20000 in
theorem gX5_read_X0_weigh : GoodIn wsX5_read (wsV RX5 114 RX0 yX0_weigh wsX0_weigh) := goodIn_app (goodIn_of _ (by decide +kernel)) ggX5_read_X0_weigh
set_option maxRecDepth 20000 in
theorem ggX5_read_X5_keep : GoodIn wsX5_read wsX5_keep := goodIn_r _ [155, 21, 156, 157, 158, 159, 160, 161, 162, 163, 164, 165, 166] (by decide +kernel) (by decide +kernel)
set_option maxRecDepth 20000 in
theorem gX5_read_X5_keep : GoodIn wsX5_read (wsV RX5 108 RX5 yX5_keep wsX5_keep) := goodIn_app (goodIn_of _ (by decide +kernel)) ggX5_read_X5_keep
theorem dX5_read_0 : decode cX5_read 0 = .ok (.iload_n 1, 1) := by decide +kernel
theorem dX5_read_1 : decode cX5_read 1 = .ok (.invokestatic 96, 3) := by decide +kernel
theorem dX5_read_4 : decode cX5_read 4 = .ok (.iload_n 2, 1) := by decide +kernel
theorem dX5_read_5 : decode cX5_read 5 = .ok (.ifCond .lt 9, 3) := by decide +kernel
theorem dX5_read_8 : decode cX5_read 8 = .ok (.iload_n 2, 1) := by decide +kernel
theorem dX5_read_9 : decode cX5_read 9 = .ok (.bipush 8, 2) := by decide +kernel
theorem dX5_read_11 : decode cX5_read 11 = .ok (.if_icmp .lt 11, 3) := by decide +kernel
theorem dX5_read_14 : decode cX5_read 14 = .ok (.new 83, 3) := by decide +kernel
theorem dX5_read_17 : decode cX5_read 17 = .ok (.dup, 1) := by decide +kernel
theorem dX5_read_18 : decode cX5_read 18 = .ok (.invokespecial 85, 3) := by decide +kernel
theorem dX5_read_21 : decode cX5_read 21 = .ok (.athrow, 1) := by decide +kernel
theorem dX5_read_22 : decode cX5_read 22 = .ok (.aload_n 0, 1) := by decide +kernel
theorem dX5_read_23 : decode cX5_read 23 = .ok (.invokevirtual 99, 3) := by decide +kernel
theorem dX5_read_26 : decode cX5_read 26 = .ok (.aload_n 0, 1) := by decide +kernel
theorem dX5_read_27 : decode cX5_read 27 = .ok (.getfield 28, 3) := by decide +kernel
theorem dX5_read_30 : decode cX5_read 30 = .ok (.iload_n 1, 1) := by decide +kernel
theorem dX5_read_31 : decode cX5_read 31 = .ok (.iload_n 2, 1) := by decide +kernel
theorem dX5_read_32 : decode cX5_read 32 = .ok (.invokevirtual 111, 3) := by decide +kernel
theorem dX5_read_35 : decode cX5_read 35 = .ok (.istore_n 3, 1) := by decide +kernel
theorem dX5_read_36 : decode cX5_read 36 = .ok (.aload_n 0, 1) := by decide +kernel
theorem dX5_read_37 : decode cX5_read 37 = .ok (.getfield 37, 3) := by decide +kernel
theorem dX5_read_40 : decode cX5_read 40 = .ok (.iload_n 1, 1) := by decide +kernel
theorem dX5_read_41 : decode cX5_read 41 = .ok (.iload_n 2, 1) := by decide +kernel
theorem dX5_read_42 : decode cX5_read 42 = .ok (.invokevirtual 114, 3) := by decide +kernel
theorem dX5_read_45 : decode cX5_read 45 = .ok (.aload_n 0, 1) := by decide +kernel
theorem dX5_read_46 : decode cX5_read 46 = .ok (.iload_n 1, 1) := by decide +kernel
theorem dX5_read_47 : decode cX5_read 47 = .ok (.iload_n 2, 1) := by decide +kernel
theorem dX5_read_48 : decode cX5_read 48 = .ok (.invokevirtual 108, 3) := by decide +kernel
theorem dX5_read_51 : decode cX5_read 51 = .ok (.iload_n 3, 1) := by decide +kernel
theorem dX5_read_52 : decode cX5_read 52 = .ok (.ireturn, 1) := by decide +kernel
set_option maxRecDepth 20000 in
theorem ggX5_toRead_X5_checkCell : GoodIn wsX5_toRead wsX5_checkCell := goodIn_ca (goodIn_r _ [5, 6, 7, 8, 9, 4, 10] (by decide +kernel) (by decide +kernel)) (goodIn_sub (fun _ h => List.mem_cons_of_mem _ (List.mem_append_right _ h)) (by decide +kernel))
set_option maxRecDepth 20000 in
theorem gX5_toRead_X5_checkCell : GoodIn wsX5_toRead (va_wsS RX5 59 yX5_checkCell wsX5_checkCell) := goodIn_app (goodIn_of _ (by decide +kernel)) ggX5_toRead_X5_checkCell
set_option maxRecDepth 20000 in
theorem ggX5_toRead_X5_checkDirection : GoodIn wsX5_toRead wsX5_checkDirection := goodIn_ca (goodIn_r _ [13, 6, 7, 14, 15, 4, 16] (by decide +kernel) (by decide +kernel)) (goodIn_sub (fun _ h => List.mem_cons_of_mem _ (List.mem_append_right _ h)) (by decide +kernel))
set_option maxRecDepth 20000 in
theorem gX5_toRead_X5_checkDirection : GoodIn wsX5_toRead (va_wsS RX5 96 yX5_checkDirection wsX5_checkDirection) := goodIn_app (goodIn_of _ (by decide +kernel)) ggX5_toRead_X5_checkDirection
set_option maxRecDepth 20000 in
theorem ggX5_toRead_X5_numberOf : GoodIn wsX5_toRead wsX5_numberOf := goodIn_r _ [19] (by decide +kernel) (by decide +kernel)
set_option maxRecDepth 20000 in
theorem gX5_toRead_X5_numberOf : GoodIn wsX5_toRead (va_wsS RX5 63 yX5_numberOf wsX5_numberOf) := goodIn_app (goodIn_of _ (by decide +kernel)) ggX5_toRead_X5_numberOf
set_option maxRecDepth 20000 in
theorem ggX5_toRead_X3_stepsAhead : GoodIn wsX5_toRead wsX3_stepsAhead := goodIn_r _ [24, 25, 26, 4, 27, 15, 16, 37, 38, 39] (by decide +kernel) (by decide +kernel)
set_option maxRecDepth 20000 in
theorem gX5_toRead_X3_stepsAhead : GoodIn wsX5_toRead (wsV RX5 116 RX3 yX3_stepsAhead wsX3_stepsAhead) := goodIn_app (goodIn_of _ (by decide +kernel)) ggX5_toRead_X3_stepsAhead
theorem dX5_toRead_0 : decode cX5_toRead 0 = .ok (.iload_n 1, 1) := by decide +kernel
theorem dX5_toRead_1 : decode cX5_toRead 1 = .ok (.iload_n 2, 1) := by decide +kernel
theorem dX5_toRead_2 : decode cX5_toRead 2 = .ok (.invokestatic 59, 3) := by decide +kernel
theorem dX5_toRead_5 : decode cX5_toRead 5 = .ok (.iload_n 3, 1) := by decide +kernel
theorem dX5_toRead_6 : decode cX5_toRead 6 = .ok (.invokestatic 96, 3) := by decide +kernel
theorem dX5_toRead_9 : decode cX5_toRead 9 = .ok (.aload_n 0, 1) := by decide +kernel
theorem dX5_toRead_10 : decode cX5_toRead 10 = .ok (.getfield 10, 3) := by decide +kernel
theorem dX5_toRead_13 : decode cX5_toRead 13 = .ok (.iload_n 1, 1) := by decide +kernel
theorem dX5_toRead_14 : decode cX5_toRead 14 = .ok (.iload_n 2, 1) := by decide +kernel
theorem dX5_toRead_15 : decode cX5_toRead 15 = .ok (.invokestatic 63, 3) := by decide +kernel
theorem dX5_toRead_18 : decode cX5_toRead 18 = .ok (.iload_n 3, 1) := by decide +kernel
theorem dX5_toRead_19 : decode cX5_toRead 19 = .ok (.invokevirtual 116, 3) := by decide +kernel
theorem dX5_toRead_22 : decode cX5_toRead 22 = .ok (.ireturn, 1) := by decide +kernel
set_option maxRecDepth 20000 in
theorem ggX5_samples_X5_checkSpread : GoodIn wsX5_samples wsX5_checkSpread := goodIn_ca (goodIn_r _ [6, 7, 8, 9, 16, 17, 18, 19, 20, 21, 22, 23, 24] (by decide +kernel) (by decide +kernel)) (goodIn_sub (fun _ h => List.mem_cons_of_mem _ (List.mem_append_right _ h)) (by decide +kernel))
set_option maxRecDepth 20000 in
theorem gX5_samples_X5_checkSpread : GoodIn wsX5_samples (wsV RX5 119 RX5 yX5_checkSpread wsX5_checkSpread) := goodIn_app (goodIn_of _ (by decide +kernel)) ggX5_samples_X5_checkSpread
set_option maxRecDepth 20000 in
theorem ggX5_samples_X4_size : GoodIn wsX5_samples wsX4_size := goodIn_r _ [14, 15, 25, 26, 27, 28, 29, 30, 31, 32, 33, 34, 35] (by decide +kernel) (by decide +kernel)
set_option maxRecDepth 20000 in
theorem gX5_samples_X4_size : GoodIn wsX5_samples (wsV RX5 122 RX4 yX4_size wsX4_size) := goodIn_app (goodIn_of _ (by decide +kernel)) ggX5_samples_X4_size
theorem dX5_samples_0 : decode cX5_samples 0 = .ok (.aload_n 0, 1) := by decide +kernel
theorem dX5_samples_1 : decode cX5_samples 1 = .ok (.invokevirtual 119, 3) := by decide +kernel
theorem dX5_samples_4 : decode cX5_samples 4 = .ok (.aload_n 0, 1) := by decide +kernel
theorem dX5_samples_5 : decode cX5_samples 5 = .ok (.getfield 28, 3) := by decide +kernel
theorem dX5_samples_8 : decode cX5_samples 8 = .ok (.invokevirtual 122, 3) := by decide +kernel
theorem dX5_samples_11 : decode cX5_samples 11 = .ok (.ireturn, 1) := by decide +kernel
set_option maxRecDepth 20000 in
theorem ggX5_sample_X4_size : GoodIn wsX5_sample wsX4_size := goodIn_r _ [8, 9, 24, 25, 26, 27, 28, 29, 30, 31, 32, 33, 34] (by decide +kernel) (by decide +kernel)
set_option maxRecDepth 20000 in
theorem gX5_sample_X4_size : GoodIn wsX5_sample (wsV RX5 122 RX4 yX4_size wsX4_size) := goodIn_app (goodIn_of _ (by decide +kernel)) ggX5_sample_X4_size
set_option maxRecDepth 20000 in
theorem ggX5_sample_X4_cellOf : GoodIn wsX5_sample wsX4_cellOf := goodIn_r _ [13, 14, 24, 25, 26, 27, 28, 29, 30, 31, 32, 33, 34] (by decide +kernel) (by decide +kernel)
set_option maxRecDepth 20000 in
theorem gX5_sample_X4_cellOf : GoodIn wsX5_sample (wsV RX5 128 RX4 yX4_cellOf wsX4_cellOf) := goodIn_app (goodIn_of _ (by decide +kernel)) ggX5_sample_X4_cellOf
theorem dX5_sample_0 : decode cX5_sample 0 = .ok (.iload_n 1, 1) := by decide +kernel
theorem dX5_sample_1 : decode cX5_sample 1 = .ok (.ifCond .lt 14, 3) := by decide +kernel
theorem dX5_sample_4 : decode cX5_sample 4 = .ok (.iload_n 1, 1) := by decide +kernel
theorem dX5_sample_5 : decode cX5_sample 5 = .ok (.aload_n 0, 1) := by decide +kernel
theorem dX5_sample_6 : decode cX5_sample 6 = .ok (.getfield 28, 3) := by decide +kernel
theorem dX5_sample_9 : decode cX5_sample 9 = .ok (.invokevirtual 122, 3) := by decide +kernel
theorem dX5_sample_12 : decode cX5_sample 12 = .ok (.if_icmp .lt 11, 3) := by decide +kernel
theorem dX5_sample_15 : decode cX5_sample 15 = .ok (.new 125, 3) := by decide +kernel
theorem dX5_sample_18 : decode cX5_sample 18 = .ok (.dup, 1) := by decide +kernel
theorem dX5_sample_19 : decode cX5_sample 19 = .ok (.invokespecial 127, 3) := by decide +kernel
theorem dX5_sample_22 : decode cX5_sample 22 = .ok (.athrow, 1) := by decide +kernel
theorem dX5_sample_23 : decode cX5_sample 23 = .ok (.aload_n 0, 1) := by decide +kernel
theorem dX5_sample_24 : decode cX5_sample 24 = .ok (.getfield 28, 3) := by decide +kernel
theorem dX5_sample_27 : decode cX5_sample 27 = .ok (.iload_n 1, 1) := by decide +kernel
theorem dX5_sample_28 : decode cX5_sample 28 = .ok (.invokevirtual 128, 3) := by decide +kernel
theorem dX5_sample_31 : decode cX5_sample 31 = .ok (.ireturn, 1) := by decide +kernel
set_option maxRecDepth 20000 in
theorem ggX5_count_X5_checkCell : GoodIn wsX5_count wsX5_checkCell := goodIn_ca (goodIn_r _ [5, 6, 7, 8, 9, 4, 10] (by decide +kernel) (by decide +kernel)) (goodIn_sub (fun _ h => List.mem_cons_of_mem _ (List.mem_append_left _ (List.mem_append_right _ h))) (by decide +kernel))
set_option maxRecDepth 20000 in
theorem gX5_count_X5_checkCell : GoodIn wsX5_count (va_wsS RX5 59 yX5_checkCell wsX5_checkCell) := goodIn_app (goodIn_of _ (by decide +kernel)) ggX5_count_X5_checkCell
set_option maxRecDepth 20000 in
theorem ggX5_count_X5_checkSpread : GoodIn wsX5_count wsX5_checkSpread := goodIn_ca (goodIn_r _ [14, 15, 16, 17, 45, 46, 47, 48, 49, 50, 51, 52, 53] (by decide +kernel) (by decide +kernel)) (goodIn_sub (fun _ h => List.mem_cons_of_mem _ (List.mem_append_right _ h)) (by decide +kernel))
set_option maxRecDepth 20000 in
theorem gX5_count_X5_checkSpread : GoodIn wsX5_count (wsV RX5 119 RX5 yX5_checkSpread wsX5_checkSpread) := goodIn_app (goodIn_of _ (by decide +kernel)) ggX5_count_X5_checkSpread
set_option maxRecDepth 20000 in
theorem ggX5_count_X4_chart : GoodIn wsX5_count wsX4_chart := goodIn_r _ [22, 23, 24, 25, 26, 27, 28, 29, 30, 31, 32, 33, 34, 35, 36, 4, 37, 54, 55, 56, 57, 58, 59, 60, 61, 62, 63, 64, 65] (by decide +kernel) (by decide +kernel)
set_option maxRecDepth 20000 in
theorem gX5_count_X4_chart : GoodIn wsX5_count (wsV RX5 131 RX4 yX4_chart wsX4_chart) := goodIn_app (goodIn_of _ (by decide +kernel)) ggX5_count_X4_chart
set_option maxRecDepth 20000 in
theorem ggX5_count_X5_numberOf : GoodIn wsX5_count wsX5_numberOf := goodIn_r _ [40] (by decide +kernel) (by decide +kernel)
set_option maxRecDepth 20000 in
theorem gX5_count_X5_numberOf : GoodIn wsX5_count (va_wsS RX5 63 yX5_numberOf wsX5_numberOf) := goodIn_app (goodIn_of _ (by decide +kernel)) ggX5_count_X5_numberOf
set_option maxRecDepth 20000 in
theorem ggX5_count_X2_at : GoodIn wsX5_count wsX2_at := goodIn_r _ [44, 31, 36, 4, 37, 65] (by decide +kernel) (by decide +kernel)
set_option maxRecDepth 20000 in
theorem gX5_count_X2_at : GoodIn wsX5_count (wsV RX5 135 RX2 yX2_at wsX2_at) := goodIn_app (goodIn_of _ (by decide +kernel)) ggX5_count_X2_at
theorem dX5_count_0 : decode cX5_count 0 = .ok (.iload_n 1, 1) := by decide +kernel
theorem dX5_count_1 : decode cX5_count 1 = .ok (.iload_n 2, 1) := by decide +kernel
theorem dX5_count_2 : decode cX5_count 2 = .ok (.invokestatic 59, 3) := by decide +kernel
theorem dX5_count_5 : decode cX5_count 5 = .ok (.aload_n 0, 1) := by decide +kernel
theorem dX5_count_6 : decode cX5_count 6 = .ok (.invokevirtual 119, 3) := by decide +kernel
theorem dX5_count_9 : decode cX5_count 9 = .ok (.aload_n 0, 1) := by decide +kernel
theorem dX5_count_10 : decode cX5_count 10 = .ok (.getfield 28, 3) := by decide +kernel
theorem dX5_count_13 : decode cX5_count 13 = .ok (.invokevirtual 131, 3) := by decide +kernel
theorem dX5_count_16 : decode cX5_count 16 = .ok (.iload_n 1, 1) := by decide +kernel
theorem dX5_count_17 : decode cX5_count 17 = .ok (.iload_n 2, 1) := by decide +kernel
theorem dX5_count_18 : decode cX5_count 18 = .ok (.invokestatic 63, 3) := by decide +kernel
theorem dX5_count_21 : decode cX5_count 21 = .ok (.invokevirtual 135, 3) := by decide +kernel
theorem dX5_count_24 : decode cX5_count 24 = .ok (.l2i, 1) := by decide +kernel
theorem dX5_count_25 : decode cX5_count 25 = .ok (.ireturn, 1) := by decide +kernel
set_option maxRecDepth 20000 in
theorem ggX5_belief_X5_checkCell : GoodIn wsX5_belief wsX5_checkCell := goodIn_ca (goodIn_r _ [5, 6, 7, 8, 9, 4, 10] (by decide +kernel) (by decide +kernel)) (goodIn_sub (fun _ h => List.mem_cons_of_mem _ (List.mem_append_left _ (List.mem_append_right _ h))) (by decide +kernel))
set_option maxRecDepth 20000 in
theorem gX5_belief_X5_checkCell : GoodIn wsX5_belief (va_wsS RX5 59 yX5_checkCell wsX5_checkCell) := goodIn_app (goodIn_of _ (by decide +kernel)) ggX5_belief_X5_checkCell
set_option maxRecDepth 20000 in
theorem ggX5_belief_X5_checkSpread : GoodIn wsX5_belief wsX5_checkSpread := goodIn_ca (goodIn_r _ [14, 15, 16, 17, 35, 36, 37, 38, 39, 40, 41, 42, 43] (by decide +kernel) (by decide +kernel)) (goodIn_sub (fun _ h => List.mem_cons_of_mem _ (List.mem_append_right _ h)) (by decide +kernel))
set_option maxRecDepth 20000 in
theorem gX5_belief_X5_checkSpread : GoodIn wsX5_belief (wsV RX5 119 RX5 yX5_checkSpread wsX5_checkSpread) := goodIn_app (goodIn_of _ (by decide +kernel)) ggX5_belief_X5_checkSpread
set_option maxRecDepth 20000 in
theorem ggX5_belief_X0_chart : GoodIn wsX5_belief wsX0_chart := goodIn_r _ [22, 23, 44, 45, 46] (by decide +kernel) (by decide +kernel)
set_option maxRecDepth 20000 in
theorem gX5_belief_X0_chart : GoodIn wsX5_belief (wsV RX5 141 RX0 yX0_chart wsX0_chart) := goodIn_app (goodIn_of _ (by decide +kernel)) ggX5_belief_X0_chart
set_option maxRecDepth 20000 in
theorem ggX5_belief_X5_numberOf : GoodIn wsX5_belief wsX5_numberOf := goodIn_r _ [26] (by decide +kernel) (by decide +kernel)
set_option maxRecDepth 20000 in
theorem gX5_belief_X5_numberOf : GoodIn wsX5_belief (va_wsS RX5 63 yX5_numberOf wsX5_numberOf) := goodIn_app (goodIn_of _ (by decide +kernel)) ggX5_belief_X5_numberOf
set_option maxRecDepth 20000 in
theorem ggX5_belief_X2_at : GoodIn wsX5_belief wsX2_at := goodIn_r _ [31, 32, 33, 4, 34, 47] (by decide +kernel) (by decide +kernel)
set_option maxRecDepth 20000 in
theorem gX5_belief_X2_at : GoodIn wsX5_belief (wsV RX5 135 RX2 yX2_at wsX2_at) := goodIn_app (goodIn_of _ (by decide +kernel)) ggX5_belief_X2_at
theorem dX5_belief_0 : decode cX5_belief 0 = .ok (.iload_n 1, 1) := by decide +kernel
theorem dX5_belief_1 : decode cX5_belief 1 = .ok (.iload_n 2, 1) := by decide +kernel
theorem dX5_belief_2 : decode cX5_belief 2 = .ok (.invokestatic 59, 3) := by decide +kernel
theorem dX5_belief_5 : decode cX5_belief 5 = .ok (.aload_n 0, 1) := by decide +kernel
theorem dX5_belief_6 : decode cX5_belief 6 = .ok (.invokevirtual 119, 3) := by decide +kernel
theorem dX5_belief_9 : decode cX5_belief 9 = .ok (.aload_n 0, 1) := by decide +kernel
theorem dX5_belief_10 : decode cX5_belief 10 = .ok (.getfield 37, 3) := by decide +kernel
theorem dX5_belief_13 : decode cX5_belief 13 = .ok (.invokevirtual 141, 3) := by decide +kernel
theorem dX5_belief_16 : decode cX5_belief 16 = .ok (.iload_n 1, 1) := by decide +kernel
theorem dX5_belief_17 : decode cX5_belief 17 = .ok (.iload_n 2, 1) := by decide +kernel
theorem dX5_belief_18 : decode cX5_belief 18 = .ok (.invokestatic 63, 3) := by decide +kernel
theorem dX5_belief_21 : decode cX5_belief 21 = .ok (.invokevirtual 135, 3) := by decide +kernel
theorem dX5_belief_24 : decode cX5_belief 24 = .ok (.lreturn, 1) := by decide +kernel
set_option maxRecDepth 20000 in
theorem ggX5_beliefAnew_X5_checkCell : GoodIn wsX5_beliefAnew wsX5_checkCell := goodIn_ca (goodIn_r _ [5, 6, 7, 8, 9, 4, 10] (by decide +kernel) (by decide +kernel)) (goodIn_sub (fun _ h => List.mem_cons_of_mem _ (List.mem_append_left _ (List.mem_append_right _ h))) (by decide +kernel))
set_option maxRecDepth 20000 in
theorem gX5_beliefAnew_X5_checkCell : GoodIn wsX5_beliefAnew (va_wsS RX5 59 yX5_checkCell wsX5_checkCell) := goodIn_app (goodIn_of _ (by decide +kernel)) ggX5_beliefAnew_X5_checkCell
set_option maxRecDepth 20000 in
theorem ggX5_beliefAnew_X5_checkSpread : GoodIn wsX5_beliefAnew wsX5_checkSpread := goodIn_ca (goodIn_r _ [14, 15, 16, 17, 127, 128, 129, 130, 131, 132, 133, 134, 135] (by decide +kernel) (by decide +kernel)) (goodIn_sub (fun _ h => List.mem_cons_of_mem _ (List.mem_append_right _ h)) (by decide +kernel))
set_option maxRecDepth 20000 in
theorem gX5_beliefAnew_X5_checkSpread : GoodIn wsX5_beliefAnew (wsV RX5 119 RX5 yX5_checkSpread wsX5_checkSpread) := goodIn_app (goodIn_of _ (by decide +kernel)) ggX5_beliefAnew_X5_checkSpread
set_option maxRecDepth 20000 in
theorem ggX5_beliefAnew_X5_repeatAllTold : GoodIn wsX5_beliefAnew wsX5_repeatAllTold := goodIn_r _ [21, 1, 22, 23, 24, 25, 26, 27, 28, 29, 30, 31, 32, 33, 34, 35, 36, 37, 38, 4, 39, 40, 41, 42, 43, 44, 45, 46, 47, 48, 49, 50, 51, 52, 53, 54, 55, 56, 57, 58, 59, 60, 61, 62, 63, 64, 65, 66, 67, 68, 69, 70, 71, 72, 73, 74, 75, 9, 10, 76, 77, 78, 79, 80, 81, 82, 83, 84, 85, 86, 87, 88, 89, 90, 91, 92, 93, 94, 95, 96, 97, 98, 99, 100, 101, 102, 103, 104, 105, 106, 107, 108, 109, 110, 111, 112, 113, 114, 115, 116, 117, 118, 119, 120, 127, 128, 129, 130, 131, 132, 133, 134, 135, 136, 137, 138, 139, 140, 141, 142] (by decide +kernel) (by decide +kernel)
set_option maxRecDepth 20000 in
theorem gX5_beliefAnew_X5_repeatAllTold : GoodIn wsX5_beliefAnew (wsV RX5 142 RX5 yX5_repeatAllTold wsX5_repeatAllTold) := goodIn_app (goodIn_of _ (by decide +kernel)) ggX5_beliefAnew_X5_repeatAllTold
set_option maxRecDepth 20000 in
theorem ggX5_beliefAnew_X0_chart : GoodIn wsX5_beliefAnew wsX0_chart := goodIn_r _ [124, 30, 136, 137, 138] (by decide +kernel) (by decide +kernel)
set_option maxRecDepth 20000 in
theorem gX5_beliefAnew_X0_chart : GoodIn wsX5_beliefAnew (wsV RX5 141 RX0 yX0_chart wsX0_chart) := goodIn_app (goodIn_of _ (by decide +kernel)) ggX5_beliefAnew_X0_chart
set_option maxRecDepth 20000 in
theorem ggX5_beliefAnew_X5_numberOf : GoodIn wsX5_beliefAnew wsX5_numberOf := goodIn_r _ [77] (by decide +kernel) (by decide +kernel)
set_option maxRecDepth 20000 in
theorem gX5_beliefAnew_X5_numberOf : GoodIn wsX5_beliefAnew (va_wsS RX5 63 yX5_numberOf wsX5_numberOf) := goodIn_app (goodIn_of _ (by decide +kernel)) ggX5_beliefAnew_X5_numberOf
set_option maxRecDepth 20000 in
theorem ggX5_beliefAnew_X2_at : GoodIn wsX5_beliefAnew wsX2_at := goodIn_r _ [68, 45, 38, 4, 39, 142] (by decide +kernel) (by decide +kernel)
set_option maxRecDepth 20000 in
theorem gX5_beliefAnew_X2_at : GoodIn wsX5_beliefAnew (wsV RX5 135 RX2 yX2_at wsX2_at) := goodIn_app (goodIn_of _ (by decide +kernel)) ggX5_beliefAnew_X2_at
theorem dX5_beliefAnew_0 : decode cX5_beliefAnew 0 = .ok (.iload_n 1, 1) := by decide +kernel
theorem dX5_beliefAnew_1 : decode cX5_beliefAnew 1 = .ok (.iload_n 2, 1) := by decide +kernel
theorem dX5_beliefAnew_2 : decode cX5_beliefAnew 2 = .ok (.invokestatic 59, 3) := by decide +kernel
theorem dX5_beliefAnew_5 : decode cX5_beliefAnew 5 = .ok (.aload_n 0, 1) := by decide +kernel
theorem dX5_beliefAnew_6 : decode cX5_beliefAnew 6 = .ok (.invokevirtual 119, 3) := by decide +kernel
theorem dX5_beliefAnew_9 : decode cX5_beliefAnew 9 = .ok (.aload_n 0, 1) := by decide +kernel
theorem dX5_beliefAnew_10 : decode cX5_beliefAnew 10 = .ok (.invokevirtual 142, 3) := by decide +kernel
theorem dX5_beliefAnew_13 : decode cX5_beliefAnew 13 = .ok (.aload_n 0, 1) := by decide +kernel
theorem dX5_beliefAnew_14 : decode cX5_beliefAnew 14 = .ok (.getfield 41, 3) := by decide +kernel
theorem dX5_beliefAnew_17 : decode cX5_beliefAnew 17 = .ok (.invokevirtual 141, 3) := by decide +kernel
theorem dX5_beliefAnew_20 : decode cX5_beliefAnew 20 = .ok (.iload_n 1, 1) := by decide +kernel
theorem dX5_beliefAnew_21 : decode cX5_beliefAnew 21 = .ok (.iload_n 2, 1) := by decide +kernel
theorem dX5_beliefAnew_22 : decode cX5_beliefAnew 22 = .ok (.invokestatic 63, 3) := by decide +kernel
theorem dX5_beliefAnew_25 : decode cX5_beliefAnew 25 = .ok (.invokevirtual 135, 3) := by decide +kernel
theorem dX5_beliefAnew_28 : decode cX5_beliefAnew 28 = .ok (.lreturn, 1) := by decide +kernel
set_option maxRecDepth 20000 in
theorem ggX5_mode_X5_checkSpread : GoodIn wsX5_mode wsX5_checkSpread := goodIn_ca (goodIn_r _ [5, 6, 7, 8, 53, 54, 55, 56, 57, 58, 59, 60, 61] (by decide +kernel) (by decide +kernel)) (goodIn_sub (fun _ h => List.mem_cons_of_mem _ (List.mem_append_right _ h)) (by decide +kernel))
set_option maxRecDepth 20000 in
theorem gX5_mode_X5_checkSpread : GoodIn wsX5_mode (wsV RX5 119 RX5 yX5_checkSpread wsX5_checkSpread) := goodIn_app (goodIn_of _ (by decide +kernel)) ggX5_mode_X5_checkSpread
set_option maxRecDepth 20000 in
theorem ggX5_mode_X5_chartOf : GoodIn wsX5_mode wsX5_chartOf := goodIn_r _ [12, 13, 14, 15, 16, 17, 18, 19, 20, 21, 22, 23, 24, 25, 26, 27, 28, 29, 30, 31, 32, 33, 4, 34, 35, 36, 37, 38, 39, 40, 53, 54, 55, 56, 57, 58, 59, 60, 61, 62, 63, 64, 65, 66, 67, 68, 69, 70, 71, 72, 73, 74, 75, 76] (by decide +kernel) (by decide +kernel)
set_option maxRecDepth 20000 in
theorem gX5_mode_X5_chartOf : GoodIn wsX5_mode (wsV RX5 145 RX5 yX5_chartOf wsX5_chartOf) := goodIn_app (goodIn_of _ (by decide +kernel)) ggX5_mode_X5_chartOf
set_option maxRecDepth 20000 in
theorem ggX5_mode_X2_greatestCell : GoodIn wsX5_mode wsX2_greatestCell := goodIn_r _ [44, 28, 45, 46, 47, 26, 48, 49, 50, 51, 52, 73] (by decide +kernel) (by decide +kernel)
set_option maxRecDepth 20000 in
theorem gX5_mode_X2_greatestCell : GoodIn wsX5_mode (wsV RX5 149 RX2 yX2_greatestCell wsX2_greatestCell) := goodIn_app (goodIn_of _ (by decide +kernel)) ggX5_mode_X2_greatestCell
theorem dX5_mode_0 : decode cX5_mode 0 = .ok (.aload_n 0, 1) := by decide +kernel
theorem dX5_mode_1 : decode cX5_mode 1 = .ok (.invokevirtual 119, 3) := by decide +kernel
theorem dX5_mode_4 : decode cX5_mode 4 = .ok (.aload_n 0, 1) := by decide +kernel
theorem dX5_mode_5 : decode cX5_mode 5 = .ok (.iload_n 1, 1) := by decide +kernel
theorem dX5_mode_6 : decode cX5_mode 6 = .ok (.invokevirtual 145, 3) := by decide +kernel
theorem dX5_mode_9 : decode cX5_mode 9 = .ok (.invokevirtual 149, 3) := by decide +kernel
theorem dX5_mode_12 : decode cX5_mode 12 = .ok (.ireturn, 1) := by decide +kernel
set_option maxRecDepth 20000 in
theorem ggX5_mean_X5_checkSpread : GoodIn wsX5_mean wsX5_checkSpread := goodIn_ca (goodIn_r _ [6, 7, 8, 9, 57, 58, 59, 60, 61, 62, 63, 64, 65] (by decide +kernel) (by decide +kernel)) (goodIn_sub (fun _ h => List.mem_cons_of_mem _ (List.mem_append_right _ h)) (by decide +kernel))
set_option maxRecDepth 20000 in
theorem gX5_mean_X5_checkSpread : GoodIn wsX5_mean (wsV RX5 119 RX5 yX5_checkSpread wsX5_checkSpread) := goodIn_app (goodIn_of _ (by decide +kernel)) ggX5_mean_X5_checkSpread
set_option maxRecDepth 20000 in
theorem ggX5_mean_X5_chartOf : GoodIn wsX5_mean wsX5_chartOf := goodIn_r _ [13, 14, 15, 16, 17, 18, 19, 20, 21, 22, 23, 24, 25, 26, 27, 28, 29, 30, 31, 32, 33, 34, 5, 35, 36, 37, 38, 39, 40, 41, 57, 58, 59, 60, 61, 62, 63, 64, 65, 66, 67, 68, 69, 70, 71, 72, 73, 74, 75, 76, 77, 78, 79, 80] (by decide +kernel) (by decide +kernel)
set_option maxRecDepth 20000 in
theorem gX5_mean_X5_chartOf : GoodIn wsX5_mean (wsV RX5 145 RX5 yX5_chartOf wsX5_chartOf) := goodIn_app (goodIn_of _ (by decide +kernel)) ggX5_mean_X5_chartOf
set_option maxRecDepth 20000 in
theorem ggX5_mean_X2_coordinateSum : GoodIn wsX5_mean wsX2_coordinateSum := goodIn_r _ [45, 29, 77] (by decide +kernel) (by decide +kernel)
set_option maxRecDepth 20000 in
theorem gX5_mean_X2_coordinateSum : GoodIn wsX5_mean (wsV RX5 154 RX2 yX2_coordinateSum wsX2_coordinateSum) := goodIn_app (goodIn_of _ (by decide +kernel)) ggX5_mean_X2_coordinateSum
set_option maxRecDepth 20000 in
theorem ggX5_mean_X2_sum : GoodIn wsX5_mean wsX2_sum := goodIn_r _ [49, 50, 51, 52, 27, 53, 29, 77] (by decide +kernel) (by decide +kernel)
set_option maxRecDepth 20000 in
theorem gX5_mean_X2_sum : GoodIn wsX5_mean (wsV RX5 158 RX2 yX2_sum wsX2_sum) := goodIn_app (goodIn_of _ (by decide +kernel)) ggX5_mean_X2_sum
set_option maxRecDepth 20000 in
theorem ggX5_mean_X5_quotient : GoodIn wsX5_mean wsX5_quotient := goodIn_r _ [56] (by decide +kernel) (by decide +kernel)
set_option maxRecDepth 20000 in
theorem gX5_mean_X5_quotient : GoodIn wsX5_mean (va_wsS RX5 162 yX5_quotient wsX5_quotient) := goodIn_app (goodIn_of _ (by decide +kernel)) ggX5_mean_X5_quotient
theorem dX5_mean_0 : decode cX5_mean 0 = .ok (.aload_n 0, 1) := by decide +kernel
theorem dX5_mean_1 : decode cX5_mean 1 = .ok (.invokevirtual 119, 3) := by decide +kernel
theorem dX5_mean_4 : decode cX5_mean 4 = .ok (.aload_n 0, 1) := by decide +kernel
theorem dX5_mean_5 : decode cX5_mean 5 = .ok (.iload_n 1, 1) := by decide +kernel
theorem dX5_mean_6 : decode cX5_mean 6 = .ok (.invokevirtual 145, 3) := by decide +kernel
theorem dX5_mean_9 : decode cX5_mean 9 = .ok (.astore_n 3, 1) := by decide +kernel
theorem dX5_mean_10 : decode cX5_mean 10 = .ok (.ldc2_w 152, 3) := by decide +kernel
theorem dX5_mean_13 : decode cX5_mean 13 = .ok (.aload_n 3, 1) := by decide +kernel
theorem dX5_mean_14 : decode cX5_mean 14 = .ok (.iload_n 2, 1) := by decide +kernel
theorem dX5_mean_15 : decode cX5_mean 15 = .ok (.invokevirtual 154, 3) := by decide +kernel
theorem dX5_mean_18 : decode cX5_mean 18 = .ok (.lmul, 1) := by decide +kernel
theorem dX5_mean_19 : decode cX5_mean 19 = .ok (.aload_n 3, 1) := by decide +kernel
theorem dX5_mean_20 : decode cX5_mean 20 = .ok (.invokevirtual 158, 3) := by decide +kernel
theorem dX5_mean_23 : decode cX5_mean 23 = .ok (.invokestatic 162, 3) := by decide +kernel
theorem dX5_mean_26 : decode cX5_mean 26 = .ok (.l2i, 1) := by decide +kernel
theorem dX5_mean_27 : decode cX5_mean 27 = .ok (.ireturn, 1) := by decide +kernel
set_option maxRecDepth 20000 in
theorem ggX5_share_X5_checkCell : GoodIn wsX5_share wsX5_checkCell := goodIn_ca (goodIn_r _ [7, 8, 9, 10, 11, 6, 12] (by decide +kernel) (by decide +kernel)) (goodIn_sub (fun _ h => List.mem_cons_of_mem _ (List.mem_append_left _ (List.mem_append_right _ h))) (by decide +kernel))
set_option maxRecDepth 20000 in
theorem gX5_share_X5_checkCell : GoodIn wsX5_share (va_wsS RX5 59 yX5_checkCell wsX5_checkCell) := goodIn_app (goodIn_of _ (by decide +kernel)) ggX5_share_X5_checkCell
set_option maxRecDepth 20000 in
theorem ggX5_share_X5_checkSpread : GoodIn wsX5_share wsX5_checkSpread := goodIn_ca (goodIn_r _ [16, 17, 18, 19, 64, 65, 66, 67, 68, 69, 70, 71, 72] (by decide +kernel) (by decide +kernel)) (goodIn_sub (fun _ h => List.mem_cons_of_mem _ (List.mem_append_right _ h)) (by decide +kernel))
set_option maxRecDepth 20000 in
theorem gX5_share_X5_checkSpread : GoodIn wsX5_share (wsV RX5 119 RX5 yX5_checkSpread wsX5_checkSpread) := goodIn_app (goodIn_of _ (by decide +kernel)) ggX5_share_X5_checkSpread
set_option maxRecDepth 20000 in
theorem ggX5_share_X5_chartOf : GoodIn wsX5_share wsX5_chartOf := goodIn_r _ [23, 24, 25, 26, 27, 28, 29, 30, 31, 32, 33, 34, 35, 36, 37, 38, 39, 40, 41, 42, 43, 44, 6, 45, 46, 47, 48, 49, 50, 51, 64, 65, 66, 67, 68, 69, 70, 71, 72, 73, 74, 75, 76, 77, 78, 79, 80, 81, 82, 83, 84, 85, 86, 87] (by decide +kernel) (by decide +kernel)
set_option maxRecDepth 20000 in
theorem gX5_share_X5_chartOf : GoodIn wsX5_share (wsV RX5 145 RX5 yX5_chartOf wsX5_chartOf) := goodIn_app (goodIn_of _ (by decide +kernel)) ggX5_share_X5_chartOf
set_option maxRecDepth 20000 in
theorem ggX5_share_X2_sumOf : GoodIn wsX5_share wsX2_sumOf := goodIn_r _ [55, 39, 84] (by decide +kernel) (by decide +kernel)
set_option maxRecDepth 20000 in
theorem gX5_share_X2_sumOf : GoodIn wsX5_share (wsV RX5 168 RX2 yX2_sumOf wsX2_sumOf) := goodIn_app (goodIn_of _ (by decide +kernel)) ggX5_share_X2_sumOf
set_option maxRecDepth 20000 in
theorem ggX5_share_X2_sum : GoodIn wsX5_share wsX2_sum := goodIn_r _ [59, 60, 53, 54, 37, 55, 39, 84] (by decide +kernel) (by decide +kernel)
set_option maxRecDepth 20000 in
theorem gX5_share_X2_sum : GoodIn wsX5_share (wsV RX5 158 RX2 yX2_sum wsX2_sum) := goodIn_app (goodIn_of _ (by decide +kernel)) ggX5_share_X2_sum
set_option maxRecDepth 20000 in
theorem ggX5_share_X5_quotient : GoodIn wsX5_share wsX5_quotient := goodIn_r _ [63] (by decide +kernel) (by decide +kernel)
set_option maxRecDepth 20000 in
theorem gX5_share_X5_quotient : GoodIn wsX5_share (va_wsS RX5 162 yX5_quotient wsX5_quotient) := goodIn_app (goodIn_of _ (by decide +kernel)) ggX5_share_X5_quotient
theorem dX5_share_0 : decode cX5_share 0 = .ok (.iload_n 1, 1) := by decide +kernel
theorem dX5_share_1 : decode cX5_share 1 = .ok (.iload_n 2, 1) := by decide +kernel
theorem dX5_share_2 : decode cX5_share 2 = .ok (.invokestatic 59, 3) := by decide +kernel
theorem dX5_share_5 : decode cX5_share 5 = .ok (.iload_n 3, 1) := by decide +kernel
theorem dX5_share_6 : decode cX5_share 6 = .ok (.iload_n 1, 1) := by decide +kernel
theorem dX5_share_7 : decode cX5_share 7 = .ok (.if_icmp .lt 22, 3) := by decide +kernel
theorem dX5_share_10 : decode cX5_share 10 = .ok (.iload_n 3, 1) := by decide +kernel
theorem dX5_share_11 : decode cX5_share 11 = .ok (.bipush 8, 2) := by decide +kernel
theorem dX5_share_13 : decode cX5_share 13 = .ok (.if_icmp .ge 16, 3) := by decide +kernel
theorem dX5_share_16 : decode cX5_share 16 = .ok (.iload 4, 2) := by decide +kernel
theorem dX5_share_18 : decode cX5_share 18 = .ok (.iload_n 2, 1) := by decide +kernel
theorem dX5_share_19 : decode cX5_share 19 = .ok (.if_icmp .lt 10, 3) := by decide +kernel
theorem dX5_share_22 : decode cX5_share 22 = .ok (.iload 4, 2) := by decide +kernel
theorem dX5_share_24 : decode cX5_share 24 = .ok (.bipush 8, 2) := by decide +kernel
theorem dX5_share_26 : decode cX5_share 26 = .ok (.if_icmp .lt 11, 3) := by decide +kernel
theorem dX5_share_29 : decode cX5_share 29 = .ok (.new 83, 3) := by decide +kernel
theorem dX5_share_32 : decode cX5_share 32 = .ok (.dup, 1) := by decide +kernel
theorem dX5_share_33 : decode cX5_share 33 = .ok (.invokespecial 85, 3) := by decide +kernel
theorem dX5_share_36 : decode cX5_share 36 = .ok (.athrow, 1) := by decide +kernel
theorem dX5_share_37 : decode cX5_share 37 = .ok (.aload_n 0, 1) := by decide +kernel
theorem dX5_share_38 : decode cX5_share 38 = .ok (.invokevirtual 119, 3) := by decide +kernel
theorem dX5_share_41 : decode cX5_share 41 = .ok (.aload_n 0, 1) := by decide +kernel
theorem dX5_share_42 : decode cX5_share 42 = .ok (.iload 5, 2) := by decide +kernel
theorem dX5_share_44 : decode cX5_share 44 = .ok (.invokevirtual 145, 3) := by decide +kernel
theorem dX5_share_47 : decode cX5_share 47 = .ok (.astore 6, 2) := by decide +kernel
theorem dX5_share_49 : decode cX5_share 49 = .ok (.ldc2_w 166, 3) := by decide +kernel
theorem dX5_share_52 : decode cX5_share 52 = .ok (.aload 6, 2) := by decide +kernel
theorem dX5_share_54 : decode cX5_share 54 = .ok (.iload_n 1, 1) := by decide +kernel
theorem dX5_share_55 : decode cX5_share 55 = .ok (.iload_n 2, 1) := by decide +kernel
theorem dX5_share_56 : decode cX5_share 56 = .ok (.iload_n 3, 1) := by decide +kernel
theorem dX5_share_57 : decode cX5_share 57 = .ok (.iload 4, 2) := by decide +kernel
theorem dX5_share_59 : decode cX5_share 59 = .ok (.invokevirtual 168, 3) := by decide +kernel
theorem dX5_share_62 : decode cX5_share 62 = .ok (.lmul, 1) := by decide +kernel
theorem dX5_share_63 : decode cX5_share 63 = .ok (.aload 6, 2) := by decide +kernel
theorem dX5_share_65 : decode cX5_share 65 = .ok (.invokevirtual 158, 3) := by decide +kernel
theorem dX5_share_68 : decode cX5_share 68 = .ok (.invokestatic 162, 3) := by decide +kernel
theorem dX5_share_71 : decode cX5_share 71 = .ok (.l2i, 1) := by decide +kernel
theorem dX5_share_72 : decode cX5_share 72 = .ok (.ireturn, 1) := by decide +kernel
set_option maxRecDepth 20000 in
theorem ggX5_best_X5_checkSpread : GoodIn wsX5_best wsX5_checkSpread := goodIn_ca (goodIn_r _ [8, 9, 10, 11, 34, 35, 36, 37, 38, 39, 40, 41, 42] (by decide +kernel) (by decide +kernel)) (goodIn_sub (fun _ h => List.mem_cons_of_mem _ (List.mem_append_right _ h)) (by decide +kernel))
set_option maxRecDepth 20000 in
theorem gX5_best_X5_checkSpread : GoodIn wsX5_best (wsV RX5 119 RX5 yX5_checkSpread wsX5_checkSpread) := goodIn_app (goodIn_of _ (by decide +kernel)) ggX5_best_X5_checkSpread
set_option maxRecDepth 20000 in
theorem ggX5_best_X0_chart : GoodIn wsX5_best wsX0_chart := goodIn_r _ [16, 17, 43, 44, 45] (by decide +kernel) (by decide +kernel)
set_option maxRecDepth 20000 in
theorem gX5_best_X0_chart : GoodIn wsX5_best (wsV RX5 141 RX0 yX0_chart wsX0_chart) := goodIn_app (goodIn_of _ (by decide +kernel)) ggX5_best_X0_chart
set_option maxRecDepth 20000 in
theorem ggX5_best_X2_cellAtPlace : GoodIn wsX5_best wsX2_cellAtPlace := goodIn_r _ [22, 23, 24, 25, 26, 21, 27, 28, 29, 30, 31, 32, 7, 33, 46] (by decide +kernel) (by decide +kernel)
set_option maxRecDepth 20000 in
theorem gX5_best_X2_cellAtPlace : GoodIn wsX5_best (wsV RX5 172 RX2 yX2_cellAtPlace wsX2_cellAtPlace) := goodIn_app (goodIn_of _ (by decide +kernel)) ggX5_best_X2_cellAtPlace
theorem dX5_best_0 : decode cX5_best 0 = .ok (.iload_n 1, 1) := by decide +kernel
theorem dX5_best_1 : decode cX5_best 1 = .ok (.ifCond .ge 11, 3) := by decide +kernel
theorem dX5_best_4 : decode cX5_best 4 = .ok (.new 125, 3) := by decide +kernel
theorem dX5_best_7 : decode cX5_best 7 = .ok (.dup, 1) := by decide +kernel
theorem dX5_best_8 : decode cX5_best 8 = .ok (.invokespecial 127, 3) := by decide +kernel
theorem dX5_best_11 : decode cX5_best 11 = .ok (.athrow, 1) := by decide +kernel
theorem dX5_best_12 : decode cX5_best 12 = .ok (.aload_n 0, 1) := by decide +kernel
theorem dX5_best_13 : decode cX5_best 13 = .ok (.invokevirtual 119, 3) := by decide +kernel
theorem dX5_best_16 : decode cX5_best 16 = .ok (.aload_n 0, 1) := by decide +kernel
theorem dX5_best_17 : decode cX5_best 17 = .ok (.getfield 37, 3) := by decide +kernel
theorem dX5_best_20 : decode cX5_best 20 = .ok (.invokevirtual 141, 3) := by decide +kernel
theorem dX5_best_23 : decode cX5_best 23 = .ok (.iload_n 1, 1) := by decide +kernel
theorem dX5_best_24 : decode cX5_best 24 = .ok (.invokevirtual 172, 3) := by decide +kernel
theorem dX5_best_27 : decode cX5_best 27 = .ok (.ireturn, 1) := by decide +kernel
set_option maxRecDepth 20000 in
theorem ggX5_doubt_X5_checkSpread : GoodIn wsX5_doubt wsX5_checkSpread := goodIn_ca (goodIn_r _ [6, 7, 8, 9, 16, 17, 18, 19, 20, 21, 22, 23, 24] (by decide +kernel) (by decide +kernel)) (goodIn_sub (fun _ h => List.mem_cons_of_mem _ (List.mem_append_right _ h)) (by decide +kernel))
set_option maxRecDepth 20000 in
theorem gX5_doubt_X5_checkSpread : GoodIn wsX5_doubt (wsV RX5 119 RX5 yX5_checkSpread wsX5_checkSpread) := goodIn_app (goodIn_of _ (by decide +kernel)) ggX5_doubt_X5_checkSpread
set_option maxRecDepth 20000 in
theorem ggX5_doubt_X4_lastDoubt : GoodIn wsX5_doubt wsX4_lastDoubt := goodIn_r _ [14, 15, 25, 26, 27, 28, 29, 30, 31, 32, 33, 34, 35] (by decide +kernel) (by decide +kernel)
set_option maxRecDepth 20000 in
theorem gX5_doubt_X4_lastDoubt : GoodIn wsX5_doubt (wsV RX5 175 RX4 yX4_lastDoubt wsX4_lastDoubt) := goodIn_app (goodIn_of _ (by decide +kernel)) ggX5_doubt_X4_lastDoubt
theorem dX5_doubt_0 : decode cX5_doubt 0 = .ok (.aload_n 0, 1) := by decide +kernel
theorem dX5_doubt_1 : decode cX5_doubt 1 = .ok (.invokevirtual 119, 3) := by decide +kernel
theorem dX5_doubt_4 : decode cX5_doubt 4 = .ok (.aload_n 0, 1) := by decide +kernel
theorem dX5_doubt_5 : decode cX5_doubt 5 = .ok (.getfield 28, 3) := by decide +kernel
theorem dX5_doubt_8 : decode cX5_doubt 8 = .ok (.invokevirtual 175, 3) := by decide +kernel
theorem dX5_doubt_11 : decode cX5_doubt 11 = .ok (.ireturn, 1) := by decide +kernel
set_option maxRecDepth 20000 in
theorem ggX5_checkCell_X5_isInField : GoodIn wsX5_checkCell wsX5_isInField := goodIn_r _ [6] (by decide +kernel) (by decide +kernel)
set_option maxRecDepth 20000 in
theorem gX5_checkCell_X5_isInField : GoodIn wsX5_checkCell (va_wsS RX5 178 yX5_isInField wsX5_isInField) := goodIn_app (goodIn_of _ (by decide +kernel)) ggX5_checkCell_X5_isInField
theorem dX5_checkCell_0 : decode cX5_checkCell 0 = .ok (.iload_n 0, 1) := by decide +kernel
theorem dX5_checkCell_1 : decode cX5_checkCell 1 = .ok (.iload_n 1, 1) := by decide +kernel
theorem dX5_checkCell_2 : decode cX5_checkCell 2 = .ok (.invokestatic 178, 3) := by decide +kernel
theorem dX5_checkCell_5 : decode cX5_checkCell 5 = .ok (.ifCond .ne 11, 3) := by decide +kernel
theorem dX5_checkCell_8 : decode cX5_checkCell 8 = .ok (.new 125, 3) := by decide +kernel
theorem dX5_checkCell_11 : decode cX5_checkCell 11 = .ok (.dup, 1) := by decide +kernel
theorem dX5_checkCell_12 : decode cX5_checkCell 12 = .ok (.invokespecial 127, 3) := by decide +kernel
theorem dX5_checkCell_15 : decode cX5_checkCell 15 = .ok (.athrow, 1) := by decide +kernel
theorem dX5_checkCell_16 : decode cX5_checkCell 16 = .ok (.return_, 1) := by decide +kernel
set_option maxRecDepth 20000 in
theorem ggX5_checkDirection_X5_isDirection : GoodIn wsX5_checkDirection wsX5_isDirection := goodIn_r _ [6] (by decide +kernel) (by decide +kernel)
set_option maxRecDepth 20000 in
theorem gX5_checkDirection_X5_isDirection : GoodIn wsX5_checkDirection (va_wsS RX5 182 yX5_isDirection wsX5_isDirection) := goodIn_app (goodIn_of _ (by decide +kernel)) ggX5_checkDirection_X5_isDirection
theorem dX5_checkDirection_0 : decode cX5_checkDirection 0 = .ok (.iload_n 0, 1) := by decide +kernel
theorem dX5_checkDirection_1 : decode cX5_checkDirection 1 = .ok (.invokestatic 182, 3) := by decide +kernel
theorem dX5_checkDirection_4 : decode cX5_checkDirection 4 = .ok (.ifCond .ne 11, 3) := by decide +kernel
theorem dX5_checkDirection_7 : decode cX5_checkDirection 7 = .ok (.new 125, 3) := by decide +kernel
theorem dX5_checkDirection_10 : decode cX5_checkDirection 10 = .ok (.dup, 1) := by decide +kernel
theorem dX5_checkDirection_11 : decode cX5_checkDirection 11 = .ok (.invokespecial 127, 3) := by decide +kernel
theorem dX5_checkDirection_14 : decode cX5_checkDirection 14 = .ok (.athrow, 1) := by decide +kernel
theorem dX5_checkDirection_15 : decode cX5_checkDirection 15 = .ok (.return_, 1) := by decide +kernel
theorem dX5_checkSpread_0 : decode cX5_checkSpread 0 = .ok (.aload_n 0, 1) := by decide +kernel
theorem dX5_checkSpread_1 : decode cX5_checkSpread 1 = .ok (.getfield 55, 3) := by decide +kernel
theorem dX5_checkSpread_4 : decode cX5_checkSpread 4 = .ok (.ifCond .ne 11, 3) := by decide +kernel
theorem dX5_checkSpread_7 : decode cX5_checkSpread 7 = .ok (.new 75, 3) := by decide +kernel
theorem dX5_checkSpread_10 : decode cX5_checkSpread 10 = .ok (.dup, 1) := by decide +kernel
theorem dX5_checkSpread_11 : decode cX5_checkSpread 11 = .ok (.invokespecial 77, 3) := by decide +kernel
theorem dX5_checkSpread_14 : decode cX5_checkSpread 14 = .ok (.athrow, 1) := by decide +kernel
theorem dX5_checkSpread_15 : decode cX5_checkSpread 15 = .ok (.return_, 1) := by decide +kernel
theorem dX5_checkMayTell_0 : decode cX5_checkMayTell 0 = .ok (.aload_n 0, 1) := by decide +kernel
theorem dX5_checkMayTell_1 : decode cX5_checkMayTell 1 = .ok (.getfield 55, 3) := by decide +kernel
theorem dX5_checkMayTell_4 : decode cX5_checkMayTell 4 = .ok (.ifCond .eq 13, 3) := by decide +kernel
theorem dX5_checkMayTell_7 : decode cX5_checkMayTell 7 = .ok (.aload_n 0, 1) := by decide +kernel
theorem dX5_checkMayTell_8 : decode cX5_checkMayTell 8 = .ok (.getfield 51, 3) := by decide +kernel
theorem dX5_checkMayTell_11 : decode cX5_checkMayTell 11 = .ok (.sipush 300, 3) := by decide +kernel
theorem dX5_checkMayTell_14 : decode cX5_checkMayTell 14 = .ok (.if_icmp .lt 11, 3) := by decide +kernel
theorem dX5_checkMayTell_17 : decode cX5_checkMayTell 17 = .ok (.new 75, 3) := by decide +kernel
theorem dX5_checkMayTell_20 : decode cX5_checkMayTell 20 = .ok (.dup, 1) := by decide +kernel
theorem dX5_checkMayTell_21 : decode cX5_checkMayTell 21 = .ok (.invokespecial 77, 3) := by decide +kernel
theorem dX5_checkMayTell_24 : decode cX5_checkMayTell 24 = .ok (.athrow, 1) := by decide +kernel
theorem dX5_checkMayTell_25 : decode cX5_checkMayTell 25 = .ok (.return_, 1) := by decide +kernel
theorem dX5_keep_0 : decode cX5_keep 0 = .ok (.aload_n 0, 1) := by decide +kernel
theorem dX5_keep_1 : decode cX5_keep 1 = .ok (.getfield 51, 3) := by decide +kernel
theorem dX5_keep_4 : decode cX5_keep 4 = .ok (.ifCond .lt 43, 3) := by decide +kernel
theorem dX5_keep_7 : decode cX5_keep 7 = .ok (.aload_n 0, 1) := by decide +kernel
theorem dX5_keep_8 : decode cX5_keep 8 = .ok (.getfield 51, 3) := by decide +kernel
theorem dX5_keep_11 : decode cX5_keep 11 = .ok (.sipush 300, 3) := by decide +kernel
theorem dX5_keep_14 : decode cX5_keep 14 = .ok (.if_icmp .ge 33, 3) := by decide +kernel
theorem dX5_keep_17 : decode cX5_keep 17 = .ok (.aload_n 0, 1) := by decide +kernel
theorem dX5_keep_18 : decode cX5_keep 18 = .ok (.getfield 44, 3) := by decide +kernel
theorem dX5_keep_21 : decode cX5_keep 21 = .ok (.aload_n 0, 1) := by decide +kernel
theorem dX5_keep_22 : decode cX5_keep 22 = .ok (.getfield 51, 3) := by decide +kernel
theorem dX5_keep_25 : decode cX5_keep 25 = .ok (.iload_n 1, 1) := by decide +kernel
theorem dX5_keep_26 : decode cX5_keep 26 = .ok (.iastore, 1) := by decide +kernel
theorem dX5_keep_27 : decode cX5_keep 27 = .ok (.aload_n 0, 1) := by decide +kernel
theorem dX5_keep_28 : decode cX5_keep 28 = .ok (.getfield 48, 3) := by decide +kernel
theorem dX5_keep_31 : decode cX5_keep 31 = .ok (.aload_n 0, 1) := by decide +kernel
theorem dX5_keep_32 : decode cX5_keep 32 = .ok (.getfield 51, 3) := by decide +kernel
theorem dX5_keep_35 : decode cX5_keep 35 = .ok (.iload_n 2, 1) := by decide +kernel
theorem dX5_keep_36 : decode cX5_keep 36 = .ok (.iastore, 1) := by decide +kernel
theorem dX5_keep_37 : decode cX5_keep 37 = .ok (.aload_n 0, 1) := by decide +kernel
theorem dX5_keep_38 : decode cX5_keep 38 = .ok (.dup, 1) := by decide +kernel
theorem dX5_keep_39 : decode cX5_keep 39 = .ok (.getfield 51, 3) := by decide +kernel
theorem dX5_keep_42 : decode cX5_keep 42 = .ok (.iconst 1, 1) := by decide +kernel
theorem dX5_keep_43 : decode cX5_keep 43 = .ok (.iadd, 1) := by decide +kernel
theorem dX5_keep_44 : decode cX5_keep 44 = .ok (.putfield 51, 3) := by decide +kernel
theorem dX5_keep_47 : decode cX5_keep 47 = .ok (.return_, 1) := by decide +kernel
set_option maxRecDepth 20000 in
theorem ggX5_repeatAllTold_X0_begin : GoodIn wsX5_repeatAllTold wsX0_begin := goodIn_r _ [9, 10, 11, 12, 13, 14, 15, 16, 17, 18, 19, 20, 21, 22, 23, 24, 25, 26, 113, 114, 115, 116, 117, 118, 119] (by decide +kernel) (by decide +kernel)
set_option maxRecDepth 20000 in
theorem gX5_repeatAllTold_X0_begin : GoodIn wsX5_repeatAllTold (wsV RX5 94 RX0 yX0_begin wsX0_begin) := goodIn_app (goodIn_of _ (by decide +kernel)) ggX5_repeatAllTold_X0_begin
set_option maxRecDepth 20000 in
theorem ggX5_repeatAllTold_X0_fetch : GoodIn wsX5_repeatAllTold wsX0_fetch := goodIn_r _ [30, 31, 10, 32, 33, 34, 24, 35, 26, 36, 37, 38, 39, 40, 41, 42, 8, 43, 44, 11, 45, 46, 47, 48, 49, 18, 19, 20, 50, 51, 15, 52, 53, 54, 55, 56, 57, 58, 59, 60, 12, 13, 14, 16, 17, 61, 62, 63, 64, 65, 66, 67, 68, 69, 70, 71, 72, 73, 74, 21, 22, 23, 25, 75, 76, 77, 78, 79, 80, 81, 82, 83, 84, 85, 86, 87, 88, 89, 90, 91, 113, 114, 115, 119, 116, 117, 118] (by decide +kernel) (by decide +kernel)
set_option maxRecDepth 20000 in
theorem gX5_repeatAllTold_X0_fetch : GoodIn wsX5_repeatAllTold (wsV RX5 185 RX0 yX0_fetch wsX0_fetch) := goodIn_app (goodIn_of _ (by decide +kernel)) ggX5_repeatAllTold_X0_fetch
set_option maxRecDepth 20000 in
theorem ggX5_repeatAllTold_X0_weigh : GoodIn wsX5_repeatAllTold wsX0_weigh := goodIn_r _ [95, 10, 11, 46, 47, 48, 24, 49, 26, 18, 19, 20, 96, 97, 98, 15, 99, 100, 101, 67, 102, 69, 70, 71, 72, 73, 55, 56, 21, 22, 23, 25, 80, 81, 82, 83, 84, 85, 86, 103, 6, 7, 8, 9, 12, 13, 14, 16, 17, 75, 76, 77, 78, 79, 87, 88, 89, 90, 91, 113, 114, 115, 119, 116, 117, 118] (by decide +kernel) (by decide +kernel)
set_option maxRecDepth 20000 in
theorem gX5_repeatAllTold_X0_weigh : GoodIn wsX5_repeatAllTold (wsV RX5 114 RX0 yX0_weigh wsX0_weigh) := goodIn_app (goodIn_of _ (by decide +kernel)) ggX5_repeatAllTold_X0_weigh
theorem dX5_repeatAllTold_0 : decode cX5_repeatAllTold 0 = .ok (.aload_n 0, 1) := by decide +kernel
theorem dX5_repeatAllTold_1 : decode cX5_repeatAllTold 1 = .ok (.getfield 41, 3) := by decide +kernel
theorem dX5_repeatAllTold_4 : decode cX5_repeatAllTold 4 = .ok (.invokevirtual 94, 3) := by decide +kernel
theorem dX5_repeatAllTold_7 : decode cX5_repeatAllTold 7 = .ok (.iconst 0, 1) := by decide +kernel
theorem dX5_repeatAllTold_8 : decode cX5_repeatAllTold 8 = .ok (.istore_n 1, 1) := by decide +kernel
theorem dX5_repeatAllTold_9 : decode cX5_repeatAllTold 9 = .ok (.iload_n 1, 1) := by decide +kernel
theorem dX5_repeatAllTold_10 : decode cX5_repeatAllTold 10 = .ok (.aload_n 0, 1) := by decide +kernel
theorem dX5_repeatAllTold_11 : decode cX5_repeatAllTold 11 = .ok (.getfield 51, 3) := by decide +kernel
theorem dX5_repeatAllTold_14 : decode cX5_repeatAllTold 14 = .ok (.if_icmp .ge 61, 3) := by decide +kernel
theorem dX5_repeatAllTold_17 : decode cX5_repeatAllTold 17 = .ok (.iload_n 1, 1) := by decide +kernel
theorem dX5_repeatAllTold_18 : decode cX5_repeatAllTold 18 = .ok (.sipush 300, 3) := by decide +kernel
theorem dX5_repeatAllTold_21 : decode cX5_repeatAllTold 21 = .ok (.if_icmp .ge 54, 3) := by decide +kernel
theorem dX5_repeatAllTold_24 : decode cX5_repeatAllTold 24 = .ok (.aload_n 0, 1) := by decide +kernel
theorem dX5_repeatAllTold_25 : decode cX5_repeatAllTold 25 = .ok (.getfield 48, 3) := by decide +kernel
theorem dX5_repeatAllTold_28 : decode cX5_repeatAllTold 28 = .ok (.iload_n 1, 1) := by decide +kernel
theorem dX5_repeatAllTold_29 : decode cX5_repeatAllTold 29 = .ok (.iaload, 1) := by decide +kernel
theorem dX5_repeatAllTold_30 : decode cX5_repeatAllTold 30 = .ok (.iconst (-1), 1) := by decide +kernel
theorem dX5_repeatAllTold_31 : decode cX5_repeatAllTold 31 = .ok (.if_icmp .ne 19, 3) := by decide +kernel
theorem dX5_repeatAllTold_34 : decode cX5_repeatAllTold 34 = .ok (.aload_n 0, 1) := by decide +kernel
theorem dX5_repeatAllTold_35 : decode cX5_repeatAllTold 35 = .ok (.getfield 41, 3) := by decide +kernel
theorem dX5_repeatAllTold_38 : decode cX5_repeatAllTold 38 = .ok (.aload_n 0, 1) := by decide +kernel
theorem dX5_repeatAllTold_39 : decode cX5_repeatAllTold 39 = .ok (.getfield 44, 3) := by decide +kernel
theorem dX5_repeatAllTold_42 : decode cX5_repeatAllTold 42 = .ok (.iload_n 1, 1) := by decide +kernel
theorem dX5_repeatAllTold_43 : decode cX5_repeatAllTold 43 = .ok (.iaload, 1) := by decide +kernel
theorem dX5_repeatAllTold_44 : decode cX5_repeatAllTold 44 = .ok (.invokevirtual 185, 3) := by decide +kernel
theorem dX5_repeatAllTold_47 : decode cX5_repeatAllTold 47 = .ok (.goto 22, 3) := by decide +kernel
theorem dX5_repeatAllTold_50 : decode cX5_repeatAllTold 50 = .ok (.aload_n 0, 1) := by decide +kernel
theorem dX5_repeatAllTold_51 : decode cX5_repeatAllTold 51 = .ok (.getfield 41, 3) := by decide +kernel
theorem dX5_repeatAllTold_54 : decode cX5_repeatAllTold 54 = .ok (.aload_n 0, 1) := by decide +kernel
theorem dX5_repeatAllTold_55 : decode cX5_repeatAllTold 55 = .ok (.getfield 44, 3) := by decide +kernel
theorem dX5_repeatAllTold_58 : decode cX5_repeatAllTold 58 = .ok (.iload_n 1, 1) := by decide +kernel
theorem dX5_repeatAllTold_59 : decode cX5_repeatAllTold 59 = .ok (.iaload, 1) := by decide +kernel
theorem dX5_repeatAllTold_60 : decode cX5_repeatAllTold 60 = .ok (.aload_n 0, 1) := by decide +kernel
theorem dX5_repeatAllTold_61 : decode cX5_repeatAllTold 61 = .ok (.getfield 48, 3) := by decide +kernel
theorem dX5_repeatAllTold_64 : decode cX5_repeatAllTold 64 = .ok (.iload_n 1, 1) := by decide +kernel
theorem dX5_repeatAllTold_65 : decode cX5_repeatAllTold 65 = .ok (.iaload, 1) := by decide +kernel
theorem dX5_repeatAllTold_66 : decode cX5_repeatAllTold 66 = .ok (.invokevirtual 114, 3) := by decide +kernel
theorem dX5_repeatAllTold_69 : decode cX5_repeatAllTold 69 = .ok (.iinc 1 1, 3) := by decide +kernel
theorem dX5_repeatAllTold_72 : decode cX5_repeatAllTold 72 = .ok (.goto (-63), 3) := by decide +kernel
theorem dX5_repeatAllTold_75 : decode cX5_repeatAllTold 75 = .ok (.return_, 1) := by decide +kernel
set_option maxRecDepth 20000 in
theorem ggX5_chartOf_X4_chart : GoodIn wsX5_chartOf wsX4_chart := goodIn_r _ [7, 8, 9, 10, 11, 12, 13, 14, 15, 16, 17, 18, 19, 20, 21, 22, 23, 39, 40, 41, 42, 43, 44, 45, 46, 47, 48, 49, 50] (by decide +kernel) (by decide +kernel)
set_option maxRecDepth 20000 in
theorem gX5_chartOf_X4_chart : GoodIn wsX5_chartOf (wsV RX5 131 RX4 yX4_chart wsX4_chart) := goodIn_app (goodIn_of _ (by decide +kernel)) ggX5_chartOf_X4_chart
set_option maxRecDepth 20000 in
theorem ggX5_chartOf_X0_chart : GoodIn wsX5_chartOf wsX0_chart := goodIn_r _ [28, 29, 51, 52, 53] (by decide +kernel) (by decide +kernel)
set_option maxRecDepth 20000 in
theorem gX5_chartOf_X0_chart : GoodIn wsX5_chartOf (wsV RX5 141 RX0 yX0_chart wsX0_chart) := goodIn_app (goodIn_of _ (by decide +kernel)) ggX5_chartOf_X0_chart
theorem dX5_chartOf_0 : decode cX5_chartOf 0 = .ok (.iload_n 1, 1) := by decide +kernel
theorem dX5_chartOf_1 : decode cX5_chartOf 1 = .ok (.ifCond .eq 13, 3) := by decide +kernel
theorem dX5_chartOf_4 : decode cX5_chartOf 4 = .ok (.aload_n 0, 1) := by decide +kernel
theorem dX5_chartOf_5 : decode cX5_chartOf 5 = .ok (.getfield 28, 3) := by decide +kernel
theorem dX5_chartOf_8 : decode cX5_chartOf 8 = .ok (.invokevirtual 131, 3) := by decide +kernel
theorem dX5_chartOf_11 : decode cX5_chartOf 11 = .ok (.goto 10, 3) := by decide +kernel
theorem dX5_chartOf_14 : decode cX5_chartOf 14 = .ok (.aload_n 0, 1) := by decide +kernel
theorem dX5_chartOf_15 : decode cX5_chartOf 15 = .ok (.getfield 37, 3) := by decide +kernel
theorem dX5_chartOf_18 : decode cX5_chartOf 18 = .ok (.invokevirtual 141, 3) := by decide +kernel
theorem dX5_chartOf_21 : decode cX5_chartOf 21 = .ok (.areturn, 1) := by decide +kernel
theorem dX5_isInField_0 : decode cX5_isInField 0 = .ok (.iload_n 0, 1) := by decide +kernel
theorem dX5_isInField_1 : decode cX5_isInField 1 = .ok (.ifCond .lt 23, 3) := by decide +kernel
theorem dX5_isInField_4 : decode cX5_isInField 4 = .ok (.iload_n 0, 1) := by decide +kernel
theorem dX5_isInField_5 : decode cX5_isInField 5 = .ok (.bipush 8, 2) := by decide +kernel
theorem dX5_isInField_7 : decode cX5_isInField 7 = .ok (.if_icmp .ge 17, 3) := by decide +kernel
theorem dX5_isInField_10 : decode cX5_isInField 10 = .ok (.iload_n 1, 1) := by decide +kernel
theorem dX5_isInField_11 : decode cX5_isInField 11 = .ok (.ifCond .lt 13, 3) := by decide +kernel
theorem dX5_isInField_14 : decode cX5_isInField 14 = .ok (.iload_n 1, 1) := by decide +kernel
theorem dX5_isInField_15 : decode cX5_isInField 15 = .ok (.bipush 8, 2) := by decide +kernel
theorem dX5_isInField_17 : decode cX5_isInField 17 = .ok (.if_icmp .ge 7, 3) := by decide +kernel
theorem dX5_isInField_20 : decode cX5_isInField 20 = .ok (.iconst 1, 1) := by decide +kernel
theorem dX5_isInField_21 : decode cX5_isInField 21 = .ok (.goto 4, 3) := by decide +kernel
theorem dX5_isInField_24 : decode cX5_isInField 24 = .ok (.iconst 0, 1) := by decide +kernel
theorem dX5_isInField_25 : decode cX5_isInField 25 = .ok (.ireturn, 1) := by decide +kernel
theorem dX5_isCell_0 : decode cX5_isCell 0 = .ok (.iload_n 0, 1) := by decide +kernel
theorem dX5_isCell_1 : decode cX5_isCell 1 = .ok (.ifCond .lt 13, 3) := by decide +kernel
theorem dX5_isCell_4 : decode cX5_isCell 4 = .ok (.iload_n 0, 1) := by decide +kernel
theorem dX5_isCell_5 : decode cX5_isCell 5 = .ok (.bipush 64, 2) := by decide +kernel
theorem dX5_isCell_7 : decode cX5_isCell 7 = .ok (.if_icmp .ge 7, 3) := by decide +kernel
theorem dX5_isCell_10 : decode cX5_isCell 10 = .ok (.iconst 1, 1) := by decide +kernel
theorem dX5_isCell_11 : decode cX5_isCell 11 = .ok (.goto 4, 3) := by decide +kernel
theorem dX5_isCell_14 : decode cX5_isCell 14 = .ok (.iconst 0, 1) := by decide +kernel
theorem dX5_isCell_15 : decode cX5_isCell 15 = .ok (.ireturn, 1) := by decide +kernel
theorem dX5_isDirection_0 : decode cX5_isDirection 0 = .ok (.iload_n 0, 1) := by decide +kernel
theorem dX5_isDirection_1 : decode cX5_isDirection 1 = .ok (.ifCond .lt 12, 3) := by decide +kernel
theorem dX5_isDirection_4 : decode cX5_isDirection 4 = .ok (.iload_n 0, 1) := by decide +kernel
theorem dX5_isDirection_5 : decode cX5_isDirection 5 = .ok (.iconst 4, 1) := by decide +kernel
theorem dX5_isDirection_6 : decode cX5_isDirection 6 = .ok (.if_icmp .ge 7, 3) := by decide +kernel
theorem dX5_isDirection_9 : decode cX5_isDirection 9 = .ok (.iconst 1, 1) := by decide +kernel
theorem dX5_isDirection_10 : decode cX5_isDirection 10 = .ok (.goto 4, 3) := by decide +kernel
theorem dX5_isDirection_13 : decode cX5_isDirection 13 = .ok (.iconst 0, 1) := by decide +kernel
theorem dX5_isDirection_14 : decode cX5_isDirection 14 = .ok (.ireturn, 1) := by decide +kernel
theorem dX5_numberOf_0 : decode cX5_numberOf 0 = .ok (.bipush 8, 2) := by decide +kernel
theorem dX5_numberOf_2 : decode cX5_numberOf 2 = .ok (.iload_n 1, 1) := by decide +kernel
theorem dX5_numberOf_3 : decode cX5_numberOf 3 = .ok (.imul, 1) := by decide +kernel
theorem dX5_numberOf_4 : decode cX5_numberOf 4 = .ok (.iload_n 0, 1) := by decide +kernel
theorem dX5_numberOf_5 : decode cX5_numberOf 5 = .ok (.iadd, 1) := by decide +kernel
theorem dX5_numberOf_6 : decode cX5_numberOf 6 = .ok (.ireturn, 1) := by decide +kernel
theorem dX5_quotient_0 : decode cX5_quotient 0 = .ok (.lload_n 2, 1) := by decide +kernel
theorem dX5_quotient_1 : decode cX5_quotient 1 = .ok (.lconst 0, 1) := by decide +kernel
theorem dX5_quotient_2 : decode cX5_quotient 2 = .ok (.lcmp, 1) := by decide +kernel
theorem dX5_quotient_3 : decode cX5_quotient 3 = .ok (.ifCond .ne 7, 3) := by decide +kernel
theorem dX5_quotient_6 : decode cX5_quotient 6 = .ok (.lconst 0, 1) := by decide +kernel
theorem dX5_quotient_7 : decode cX5_quotient 7 = .ok (.goto 6, 3) := by decide +kernel
theorem dX5_quotient_10 : decode cX5_quotient 10 = .ok (.lload_n 0, 1) := by decide +kernel
theorem dX5_quotient_11 : decode cX5_quotient 11 = .ok (.lload_n 2, 1) := by decide +kernel
theorem dX5_quotient_12 : decode cX5_quotient 12 = .ok (.ldiv, 1) := by decide +kernel
theorem dX5_quotient_13 : decode cX5_quotient 13 = .ok (.lreturn, 1) := by decide +kernel
theorem dJ9_abs_0f7a4_0 : decode cJ9_abs_0f7a4 0 = .ok (.iload_n 0, 1) := by decide +kernel
theorem dJ9_abs_0f7a4_1 : decode cJ9_abs_0f7a4 1 = .ok (.ifCond .ge 8, 3) := by decide +kernel
theorem dJ9_abs_0f7a4_4 : decode cJ9_abs_0f7a4 4 = .ok (.iload_n 0, 1) := by decide +kernel
theorem dJ9_abs_0f7a4_5 : decode cJ9_abs_0f7a4 5 = .ok (.ineg, 1) := by decide +kernel
theorem dJ9_abs_0f7a4_6 : decode cJ9_abs_0f7a4 6 = .ok (.goto 4, 3) := by decide +kernel
theorem dJ9_abs_0f7a4_9 : decode cJ9_abs_0f7a4 9 = .ok (.iload_n 0, 1) := by decide +kernel
theorem dJ9_abs_0f7a4_10 : decode cJ9_abs_0f7a4 10 = .ok (.ireturn, 1) := by decide +kernel
theorem dJ9_max_7cf53_0 : decode cJ9_max_7cf53 0 = .ok (.iload_n 0, 1) := by decide +kernel
theorem dJ9_max_7cf53_1 : decode cJ9_max_7cf53 1 = .ok (.iload_n 1, 1) := by decide +kernel
theorem dJ9_max_7cf53_2 : decode cJ9_max_7cf53 2 = .ok (.if_icmp .lt 7, 3) := by decide +kernel
theorem dJ9_max_7cf53_5 : decode cJ9_max_7cf53 5 = .ok (.iload_n 0, 1) := by decide +kernel
theorem dJ9_max_7cf53_6 : decode cJ9_max_7cf53 6 = .ok (.goto 4, 3) := by decide +kernel
theorem dJ9_max_7cf53_9 : decode cJ9_max_7cf53 9 = .ok (.iload_n 1, 1) := by decide +kernel
theorem dJ9_max_7cf53_10 : decode cJ9_max_7cf53 10 = .ok (.ireturn, 1) := by decide +kernel
theorem dJ9_max_f86c9_0 : decode cJ9_max_f86c9 0 = .ok (.lload_n 0, 1) := by decide +kernel
theorem dJ9_max_f86c9_1 : decode cJ9_max_f86c9 1 = .ok (.lload_n 2, 1) := by decide +kernel
theorem dJ9_max_f86c9_2 : decode cJ9_max_f86c9 2 = .ok (.lcmp, 1) := by decide +kernel
theorem dJ9_max_f86c9_3 : decode cJ9_max_f86c9 3 = .ok (.ifCond .lt 7, 3) := by decide +kernel
theorem dJ9_max_f86c9_6 : decode cJ9_max_f86c9 6 = .ok (.lload_n 0, 1) := by decide +kernel
theorem dJ9_max_f86c9_7 : decode cJ9_max_f86c9 7 = .ok (.goto 4, 3) := by decide +kernel
theorem dJ9_max_f86c9_10 : decode cJ9_max_f86c9 10 = .ok (.lload_n 2, 1) := by decide +kernel
theorem dJ9_max_f86c9_11 : decode cJ9_max_f86c9 11 = .ok (.lreturn, 1) := by decide +kernel
theorem dJ9_min_7cf53_0 : decode cJ9_min_7cf53 0 = .ok (.iload_n 0, 1) := by decide +kernel
theorem dJ9_min_7cf53_1 : decode cJ9_min_7cf53 1 = .ok (.iload_n 1, 1) := by decide +kernel
theorem dJ9_min_7cf53_2 : decode cJ9_min_7cf53 2 = .ok (.if_icmp .gt 7, 3) := by decide +kernel
theorem dJ9_min_7cf53_5 : decode cJ9_min_7cf53 5 = .ok (.iload_n 0, 1) := by decide +kernel
theorem dJ9_min_7cf53_6 : decode cJ9_min_7cf53 6 = .ok (.goto 4, 3) := by decide +kernel
theorem dJ9_min_7cf53_9 : decode cJ9_min_7cf53 9 = .ok (.iload_n 1, 1) := by decide +kernel
theorem dJ9_min_7cf53_10 : decode cJ9_min_7cf53 10 = .ok (.ireturn, 1) := by decide +kernel
theorem dL_cell_0 : decode cL_cell 0 = .ok (.iload_n 1, 1) := by decide +kernel
theorem dL_cell_1 : decode cL_cell 1 = .ok (.aload_n 0, 1) := by decide +kernel
theorem dL_cell_2 : decode cL_cell 2 = .ok (.arraylength, 1) := by decide +kernel
theorem dL_cell_3 : decode cL_cell 3 = .ok (.if_icmp .ge 9, 3) := by decide +kernel
theorem dL_cell_6 : decode cL_cell 6 = .ok (.aload_n 0, 1) := by decide +kernel
theorem dL_cell_7 : decode cL_cell 7 = .ok (.iload_n 1, 1) := by decide +kernel
theorem dL_cell_8 : decode cL_cell 8 = .ok (.iaload, 1) := by decide +kernel
theorem dL_cell_9 : decode cL_cell 9 = .ok (.goto 18, 3) := by decide +kernel
theorem dL_cell_12 : decode cL_cell 12 = .ok (.sipush 7919, 3) := by decide +kernel
theorem dL_cell_15 : decode cL_cell 15 = .ok (.iload_n 1, 1) := by decide +kernel
theorem dL_cell_16 : decode cL_cell 16 = .ok (.sipush 2333, 3) := by decide +kernel
theorem dL_cell_19 : decode cL_cell 19 = .ok (.iadd, 1) := by decide +kernel
theorem dL_cell_20 : decode cL_cell 20 = .ok (.imul, 1) := by decide +kernel
theorem dL_cell_21 : decode cL_cell 21 = .ok (.iload_n 1, 1) := by decide +kernel
theorem dL_cell_22 : decode cL_cell 22 = .ok (.sipush 163, 3) := by decide +kernel
theorem dL_cell_25 : decode cL_cell 25 = .ok (.iadd, 1) := by decide +kernel
theorem dL_cell_26 : decode cL_cell 26 = .ok (.imul, 1) := by decide +kernel
theorem dL_cell_27 : decode cL_cell 27 = .ok (.ireturn, 1) := by decide +kernel
theorem dL_low_0 : decode cL_low 0 = .ok (.iload_n 0, 1) := by decide +kernel
theorem dL_low_1 : decode cL_low 1 = .ok (.ldc 7, 2) := by decide +kernel
theorem dL_low_3 : decode cL_low 3 = .ok (.iand, 1) := by decide +kernel
theorem dL_low_4 : decode cL_low 4 = .ok (.iload_n 1, 1) := by decide +kernel
theorem dL_low_5 : decode cL_low 5 = .ok (.irem, 1) := by decide +kernel
theorem dL_low_6 : decode cL_low 6 = .ok (.ireturn, 1) := by decide +kernel
set_option maxRecDepth 20000 in
theorem ggL_wall_X5_wall : GoodIn wsL_wall wsX5_wall := goodIn_ca (goodIn_ca (goodIn_r _ [8, 9, 10, 11, 12, 13, 14, 7, 15, 16, 17, 18, 19, 20, 21, 22, 23, 24, 25, 26, 27, 28, 29, 30, 31, 32, 33, 34, 35, 36, 37, 38, 39, 40, 41, 42, 43, 44, 45, 46, 47, 48, 49, 50, 51, 52, 53, 54, 55, 56, 57, 58, 59, 60, 61, 62, 63, 64, 65, 66, 67, 68, 69] (by decide +kernel) (by decide +kernel)) (goodIn_sub (fun _ h => List.mem_cons_of_mem _ (List.mem_append_left _ (List.mem_append_right _ h))) (by decide +kernel))) (goodIn_sub (fun _ h => List.mem_cons_of_mem _ (List.mem_append_right _ h)) (by decide +kernel))
set_option maxRecDepth 20000 in
theorem gL_wall_X5_wall : GoodIn wsL_wall (wsV RL 8 RX5 yX5_wall wsX5_wall) := goodIn_app (goodIn_of _ (by decide +kernel)) ggL_wall_X5_wall
theorem dL_wall_0 : decode cL_wall 0 = .ok (.aload_n 0, 1) := by decide +kernel
theorem dL_wall_1 : decode cL_wall 1 = .ok (.iload_n 1, 1) := by decide +kernel
theorem dL_wall_2 : decode cL_wall 2 = .ok (.iload_n 2, 1) := by decide +kernel
theorem dL_wall_3 : decode cL_wall 3 = .ok (.iload_n 3, 1) := by decide +kernel
theorem dL_wall_4 : decode cL_wall 4 = .ok (.invokevirtual 8, 3) := by decide +kernel
theorem dL_wall_7 : decode cL_wall 7 = .ok (.ifCond .eq 7, 3) := by decide +kernel
theorem dL_wall_10 : decode cL_wall 10 = .ok (.lconst 1, 1) := by decide +kernel
theorem dL_wall_11 : decode cL_wall 11 = .ok (.goto 4, 3) := by decide +kernel
theorem dL_wall_14 : decode cL_wall 14 = .ok (.lconst 0, 1) := by decide +kernel
theorem dL_wall_15 : decode cL_wall 15 = .ok (.lreturn, 1) := by decide +kernel
theorem dL_wall_16 : decode cL_wall 16 = .ok (.astore 4, 2) := by decide +kernel
theorem dL_wall_18 : decode cL_wall 18 = .ok (.ldc2_w 16, 3) := by decide +kernel
theorem dL_wall_21 : decode cL_wall 21 = .ok (.lreturn, 1) := by decide +kernel
theorem dL_wall_22 : decode cL_wall 22 = .ok (.astore 4, 2) := by decide +kernel
theorem dL_wall_24 : decode cL_wall 24 = .ok (.ldc2_w 16, 3) := by decide +kernel
theorem dL_wall_27 : decode cL_wall 27 = .ok (.lreturn, 1) := by decide +kernel
set_option maxRecDepth 20000 in
theorem ggL_draw_X5_draw : GoodIn wsL_draw wsX5_draw := goodIn_ca (goodIn_r _ [7, 8, 9, 10, 11, 12, 13, 14, 15, 16, 17, 18, 19, 20, 21, 22, 23, 24, 25, 26, 27] (by decide +kernel) (by decide +kernel)) (goodIn_sub (fun _ h => List.mem_cons_of_mem _ (List.mem_append_right _ h)) (by decide +kernel))
set_option maxRecDepth 20000 in
theorem gL_draw_X5_draw : GoodIn wsL_draw (wsV RL 20 RX5 yX5_draw wsX5_draw) := goodIn_app (goodIn_of _ (by decide +kernel)) ggL_draw_X5_draw
theorem dL_draw_0 : decode cL_draw 0 = .ok (.aload_n 0, 1) := by decide +kernel
theorem dL_draw_1 : decode cL_draw 1 = .ok (.iload_n 1, 1) := by decide +kernel
theorem dL_draw_2 : decode cL_draw 2 = .ok (.invokevirtual 20, 3) := by decide +kernel
theorem dL_draw_5 : decode cL_draw 5 = .ok (.i2l, 1) := by decide +kernel
theorem dL_draw_6 : decode cL_draw 6 = .ok (.lreturn, 1) := by decide +kernel
theorem dL_draw_7 : decode cL_draw 7 = .ok (.astore_n 2, 1) := by decide +kernel
theorem dL_draw_8 : decode cL_draw 8 = .ok (.ldc2_w 16, 3) := by decide +kernel
theorem dL_draw_11 : decode cL_draw 11 = .ok (.lreturn, 1) := by decide +kernel
set_option maxRecDepth 20000 in
theorem ggL_spread_X5_spread : GoodIn wsL_spread wsX5_spread := goodIn_ca (goodIn_r _ [7, 8, 9, 10, 11, 12, 13, 14, 15, 16, 17, 18, 19, 20, 21, 22, 23, 24, 25, 26, 27, 28, 29, 30, 31, 32, 33, 34, 35, 36, 37, 38, 39, 40, 41, 42, 43, 44, 45, 46, 47, 48, 49, 50, 51, 52, 6, 53, 54, 55, 56, 57, 58, 59, 60, 61, 62, 63, 64, 65, 66, 67, 68, 69, 70, 71, 72, 73, 74, 75, 76, 77, 78, 79, 80, 81, 82, 83, 84, 85, 86, 87] (by decide +kernel) (by decide +kernel)) (goodIn_sub (fun _ h => List.mem_cons_of_mem _ (List.mem_append_right _ h)) (by decide +kernel))
set_option maxRecDepth 20000 in
theorem gL_spread_X5_spread : GoodIn wsL_spread (wsV RL 26 RX5 yX5_spread wsX5_spread) := goodIn_app (goodIn_of _ (by decide +kernel)) ggL_spread_X5_spread
theorem dL_spread_0 : decode cL_spread 0 = .ok (.aload_n 0, 1) := by decide +kernel
theorem dL_spread_1 : decode cL_spread 1 = .ok (.iload_n 1, 1) := by decide +kernel
theorem dL_spread_2 : decode cL_spread 2 = .ok (.invokevirtual 26, 3) := by decide +kernel
theorem dL_spread_5 : decode cL_spread 5 = .ok (.lconst 0, 1) := by decide +kernel
theorem dL_spread_6 : decode cL_spread 6 = .ok (.lreturn, 1) := by decide +kernel
theorem dL_spread_7 : decode cL_spread 7 = .ok (.astore_n 2, 1) := by decide +kernel
theorem dL_spread_8 : decode cL_spread 8 = .ok (.ldc2_w 16, 3) := by decide +kernel
theorem dL_spread_11 : decode cL_spread 11 = .ok (.lreturn, 1) := by decide +kernel
set_option maxRecDepth 20000 in
theorem ggL_drive_X5_drive : GoodIn wsL_drive wsX5_drive := goodIn_ca (goodIn_ca (goodIn_r _ [8, 9, 10, 11, 12, 7, 13, 14, 15, 16, 17, 18, 19, 20, 21, 22, 23, 24, 25, 26, 27, 28, 29, 30, 31, 32, 33, 34, 35, 36, 37, 38, 39, 40, 41, 42, 43, 44, 45, 46, 47, 48, 49, 50, 51, 52, 53, 54, 55, 56, 57, 58, 59, 60, 61, 62, 63, 64, 65, 66, 67, 68, 69, 70, 71, 72, 73, 74, 75, 76, 77, 78, 79, 80, 81, 82, 83, 84, 85, 86, 87, 88, 89, 90, 91, 92, 93, 94, 95, 96, 97, 98, 99, 100, 101, 102, 103, 104, 105, 106, 107, 108, 109, 110, 111, 112, 113, 114, 115, 116, 117, 118, 119, 120, 121, 122, 123, 124, 125, 126, 127, 128, 129, 130, 131, 132, 133, 134, 135, 136, 137, 138, 139, 140, 141, 142, 143, 144, 145, 146, 147, 148, 149, 150, 151, 152, 153, 154, 155, 156, 157, 158, 159, 160] (by decide +kernel) (by decide +kernel)) (goodIn_sub (fun _ h => List.mem_cons_of_mem _ (List.mem_append_left _ (List.mem_append_right _ h))) (by decide +kernel))) (goodIn_sub (fun _ h => List.mem_cons_of_mem _ (List.mem_append_right _ h)) (by decide +kernel))
set_option maxRecDepth 20000 in
theorem gL_drive_X5_drive : GoodIn wsL_drive (wsV RL 30 RX5 yX5_drive wsX5_drive) := goodIn_app (goodIn_of _ (by decide +kernel)) ggL_drive_X5_drive
theorem dL_drive_0 : decode cL_drive 0 = .ok (.aload_n 0, 1) := by decide +kernel
theorem dL_drive_1 : decode cL_drive 1 = .ok (.iload_n 1, 1) := by decide +kernel
theorem dL_drive_2 : decode cL_drive 2 = .ok (.invokevirtual 30, 3) := by decide +kernel
theorem dL_drive_5 : decode cL_drive 5 = .ok (.lconst 0, 1) := by decide +kernel
theorem dL_drive_6 : decode cL_drive 6 = .ok (.lreturn, 1) := by decide +kernel
theorem dL_drive_7 : decode cL_drive 7 = .ok (.astore_n 2, 1) := by decide +kernel
theorem dL_drive_8 : decode cL_drive 8 = .ok (.ldc2_w 16, 3) := by decide +kernel
theorem dL_drive_11 : decode cL_drive 11 = .ok (.lreturn, 1) := by decide +kernel
theorem dL_drive_12 : decode cL_drive 12 = .ok (.astore_n 2, 1) := by decide +kernel
theorem dL_drive_13 : decode cL_drive 13 = .ok (.ldc2_w 16, 3) := by decide +kernel
theorem dL_drive_16 : decode cL_drive 16 = .ok (.lreturn, 1) := by decide +kernel
set_option maxRecDepth 20000 in
theorem ggL_read_X5_read : GoodIn wsL_read wsX5_read := goodIn_ca (goodIn_ca (goodIn_ca (goodIn_r _ [9, 10, 11, 12, 13, 14, 15, 8, 16, 17, 18, 19, 20, 21, 22, 23, 24, 25, 26, 27, 28, 29, 30, 31, 32, 33, 34, 35, 36, 37, 38, 39, 40, 41, 42, 43, 44, 45, 46, 47, 48, 49, 50, 51, 52, 53, 54, 55, 56, 57, 58, 59, 60, 61, 62, 63, 64, 65, 66, 67, 68, 69, 70, 71, 72, 73, 74, 75, 76, 77, 78, 79, 80, 81, 82, 83, 84, 85, 86, 87, 88, 89, 90, 91, 92, 93, 94, 95, 96, 97, 98, 99, 100, 101, 102, 103, 104, 105, 106, 107, 108, 109, 110, 111, 112, 113, 114, 115, 116, 117, 118, 119, 120, 121, 122, 123, 124, 125, 126, 127, 128, 129, 130, 131, 132, 133, 134, 135, 136, 137, 138, 139, 140, 141, 142, 143, 144, 145, 146, 147, 148, 149, 150, 151, 152, 153, 154, 155, 156, 157, 158, 159, 160, 161, 162, 163, 164, 165, 166, 167, 168, 169, 170, 171, 172, 173, 174, 175, 176, 177, 178, 179, 180, 181, 182, 183, 184, 185, 186, 187, 188, 189, 190, 191, 192, 193] (by decide +kernel) (by decide +kernel)) (goodIn_sub (fun _ h => List.mem_cons_of_mem _ (List.mem_append_left _ (List.mem_append_left _ (List.mem_append_right _ h)))) (by decide +kernel))) (goodIn_sub (fun _ h => List.mem_cons_of_mem _ (List.mem_append_left _ (List.mem_append_right _ h))) (by decide +kernel))) (goodIn_sub (fun _ h => List.mem_cons_of_mem _ (List.mem_append_right _ h)) (by decide +kernel))
set_option maxRecDepth 20000 in
theorem gL_read_X5_read : GoodIn wsL_read (wsV RL 33 RX5 yX5_read wsX5_read) := goodIn_app (goodIn_of _ (by decide +kernel)) ggL_read_X5_read
theorem dL_read_0 : decode cL_read 0 = .ok (.aload_n 0, 1) := by decide +kernel
theorem dL_read_1 : decode cL_read 1 = .ok (.iload_n 1, 1) := by decide +kernel
theorem dL_read_2 : decode cL_read 2 = .ok (.iload_n 2, 1) := by decide +kernel
theorem dL_read_3 : decode cL_read 3 = .ok (.invokevirtual 33, 3) := by decide +kernel
theorem dL_read_6 : decode cL_read 6 = .ok (.i2l, 1) := by decide +kernel
theorem dL_read_7 : decode cL_read 7 = .ok (.lreturn, 1) := by decide +kernel
theorem dL_read_8 : decode cL_read 8 = .ok (.astore_n 3, 1) := by decide +kernel
theorem dL_read_9 : decode cL_read 9 = .ok (.ldc2_w 16, 3) := by decide +kernel
theorem dL_read_12 : decode cL_read 12 = .ok (.lreturn, 1) := by decide +kernel
theorem dL_read_13 : decode cL_read 13 = .ok (.astore_n 3, 1) := by decide +kernel
theorem dL_read_14 : decode cL_read 14 = .ok (.ldc2_w 16, 3) := by decide +kernel
theorem dL_read_17 : decode cL_read 17 = .ok (.lreturn, 1) := by decide +kernel
theorem dL_read_18 : decode cL_read 18 = .ok (.astore_n 3, 1) := by decide +kernel
theorem dL_read_19 : decode cL_read 19 = .ok (.ldc2_w 16, 3) := by decide +kernel
theorem dL_read_22 : decode cL_read 22 = .ok (.lreturn, 1) := by decide +kernel
set_option maxRecDepth 20000 in
theorem ggL_toRead_X5_toRead : GoodIn wsL_toRead wsX5_toRead := goodIn_ca (goodIn_r _ [7, 8, 9, 10, 6, 11, 12, 13, 14, 15, 16, 17, 18, 19, 20, 21, 22, 23, 24, 25, 26, 27, 28, 29, 30, 31, 32, 33, 34, 35, 36, 37, 38, 39, 40, 41, 42, 43, 44, 45] (by decide +kernel) (by decide +kernel)) (goodIn_sub (fun _ h => List.mem_cons_of_mem _ (List.mem_append_right _ h)) (by decide +kernel))
set_option maxRecDepth 20000 in
theorem gL_toRead_X5_toRead : GoodIn wsL_toRead (wsV RL 37 RX5 yX5_toRead wsX5_toRead) := goodIn_app (goodIn_of _ (by decide +kernel)) ggL_toRead_X5_toRead
theorem dL_toRead_0 : decode cL_toRead 0 = .ok (.aload_n 0, 1) := by decide +kernel
theorem dL_toRead_1 : decode cL_toRead 1 = .ok (.iload_n 1, 1) := by decide +kernel
theorem dL_toRead_2 : decode cL_toRead 2 = .ok (.iload_n 2, 1) := by decide +kernel
theorem dL_toRead_3 : decode cL_toRead 3 = .ok (.iload_n 3, 1) := by decide +kernel
theorem dL_toRead_4 : decode cL_toRead 4 = .ok (.invokevirtual 37, 3) := by decide +kernel
theorem dL_toRead_7 : decode cL_toRead 7 = .ok (.i2l, 1) := by decide +kernel
theorem dL_toRead_8 : decode cL_toRead 8 = .ok (.lreturn, 1) := by decide +kernel
theorem dL_toRead_9 : decode cL_toRead 9 = .ok (.astore 4, 2) := by decide +kernel
theorem dL_toRead_11 : decode cL_toRead 11 = .ok (.ldc2_w 16, 3) := by decide +kernel
theorem dL_toRead_14 : decode cL_toRead 14 = .ok (.lreturn, 1) := by decide +kernel
set_option maxRecDepth 20000 in
theorem ggL_samples_X5_samples : GoodIn wsL_samples wsX5_samples := goodIn_ca (goodIn_r _ [7, 8, 9, 10, 11, 6, 12, 13, 14, 15, 16, 17, 18, 19, 20, 21, 22, 23, 24, 25, 26, 27, 28, 29, 30, 31, 32, 33, 34, 35, 36, 37, 38, 39, 40, 41] (by decide +kernel) (by decide +kernel)) (goodIn_sub (fun _ h => List.mem_cons_of_mem _ (List.mem_append_right _ h)) (by decide +kernel))
set_option maxRecDepth 20000 in
theorem gL_samples_X5_samples : GoodIn wsL_samples (wsV RL 41 RX5 yX5_samples wsX5_samples) := goodIn_app (goodIn_of _ (by decide +kernel)) ggL_samples_X5_samples
theorem dL_samples_0 : decode cL_samples 0 = .ok (.aload_n 0, 1) := by decide +kernel
theorem dL_samples_1 : decode cL_samples 1 = .ok (.invokevirtual 41, 3) := by decide +kernel
theorem dL_samples_4 : decode cL_samples 4 = .ok (.i2l, 1) := by decide +kernel
theorem dL_samples_5 : decode cL_samples 5 = .ok (.lreturn, 1) := by decide +kernel
theorem dL_samples_6 : decode cL_samples 6 = .ok (.astore_n 1, 1) := by decide +kernel
theorem dL_samples_7 : decode cL_samples 7 = .ok (.ldc2_w 16, 3) := by decide +kernel
theorem dL_samples_10 : decode cL_samples 10 = .ok (.lreturn, 1) := by decide +kernel
set_option maxRecDepth 20000 in
theorem ggL_sample_X5_sample : GoodIn wsL_sample wsX5_sample := goodIn_ca (goodIn_r _ [7, 8, 9, 10, 11, 12, 13, 14, 15, 16, 17, 18, 19, 20, 21, 22, 23, 24, 25, 26, 27, 28, 29, 30, 31, 32, 33, 34, 35, 36, 37, 38, 39, 40, 41] (by decide +kernel) (by decide +kernel)) (goodIn_sub (fun _ h => List.mem_cons_of_mem _ (List.mem_append_right _ h)) (by decide +kernel))
set_option maxRecDepth 20000 in
theorem gL_sample_X5_sample : GoodIn wsL_sample (wsV RL 45 RX5 yX5_sample wsX5_sample) := goodIn_app (goodIn_of _ (by decide +kernel)) ggL_sample_X5_sample
theorem dL_sample_0 : decode cL_sample 0 = .ok (.aload_n 0, 1) := by decide +kernel
theorem dL_sample_1 : decode cL_sample 1 = .ok (.iload_n 1, 1) := by decide +kernel
theorem dL_sample_2 : decode cL_sample 2 = .ok (.invokevirtual 45, 3) := by decide +kernel
theorem dL_sample_5 : decode cL_sample 5 = .ok (.i2l, 1) := by decide +kernel
theorem dL_sample_6 : decode cL_sample 6 = .ok (.lreturn, 1) := by decide +kernel
theorem dL_sample_7 : decode cL_sample 7 = .ok (.astore_n 2, 1) := by decide +kernel
theorem dL_sample_8 : decode cL_sample 8 = .ok (.ldc2_w 16, 3) := by decide +kernel
theorem dL_sample_11 : decode cL_sample 11 = .ok (.lreturn, 1) := by decide +kernel
set_option maxRecDepth 20000 in
theorem ggL_belief_X5_belief : GoodIn wsL_belief wsX5_belief := goodIn_ca (goodIn_ca (goodIn_r _ [8, 9, 10, 11, 7, 12, 13, 14, 15, 16, 17, 18, 19, 20, 21, 22, 23, 24, 25, 26, 27, 28, 29, 30, 31, 32, 33, 34, 35, 36, 37, 38, 39, 40, 41, 42, 43, 44, 45, 46, 47, 48, 49, 50, 51, 52, 53, 54] (by decide +kernel) (by decide +kernel)) (goodIn_sub (fun _ h => List.mem_cons_of_mem _ (List.mem_append_left _ (List.mem_append_right _ h))) (by decide +kernel))) (goodIn_sub (fun _ h => List.mem_cons_of_mem _ (List.mem_append_right _ h)) (by decide +kernel))
set_option maxRecDepth 20000 in
theorem gL_belief_X5_belief : GoodIn wsL_belief (wsV RL 51 RX5 yX5_belief wsX5_belief) := goodIn_app (goodIn_of _ (by decide +kernel)) ggL_belief_X5_belief
theorem dL_belief_0 : decode cL_belief 0 = .ok (.aload_n 0, 1) := by decide +kernel
theorem dL_belief_1 : decode cL_belief 1 = .ok (.iload_n 1, 1) := by decide +kernel
theorem dL_belief_2 : decode cL_belief 2 = .ok (.iload_n 2, 1) := by decide +kernel
theorem dL_belief_3 : decode cL_belief 3 = .ok (.invokevirtual 51, 3) := by decide +kernel
theorem dL_belief_6 : decode cL_belief 6 = .ok (.lreturn, 1) := by decide +kernel
theorem dL_belief_7 : decode cL_belief 7 = .ok (.astore_n 3, 1) := by decide +kernel
theorem dL_belief_8 : decode cL_belief 8 = .ok (.ldc2_w 16, 3) := by decide +kernel
theorem dL_belief_11 : decode cL_belief 11 = .ok (.lreturn, 1) := by decide +kernel
theorem dL_belief_12 : decode cL_belief 12 = .ok (.astore_n 3, 1) := by decide +kernel
theorem dL_belief_13 : decode cL_belief 13 = .ok (.ldc2_w 16, 3) := by decide +kernel
theorem dL_belief_16 : decode cL_belief 16 = .ok (.lreturn, 1) := by decide +kernel
set_option maxRecDepth 20000 in
theorem ggL_mode_X5_mode : GoodIn wsL_mode wsX5_mode := goodIn_ca (goodIn_r _ [7, 8, 9, 10, 6, 11, 12, 13, 14, 15, 16, 17, 18, 19, 20, 21, 22, 23, 24, 25, 26, 27, 28, 29, 30, 31, 32, 33, 34, 35, 36, 37, 38, 39, 40, 41, 42, 43, 44, 45, 46, 47, 48, 49, 50, 51, 52, 53, 54, 55, 56, 57, 58, 59, 60, 61, 62, 63, 64, 65, 66, 67, 68, 69, 70, 71, 72, 73, 74, 75, 76, 77, 78, 79, 80, 81, 82] (by decide +kernel) (by decide +kernel)) (goodIn_sub (fun _ h => List.mem_cons_of_mem _ (List.mem_append_right _ h)) (by decide +kernel))
set_option maxRecDepth 20000 in
theorem gL_mode_X5_mode : GoodIn wsL_mode (wsV RL 58 RX5 yX5_mode wsX5_mode) := goodIn_app (goodIn_of _ (by decide +kernel)) ggL_mode_X5_mode
theorem dL_mode_0 : decode cL_mode 0 = .ok (.aload_n 0, 1) := by decide +kernel
theorem dL_mode_1 : decode cL_mode 1 = .ok (.iload_n 1, 1) := by decide +kernel
theorem dL_mode_2 : decode cL_mode 2 = .ok (.invokevirtual 58, 3) := by decide +kernel
theorem dL_mode_5 : decode cL_mode 5 = .ok (.i2l, 1) := by decide +kernel
theorem dL_mode_6 : decode cL_mode 6 = .ok (.lreturn, 1) := by decide +kernel
theorem dL_mode_7 : decode cL_mode 7 = .ok (.astore_n 2, 1) := by decide +kernel
theorem dL_mode_8 : decode cL_mode 8 = .ok (.ldc2_w 16, 3) := by decide +kernel
theorem dL_mode_11 : decode cL_mode 11 = .ok (.lreturn, 1) := by decide +kernel
set_option maxRecDepth 20000 in
theorem ggL_mean_X5_mean : GoodIn wsL_mean wsX5_mean := goodIn_ca (goodIn_r _ [7, 8, 9, 10, 11, 6, 12, 13, 14, 15, 16, 17, 18, 19, 20, 21, 22, 23, 24, 25, 26, 27, 28, 29, 30, 31, 32, 33, 34, 35, 36, 37, 38, 39, 40, 41, 42, 43, 44, 45, 46, 47, 48, 49, 50, 51, 52, 53, 54, 55, 56, 57, 58, 59, 60, 61, 62, 63, 64, 65, 66, 67, 68, 69, 70, 71, 72, 73, 74, 75, 76, 77, 78, 79, 80, 81, 82, 83, 84, 85, 86] (by decide +kernel) (by decide +kernel)) (goodIn_sub (fun _ h => List.mem_cons_of_mem _ (List.mem_append_right _ h)) (by decide +kernel))
set_option maxRecDepth 20000 in
theorem gL_mean_X5_mean : GoodIn wsL_mean (wsV RL 62 RX5 yX5_mean wsX5_mean) := goodIn_app (goodIn_of _ (by decide +kernel)) ggL_mean_X5_mean
theorem dL_mean_0 : decode cL_mean 0 = .ok (.aload_n 0, 1) := by decide +kernel
theorem dL_mean_1 : decode cL_mean 1 = .ok (.iload_n 1, 1) := by decide +kernel
theorem dL_mean_2 : decode cL_mean 2 = .ok (.iload_n 2, 1) := by decide +kernel
theorem dL_mean_3 : decode cL_mean 3 = .ok (.invokevirtual 62, 3) := by decide +kernel
theorem dL_mean_6 : decode cL_mean 6 = .ok (.i2l, 1) := by decide +kernel
theorem dL_mean_7 : decode cL_mean 7 = .ok (.lreturn, 1) := by decide +kernel
theorem dL_mean_8 : decode cL_mean 8 = .ok (.astore_n 3, 1) := by decide +kernel
theorem dL_mean_9 : decode cL_mean 9 = .ok (.ldc2_w 16, 3) := by decide +kernel
theorem dL_mean_12 : decode cL_mean 12 = .ok (.lreturn, 1) := by decide +kernel
set_option maxRecDepth 20000 in
theorem ggL_share_X5_share : GoodIn wsL_share wsX5_share := goodIn_ca (goodIn_ca (goodIn_ca (goodIn_r _ [9, 10, 11, 12, 13, 14, 8, 15, 16, 17, 18, 19, 20, 21, 22, 23, 24, 25, 26, 27, 28, 29, 30, 31, 32, 33, 34, 35, 36, 37, 38, 39, 40, 41, 42, 43, 44, 45, 46, 47, 48, 49, 50, 51, 52, 53, 54, 55, 56, 57, 58, 59, 60, 61, 62, 63, 64, 65, 66, 67, 68, 69, 70, 71, 72, 73, 74, 75, 76, 77, 78, 79, 80, 81, 82, 83, 84, 85, 86, 87, 88, 89, 90, 91, 92, 93, 94, 95] (by decide +kernel) (by decide +kernel)) (goodIn_sub (fun _ h => List.mem_cons_of_mem _ (List.mem_append_left _ (List.mem_append_left _ (List.mem_append_right _ h)))) (by decide +kernel))) (goodIn_sub (fun _ h => List.mem_cons_of_mem _ (List.mem_append_left _ (List.mem_append_right _ h))) (by decide +kernel))) (goodIn_sub (fun _ h => List.mem_cons_of_mem _ (List.mem_append_right _ h)) (by decide +kernel))
set_option maxRecDepth 20000 in
theorem gL_share_X5_share : GoodIn wsL_share (wsV RL 66 RX5 yX5_share wsX5_share) := goodIn_app (goodIn_of _ (by decide +kernel)) ggL_share_X5_share
theorem dL_share_0 : decode cL_share 0 = .ok (.aload_n 0, 1) := by decide +kernel
theorem dL_share_1 : decode cL_share 1 = .ok (.iload_n 1, 1) := by decide +kernel
theorem dL_share_2 : decode cL_share 2 = .ok (.iload_n 2, 1) := by decide +kernel
theorem dL_share_3 : decode cL_share 3 = .ok (.iload_n 3, 1) := by decide +kernel
theorem dL_share_4 : decode cL_share 4 = .ok (.iload 4, 2) := by decide +kernel
theorem dL_share_6 : decode cL_share 6 = .ok (.iload 5, 2) := by decide +kernel
theorem dL_share_8 : decode cL_share 8 = .ok (.invokevirtual 66, 3) := by decide +kernel
theorem dL_share_11 : decode cL_share 11 = .ok (.i2l, 1) := by decide +kernel
theorem dL_share_12 : decode cL_share 12 = .ok (.lreturn, 1) := by decide +kernel
theorem dL_share_13 : decode cL_share 13 = .ok (.astore 6, 2) := by decide +kernel
theorem dL_share_15 : decode cL_share 15 = .ok (.ldc2_w 16, 3) := by decide +kernel
theorem dL_share_18 : decode cL_share 18 = .ok (.lreturn, 1) := by decide +kernel
theorem dL_share_19 : decode cL_share 19 = .ok (.astore 6, 2) := by decide +kernel
theorem dL_share_21 : decode cL_share 21 = .ok (.ldc2_w 16, 3) := by decide +kernel
theorem dL_share_24 : decode cL_share 24 = .ok (.lreturn, 1) := by decide +kernel
theorem dL_share_25 : decode cL_share 25 = .ok (.astore 6, 2) := by decide +kernel
theorem dL_share_27 : decode cL_share 27 = .ok (.ldc2_w 16, 3) := by decide +kernel
theorem dL_share_30 : decode cL_share 30 = .ok (.lreturn, 1) := by decide +kernel
set_option maxRecDepth 20000 in
theorem ggL_best_X5_best : GoodIn wsL_best wsX5_best := goodIn_ca (goodIn_ca (goodIn_r _ [8, 9, 10, 11, 12, 13, 14, 7, 15, 16, 17, 18, 19, 20, 21, 22, 23, 24, 25, 26, 27, 28, 29, 30, 31, 32, 33, 34, 35, 36, 37, 38, 39, 40, 41, 42, 43, 44, 45, 46, 47, 48, 49, 50, 51, 52, 53] (by decide +kernel) (by decide +kernel)) (goodIn_sub (fun _ h => List.mem_cons_of_mem _ (List.mem_append_left _ (List.mem_append_right _ h))) (by decide +kernel))) (goodIn_sub (fun _ h => List.mem_cons_of_mem _ (List.mem_append_right _ h)) (by decide +kernel))
set_option maxRecDepth 20000 in
theorem gL_best_X5_best : GoodIn wsL_best (wsV RL 70 RX5 yX5_best wsX5_best) := goodIn_app (goodIn_of _ (by decide +kernel)) ggL_best_X5_best
theorem dL_best_0 : decode cL_best 0 = .ok (.aload_n 0, 1) := by decide +kernel
theorem dL_best_1 : decode cL_best 1 = .ok (.iload_n 1, 1) := by decide +kernel
theorem dL_best_2 : decode cL_best 2 = .ok (.invokevirtual 70, 3) := by decide +kernel
theorem dL_best_5 : decode cL_best 5 = .ok (.i2l, 1) := by decide +kernel
theorem dL_best_6 : decode cL_best 6 = .ok (.lreturn, 1) := by decide +kernel
theorem dL_best_7 : decode cL_best 7 = .ok (.astore_n 2, 1) := by decide +kernel
theorem dL_best_8 : decode cL_best 8 = .ok (.ldc2_w 16, 3) := by decide +kernel
theorem dL_best_11 : decode cL_best 11 = .ok (.lreturn, 1) := by decide +kernel
theorem dL_best_12 : decode cL_best 12 = .ok (.astore_n 2, 1) := by decide +kernel
theorem dL_best_13 : decode cL_best 13 = .ok (.ldc2_w 16, 3) := by decide +kernel
theorem dL_best_16 : decode cL_best 16 = .ok (.lreturn, 1) := by decide +kernel
set_option maxRecDepth 20000 in
theorem ggL_doubt_X5_doubt : GoodIn wsL_doubt wsX5_doubt := goodIn_ca (goodIn_r _ [7, 8, 9, 10, 11, 6, 12, 13, 14, 15, 16, 17, 18, 19, 20, 21, 22, 23, 24, 25, 26, 27, 28, 29, 30, 31, 32, 33, 34, 35, 36, 37, 38, 39, 40, 41] (by decide +kernel) (by decide +kernel)) (goodIn_sub (fun _ h => List.mem_cons_of_mem _ (List.mem_append_right _ h)) (by decide +kernel))
set_option maxRecDepth 20000 in
theorem gL_doubt_X5_doubt : GoodIn wsL_doubt (wsV RL 73 RX5 yX5_doubt wsX5_doubt) := goodIn_app (goodIn_of _ (by decide +kernel)) ggL_doubt_X5_doubt
theorem dL_doubt_0 : decode cL_doubt 0 = .ok (.aload_n 0, 1) := by decide +kernel
theorem dL_doubt_1 : decode cL_doubt 1 = .ok (.invokevirtual 73, 3) := by decide +kernel
theorem dL_doubt_4 : decode cL_doubt 4 = .ok (.i2l, 1) := by decide +kernel
theorem dL_doubt_5 : decode cL_doubt 5 = .ok (.lreturn, 1) := by decide +kernel
theorem dL_doubt_6 : decode cL_doubt 6 = .ok (.astore_n 1, 1) := by decide +kernel
theorem dL_doubt_7 : decode cL_doubt 7 = .ok (.ldc2_w 16, 3) := by decide +kernel
theorem dL_doubt_10 : decode cL_doubt 10 = .ok (.lreturn, 1) := by decide +kernel
set_option maxRecDepth 20000 in
theorem ggL_act_L_low : GoodIn wsL_act wsL_low := goodIn_r _ [5, 6] (by decide +kernel) (by decide +kernel)
set_option maxRecDepth 20000 in
theorem gL_act_L_low : GoodIn wsL_act (va_wsS RL 76 yL_low wsL_low) := goodIn_app (goodIn_of _ (by decide +kernel)) ggL_act_L_low
set_option maxRecDepth 20000 in
theorem ggL_act_L_wall : GoodIn wsL_act wsL_wall := goodIn_ca (goodIn_ca (goodIn_r _ [9, 10, 11, 12, 13, 14, 15, 16, 17, 18, 19, 20, 21, 22, 23, 24, 25, 26, 27, 28, 29, 30, 31, 32, 33, 34, 35, 36, 37, 38, 39, 40, 41, 42, 43, 44, 45, 46, 47, 48, 49, 50, 51, 52, 53, 54, 55, 56, 57, 58, 59, 60, 61, 62, 63, 64, 65, 66, 388, 389, 390, 391, 392, 393, 394, 395, 396, 397, 398, 399] (by decide +kernel) (by decide +kernel)) (goodIn_sub (fun _ h => List.mem_cons_of_mem _ (List.mem_append_left _ (List.mem_append_left _ (List.mem_append_right _ h)))) (by decide +kernel))) (goodIn_sub (fun _ h => List.mem_cons_of_mem _ (List.mem_append_left _ (List.mem_append_right _ h))) (by decide +kernel))
set_option maxRecDepth 20000 in
theorem gL_act_L_wall : GoodIn wsL_act (va_wsS RL 81 yL_wall wsL_wall) := goodIn_app (goodIn_of _ (by decide +kernel)) ggL_act_L_wall
set_option maxRecDepth 20000 in
theorem ggL_act_L_draw : GoodIn wsL_act wsL_draw := goodIn_ca (goodIn_r _ [69, 70, 12, 71, 72, 73, 16, 74, 75, 76, 77, 78, 79, 80, 81, 82, 83, 84, 388, 389, 390, 391, 392, 393, 394, 395, 396, 400] (by decide +kernel) (by decide +kernel)) (goodIn_sub (fun _ h => List.mem_cons_of_mem _ (List.mem_append_right _ h)) (by decide +kernel))
set_option maxRecDepth 20000 in
theorem gL_act_L_draw : GoodIn wsL_act (va_wsS RL 85 yL_draw wsL_draw) := goodIn_app (goodIn_of _ (by decide +kernel)) ggL_act_L_draw
set_option maxRecDepth 20000 in
theorem ggL_act_L_spread : GoodIn wsL_act wsL_spread := goodIn_ca (goodIn_r _ [87, 70, 12, 88, 89, 90, 16, 91, 75, 76, 92, 93, 94, 21, 95, 96, 97, 98, 99, 100, 101, 102, 103, 104, 105, 106, 107, 108, 109, 110, 36, 111, 45, 38, 112, 113, 114, 82, 115, 84, 116, 117, 118, 119, 120, 121, 122, 123, 124, 34, 35, 37, 39, 40, 125, 126, 127, 128, 129, 130, 388, 389, 390, 391, 392, 393, 394, 395, 396, 401, 402, 403, 404, 405, 406, 407, 408, 409, 410, 411, 397, 398, 399, 400, 412, 413, 414, 415] (by decide +kernel) (by decide +kernel)) (goodIn_sub (fun _ h => List.mem_cons_of_mem _ (List.mem_append_right _ h)) (by decide +kernel))
set_option maxRecDepth 20000 in
theorem gL_act_L_spread : GoodIn wsL_act (va_wsS RL 88 yL_spread wsL_spread) := goodIn_app (goodIn_of _ (by decide +kernel)) ggL_act_L_spread
set_option maxRecDepth 20000 in
theorem ggL_act_L_drive : GoodIn wsL_act wsL_drive := goodIn_ca (goodIn_ca (goodIn_r _ [133, 10, 11, 12, 134, 135, 136, 16, 137, 92, 93, 138, 139, 140, 25, 26, 141, 64, 65, 142, 143, 144, 145, 18, 19, 21, 94, 146, 147, 148, 98, 149, 100, 101, 102, 150, 151, 152, 153, 103, 154, 113, 114, 82, 115, 84, 116, 155, 156, 157, 36, 158, 159, 160, 161, 162, 163, 164, 165, 166, 54, 39, 40, 59, 60, 61, 62, 63, 28, 29, 31, 32, 167, 168, 169, 120, 170, 171, 122, 123, 172, 173, 174, 175, 176, 128, 177, 130, 178, 179, 180, 181, 182, 183, 184, 185, 124, 34, 35, 37, 38, 186, 187, 188, 189, 190, 191, 192, 193, 194, 195, 196, 197, 198, 199, 200, 201, 202, 203, 204, 205, 206, 207, 208, 209, 210, 211, 212, 213, 214, 215, 216, 217, 388, 389, 390, 391, 392, 393, 394, 395, 396, 401, 402, 403, 404, 405, 406, 407, 408, 409, 410, 411, 400, 397, 398, 399, 412, 413, 414, 415] (by decide +kernel) (by decide +kernel)) (goodIn_sub (fun _ h => List.mem_cons_of_mem _ (List.mem_append_left _ (List.mem_append_right _ h))) (by decide +kernel))) (goodIn_sub (fun _ h => List.mem_cons_of_mem _ (List.mem_append_left _ (List.mem_append_left _ (List.mem_append_right _ h)))) (by decide +kernel))
set_option maxRecDepth 20000 in
theorem gL_act_L_drive : GoodIn wsL_act (va_wsS RL 90 yL_drive wsL_drive) := goodIn_app (goodIn_of _ (by decide +kernel)) ggL_act_L_drive
set_option maxRecDepth 20000 in
theorem ggL_act_L_read : GoodIn wsL_act wsL_read := goodIn_ca (goodIn_ca (goodIn_ca (goodIn_r _ [220, 10, 70, 11, 12, 221, 222, 223, 16, 224, 75, 76, 92, 93, 138, 139, 140, 25, 26, 141, 64, 65, 142, 143, 144, 145, 18, 19, 21, 94, 225, 226, 227, 98, 228, 100, 229, 102, 101, 230, 231, 232, 36, 233, 234, 235, 161, 236, 163, 164, 165, 166, 54, 39, 40, 237, 238, 239, 240, 241, 242, 104, 105, 106, 243, 244, 245, 107, 246, 247, 248, 249, 250, 160, 162, 251, 252, 253, 254, 255, 256, 183, 184, 128, 185, 130, 257, 191, 192, 193, 258, 187, 188, 189, 259, 260, 261, 262, 263, 264, 179, 180, 181, 103, 154, 113, 114, 82, 115, 84, 116, 108, 109, 110, 111, 45, 38, 112, 265, 266, 267, 268, 269, 270, 271, 120, 272, 122, 123, 186, 273, 125, 126, 127, 129, 200, 201, 202, 203, 204, 205, 206, 274, 118, 119, 121, 124, 34, 35, 37, 195, 196, 197, 198, 199, 207, 208, 209, 210, 211, 212, 213, 214, 215, 216, 217, 388, 389, 390, 391, 392, 393, 394, 395, 396, 401, 402, 403, 404, 405, 406, 407, 408, 409, 410, 411, 397, 398, 399, 415, 400, 412, 413, 414] (by decide +kernel) (by decide +kernel)) (goodIn_sub (fun _ h => List.mem_cons_of_mem _ (List.mem_append_right _ h)) (by decide +kernel))) (goodIn_sub (fun _ h => List.mem_cons_of_mem _ (List.mem_append_left _ (List.mem_append_right _ h))) (by decide +kernel))) (goodIn_sub (fun _ h => List.mem_cons_of_mem _ (List.mem_append_left _ (List.mem_append_left _ (List.mem_append_right _ h)))) (by decide +kernel))
set_option maxRecDepth 20000 in
theorem gL_act_L_read : GoodIn wsL_act (va_wsS RL 92 yL_read wsL_read) := goodIn_app (goodIn_of _ (by decide +kernel)) ggL_act_L_read
set_option maxRecDepth 20000 in
theorem ggL_act_L_toRead : GoodIn wsL_act wsL_toRead := goodIn_ca (goodIn_r _ [277, 10, 12, 278, 279, 280, 16, 281, 20, 22, 23, 24, 25, 26, 27, 28, 29, 138, 139, 140, 141, 64, 65, 30, 31, 32, 282, 164, 165, 36, 166, 54, 39, 40, 388, 389, 390, 391, 392, 393, 394, 395, 396, 397, 398, 399] (by decide +kernel) (by decide +kernel)) (goodIn_sub (fun _ h => List.mem_cons_of_mem _ (List.mem_append_left _ (List.mem_append_right _ h))) (by decide +kernel))
set_option maxRecDepth 20000 in
theorem gL_act_L_toRead : GoodIn wsL_act (va_wsS RL 95 yL_toRead wsL_toRead) := goodIn_app (goodIn_of _ (by decide +kernel)) ggL_act_L_toRead
set_option maxRecDepth 20000 in
theorem ggL_act_L_sample : GoodIn wsL_act wsL_sample := goodIn_ca (goodIn_r _ [285, 10, 12, 286, 287, 288, 16, 289, 25, 26, 92, 290, 291, 292, 98, 293, 100, 294, 295, 296, 297, 101, 388, 389, 390, 391, 392, 393, 394, 395, 396, 401, 402, 403, 404, 405, 406, 407, 408, 409, 410, 411] (by decide +kernel) (by decide +kernel)) (goodIn_sub (fun _ h => List.mem_cons_of_mem _ (List.mem_append_left _ (List.mem_append_right _ h))) (by decide +kernel))
set_option maxRecDepth 20000 in
theorem gL_act_L_sample : GoodIn wsL_act (va_wsS RL 98 yL_sample wsL_sample) := goodIn_app (goodIn_of _ (by decide +kernel)) ggL_act_L_sample
set_option maxRecDepth 20000 in
theorem ggL_act_L_mode : GoodIn wsL_act wsL_mode := goodIn_ca (goodIn_r _ [300, 11, 12, 301, 302, 303, 16, 304, 305, 306, 307, 308, 18, 19, 21, 309, 310, 311, 312, 92, 93, 313, 252, 253, 98, 254, 255, 100, 101, 256, 183, 184, 128, 185, 130, 257, 191, 192, 193, 39, 40, 314, 315, 316, 120, 317, 122, 318, 319, 320, 321, 322, 201, 202, 203, 204, 205, 161, 206, 388, 389, 390, 391, 392, 393, 394, 395, 396, 401, 402, 403, 404, 405, 406, 407, 408, 409, 410, 411, 415, 412, 413, 414] (by decide +kernel) (by decide +kernel)) (goodIn_sub (fun _ h => List.mem_cons_of_mem _ (List.mem_append_left _ (List.mem_append_left _ (List.mem_append_right _ h)))) (by decide +kernel))
set_option maxRecDepth 20000 in
theorem gL_act_L_mode : GoodIn wsL_act (va_wsS RL 100 yL_mode wsL_mode) := goodIn_app (goodIn_of _ (by decide +kernel)) ggL_act_L_mode
set_option maxRecDepth 20000 in
theorem ggL_act_L_mean : GoodIn wsL_act wsL_mean := goodIn_ca (goodIn_r _ [325, 11, 12, 326, 327, 328, 16, 329, 330, 305, 306, 307, 308, 18, 19, 21, 309, 310, 311, 312, 92, 93, 313, 252, 253, 98, 254, 255, 100, 101, 256, 183, 184, 128, 185, 130, 257, 191, 192, 193, 39, 40, 314, 315, 316, 120, 317, 122, 331, 332, 333, 334, 335, 336, 337, 338, 339, 340, 341, 342, 343, 237, 238, 388, 389, 390, 391, 392, 393, 394, 395, 396, 401, 402, 403, 404, 405, 406, 407, 408, 409, 410, 411, 415, 412, 413, 414] (by decide +kernel) (by decide +kernel)) (goodIn_sub (fun _ h => List.mem_cons_of_mem _ (List.mem_append_left _ (List.mem_append_left _ (List.mem_append_right _ h)))) (by decide +kernel))
set_option maxRecDepth 20000 in
theorem gL_act_L_mean : GoodIn wsL_act (va_wsS RL 103 yL_mean wsL_mean) := goodIn_app (goodIn_of _ (by decide +kernel)) ggL_act_L_mean
set_option maxRecDepth 20000 in
theorem ggL_act_L_share : GoodIn wsL_act wsL_share := goodIn_ca (goodIn_ca (goodIn_ca (goodIn_r _ [346, 10, 70, 11, 12, 347, 348, 349, 16, 350, 75, 76, 351, 22, 23, 24, 25, 26, 27, 28, 29, 305, 306, 307, 308, 18, 19, 21, 309, 310, 311, 312, 92, 93, 313, 252, 253, 98, 254, 255, 100, 101, 256, 183, 184, 128, 185, 130, 257, 191, 192, 193, 39, 40, 314, 315, 316, 120, 317, 122, 352, 340, 341, 342, 335, 336, 337, 338, 339, 343, 237, 238, 388, 389, 390, 391, 392, 393, 394, 395, 396, 401, 402, 403, 404, 405, 406, 407, 408, 409, 410, 411, 415, 412, 413, 414] (by decide +kernel) (by decide +kernel)) (goodIn_sub (fun _ h => List.mem_cons_of_mem _ (List.mem_append_right _ h)) (by decide +kernel))) (goodIn_sub (fun _ h => List.mem_cons_of_mem _ (List.mem_append_left _ (List.mem_append_right _ h))) (by decide +kernel))) (goodIn_sub (fun _ h => List.mem_cons_of_mem _ (List.mem_append_left _ (List.mem_append_left _ (List.mem_append_right _ h)))) (by decide +kernel))
set_option maxRecDepth 20000 in
theorem gL_act_L_share : GoodIn wsL_act (va_wsS RL 106 yL_share wsL_share) := goodIn_app (goodIn_of _ (by decide +kernel)) ggL_act_L_share
set_option maxRecDepth 20000 in
theorem ggL_act_L_best : GoodIn wsL_act wsL_best := goodIn_ca (goodIn_ca (goodIn_r _ [355, 10, 11, 12, 356, 357, 358, 16, 359, 25, 26, 93, 305, 306, 307, 308, 18, 19, 21, 314, 315, 316, 120, 317, 122, 360, 361, 362, 128, 363, 130, 364, 365, 366, 367, 368, 187, 188, 189, 39, 40, 388, 389, 390, 391, 392, 393, 394, 395, 396, 412, 413, 414, 415] (by decide +kernel) (by decide +kernel)) (goodIn_sub (fun _ h => List.mem_cons_of_mem _ (List.mem_append_left _ (List.mem_append_right _ h))) (by decide +kernel))) (goodIn_sub (fun _ h => List.mem_cons_of_mem _ (List.mem_append_left _ (List.mem_append_left _ (List.mem_append_right _ h)))) (by decide +kernel))
set_option maxRecDepth 20000 in
theorem gL_act_L_best : GoodIn wsL_act (va_wsS RL 109 yL_best wsL_best) := goodIn_app (goodIn_of _ (by decide +kernel)) ggL_act_L_best
set_option maxRecDepth 20000 in
theorem ggL_act_L_doubt : GoodIn wsL_act wsL_doubt := goodIn_ca (goodIn_r _ [371, 11, 12, 372, 373, 374, 16, 375, 92, 305, 306, 307, 308, 18, 19, 21, 376, 377, 378, 98, 379, 107, 388, 389, 390, 391, 392, 393, 394, 395, 396, 401, 402, 403, 404, 405, 406, 407, 408, 409, 410, 411] (by decide +kernel) (by decide +kernel)) (goodIn_sub (fun _ h => List.mem_cons_of_mem _ (List.mem_append_left _ (List.mem_append_left _ (List.mem_append_right _ h)))) (by decide +kernel))
set_option maxRecDepth 20000 in
theorem gL_act_L_doubt : GoodIn wsL_act (va_wsS RL 111 yL_doubt wsL_doubt) := goodIn_app (goodIn_of _ (by decide +kernel)) ggL_act_L_doubt
set_option maxRecDepth 20000 in
theorem ggL_act_L_belief : GoodIn wsL_act wsL_belief := goodIn_ca (goodIn_ca (goodIn_r _ [382, 10, 11, 12, 383, 384, 385, 16, 386, 93, 22, 23, 24, 25, 26, 27, 28, 29, 305, 306, 307, 308, 18, 19, 21, 314, 315, 316, 120, 317, 122, 30, 31, 32, 387, 187, 188, 128, 189, 130, 39, 40, 388, 389, 390, 391, 392, 393, 394, 395, 396, 412, 413, 414, 415] (by decide +kernel) (by decide +kernel)) (goodIn_sub (fun _ h => List.mem_cons_of_mem _ (List.mem_append_left _ (List.mem_append_right _ h))) (by decide +kernel))) (goodIn_sub (fun _ h => List.mem_cons_of_mem _ (List.mem_append_left _ (List.mem_append_left _ (List.mem_append_right _ h)))) (by decide +kernel))
set_option maxRecDepth 20000 in
theorem gL_act_L_belief : GoodIn wsL_act (va_wsS RL 114 yL_belief wsL_belief) := goodIn_app (goodIn_of _ (by decide +kernel)) ggL_act_L_belief
theorem dL_act_0 : decode cL_act 0 = .ok (.iload_n 1, 1) := by decide +kernel
theorem dL_act_1 : decode cL_act 1 = .ok (.bipush 26, 2) := by decide +kernel
theorem dL_act_3 : decode cL_act 3 = .ok (.ishr, 1) := by decide +kernel
theorem dL_act_4 : decode cL_act 4 = .ok (.bipush 14, 2) := by decide +kernel
theorem dL_act_6 : decode cL_act 6 = .ok (.invokestatic 76, 3) := by decide +kernel
theorem dL_act_9 : decode cL_act 9 = .ok (.ifCond .ne 7, 3) := by decide +kernel
theorem dL_act_12 : decode cL_act 12 = .ok (.iconst 1, 1) := by decide +kernel
theorem dL_act_13 : decode cL_act 13 = .ok (.goto 4, 3) := by decide +kernel
theorem dL_act_16 : decode cL_act 16 = .ok (.iconst 0, 1) := by decide +kernel
theorem dL_act_17 : decode cL_act 17 = .ok (.istore_n 3, 1) := by decide +kernel
theorem dL_act_18 : decode cL_act 18 = .ok (.iload_n 3, 1) := by decide +kernel
theorem dL_act_19 : decode cL_act 19 = .ok (.ifCond .eq 16, 3) := by decide +kernel
theorem dL_act_22 : decode cL_act 22 = .ok (.iload_n 1, 1) := by decide +kernel
theorem dL_act_23 : decode cL_act 23 = .ok (.iconst 5, 1) := by decide +kernel
theorem dL_act_24 : decode cL_act 24 = .ok (.ishr, 1) := by decide +kernel
theorem dL_act_25 : decode cL_act 25 = .ok (.bipush 11, 2) := by decide +kernel
theorem dL_act_27 : decode cL_act 27 = .ok (.invokestatic 76, 3) := by decide +kernel
theorem dL_act_30 : decode cL_act 30 = .ok (.iconst 1, 1) := by decide +kernel
theorem dL_act_31 : decode cL_act 31 = .ok (.isub, 1) := by decide +kernel
theorem dL_act_32 : decode cL_act 32 = .ok (.goto 11, 3) := by decide +kernel
theorem dL_act_35 : decode cL_act 35 = .ok (.iload_n 1, 1) := by decide +kernel
theorem dL_act_36 : decode cL_act 36 = .ok (.iconst 5, 1) := by decide +kernel
theorem dL_act_37 : decode cL_act 37 = .ok (.ishr, 1) := by decide +kernel
theorem dL_act_38 : decode cL_act 38 = .ok (.bipush 8, 2) := by decide +kernel
theorem dL_act_40 : decode cL_act 40 = .ok (.invokestatic 76, 3) := by decide +kernel
theorem dL_act_43 : decode cL_act 43 = .ok (.istore 4, 2) := by decide +kernel
theorem dL_act_45 : decode cL_act 45 = .ok (.iload_n 3, 1) := by decide +kernel
theorem dL_act_46 : decode cL_act 46 = .ok (.ifCond .eq 17, 3) := by decide +kernel
theorem dL_act_49 : decode cL_act 49 = .ok (.iload_n 1, 1) := by decide +kernel
theorem dL_act_50 : decode cL_act 50 = .ok (.bipush 8, 2) := by decide +kernel
theorem dL_act_52 : decode cL_act 52 = .ok (.ishr, 1) := by decide +kernel
theorem dL_act_53 : decode cL_act 53 = .ok (.bipush 11, 2) := by decide +kernel
theorem dL_act_55 : decode cL_act 55 = .ok (.invokestatic 76, 3) := by decide +kernel
theorem dL_act_58 : decode cL_act 58 = .ok (.iconst 1, 1) := by decide +kernel
theorem dL_act_59 : decode cL_act 59 = .ok (.isub, 1) := by decide +kernel
theorem dL_act_60 : decode cL_act 60 = .ok (.goto 12, 3) := by decide +kernel
theorem dL_act_63 : decode cL_act 63 = .ok (.iload_n 1, 1) := by decide +kernel
theorem dL_act_64 : decode cL_act 64 = .ok (.bipush 8, 2) := by decide +kernel
theorem dL_act_66 : decode cL_act 66 = .ok (.ishr, 1) := by decide +kernel
theorem dL_act_67 : decode cL_act 67 = .ok (.bipush 8, 2) := by decide +kernel
theorem dL_act_69 : decode cL_act 69 = .ok (.invokestatic 76, 3) := by decide +kernel
theorem dL_act_72 : decode cL_act 72 = .ok (.istore 5, 2) := by decide +kernel
theorem dL_act_74 : decode cL_act 74 = .ok (.iload_n 3, 1) := by decide +kernel
theorem dL_act_75 : decode cL_act 75 = .ok (.ifCond .eq 17, 3) := by decide +kernel
theorem dL_act_78 : decode cL_act 78 = .ok (.iload_n 1, 1) := by decide +kernel
theorem dL_act_79 : decode cL_act 79 = .ok (.bipush 11, 2) := by decide +kernel
theorem dL_act_81 : decode cL_act 81 = .ok (.ishr, 1) := by decide +kernel
theorem dL_act_82 : decode cL_act 82 = .ok (.bipush 7, 2) := by decide +kernel
theorem dL_act_84 : decode cL_act 84 = .ok (.invokestatic 76, 3) := by decide +kernel
theorem dL_act_87 : decode cL_act 87 = .ok (.iconst 1, 1) := by decide +kernel
theorem dL_act_88 : decode cL_act 88 = .ok (.isub, 1) := by decide +kernel
theorem dL_act_89 : decode cL_act 89 = .ok (.goto 11, 3) := by decide +kernel
theorem dL_act_92 : decode cL_act 92 = .ok (.iload_n 1, 1) := by decide +kernel
theorem dL_act_93 : decode cL_act 93 = .ok (.bipush 11, 2) := by decide +kernel
theorem dL_act_95 : decode cL_act 95 = .ok (.ishr, 1) := by decide +kernel
theorem dL_act_96 : decode cL_act 96 = .ok (.iconst 4, 1) := by decide +kernel
theorem dL_act_97 : decode cL_act 97 = .ok (.invokestatic 76, 3) := by decide +kernel
theorem dL_act_100 : decode cL_act 100 = .ok (.istore 6, 2) := by decide +kernel
theorem dL_act_102 : decode cL_act 102 = .ok (.iload_n 1, 1) := by decide +kernel
theorem dL_act_103 : decode cL_act 103 = .ok (.bipush 20, 2) := by decide +kernel
theorem dL_act_105 : decode cL_act 105 = .ok (.ishr, 1) := by decide +kernel
theorem dL_act_106 : decode cL_act 106 = .ok (.iconst 1, 1) := by decide +kernel
theorem dL_act_107 : decode cL_act 107 = .ok (.iand, 1) := by decide +kernel
theorem dL_act_108 : decode cL_act 108 = .ok (.iconst 1, 1) := by decide +kernel
theorem dL_act_109 : decode cL_act 109 = .ok (.if_icmp .ne 7, 3) := by decide +kernel
theorem dL_act_112 : decode cL_act 112 = .ok (.iconst 1, 1) := by decide +kernel
theorem dL_act_113 : decode cL_act 113 = .ok (.goto 4, 3) := by decide +kernel
theorem dL_act_116 : decode cL_act 116 = .ok (.iconst 0, 1) := by decide +kernel
theorem dL_act_117 : decode cL_act 117 = .ok (.istore 7, 2) := by decide +kernel
theorem dL_act_119 : decode cL_act 119 = .ok (.iload_n 2, 1) := by decide +kernel
theorem dL_act_120 : decode cL_act 120 = .ok (.bipush 12, 2) := by decide +kernel
theorem dL_act_122 : decode cL_act 122 = .ok (.if_icmp .ge 27, 3) := by decide +kernel
theorem dL_act_125 : decode cL_act 125 = .ok (.aload_n 0, 1) := by decide +kernel
theorem dL_act_126 : decode cL_act 126 = .ok (.iload 4, 2) := by decide +kernel
theorem dL_act_128 : decode cL_act 128 = .ok (.iload 5, 2) := by decide +kernel
theorem dL_act_130 : decode cL_act 130 = .ok (.iload_n 1, 1) := by decide +kernel
theorem dL_act_131 : decode cL_act 131 = .ok (.bipush 14, 2) := by decide +kernel
theorem dL_act_133 : decode cL_act 133 = .ok (.ishr, 1) := by decide +kernel
theorem dL_act_134 : decode cL_act 134 = .ok (.bipush 7, 2) := by decide +kernel
theorem dL_act_136 : decode cL_act 136 = .ok (.iand, 1) := by decide +kernel
theorem dL_act_137 : decode cL_act 137 = .ok (.ifCond .le 7, 3) := by decide +kernel
theorem dL_act_140 : decode cL_act 140 = .ok (.iconst 1, 1) := by decide +kernel
theorem dL_act_141 : decode cL_act 141 = .ok (.goto 4, 3) := by decide +kernel
theorem dL_act_144 : decode cL_act 144 = .ok (.iconst 0, 1) := by decide +kernel
theorem dL_act_145 : decode cL_act 145 = .ok (.invokestatic 81, 3) := by decide +kernel
theorem dL_act_148 : decode cL_act 148 = .ok (.lreturn, 1) := by decide +kernel
theorem dL_act_149 : decode cL_act 149 = .ok (.iload_n 1, 1) := by decide +kernel
theorem dL_act_150 : decode cL_act 150 = .ok (.bipush 24, 2) := by decide +kernel
theorem dL_act_152 : decode cL_act 152 = .ok (.invokestatic 76, 3) := by decide +kernel
theorem dL_act_155 : decode cL_act 155 = .ok (.tableswitch 341 0 22 #[105, 116, 140, 140, 168, 168, 168, 168, 168, 168, 175, 175, 175, 175, 175, 175, 202, 213, 238, 245, 267, 311, 336], 105) := by decide +kernel
theorem dL_act_260 : decode cL_act 260 = .ok (.aload_n 0, 1) := by decide +kernel
theorem dL_act_261 : decode cL_act 261 = .ok (.iload 4, 2) := by decide +kernel
theorem dL_act_263 : decode cL_act 263 = .ok (.iload 5, 2) := by decide +kernel
theorem dL_act_265 : decode cL_act 265 = .ok (.iload 7, 2) := by decide +kernel
theorem dL_act_267 : decode cL_act 267 = .ok (.invokestatic 81, 3) := by decide +kernel
