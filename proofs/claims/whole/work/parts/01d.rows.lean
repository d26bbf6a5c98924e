theorem dX4_drawAnew_1 : decode cX4_drawAnew 1 = .ok (.getfield 19, 3) := by decide +kernel
theorem dX4_drawAnew_4 : decode cX4_drawAnew 4 = .ok (.iconst 0, 1) := by decide +kernel
theorem dX4_drawAnew_5 : decode cX4_drawAnew 5 = .ok (.aload_n 0, 1) := by decide +kernel
theorem dX4_drawAnew_6 : decode cX4_drawAnew 6 = .ok (.getfield 23, 3) := by decide +kernel
theorem dX4_drawAnew_9 : decode cX4_drawAnew 9 = .ok (.iconst 0, 1) := by decide +kernel
theorem dX4_drawAnew_10 : decode cX4_drawAnew 10 = .ok (.bipush 64, 2) := by decide +kernel
theorem dX4_drawAnew_12 : decode cX4_drawAnew 12 = .ok (.invokestatic 115, 3) := by decide +kernel
theorem dX4_drawAnew_15 : decode cX4_drawAnew 15 = .ok (.iload_n 1, 1) := by decide +kernel
theorem dX4_drawAnew_16 : decode cX4_drawAnew 16 = .ok (.ifCond .ne 7, 3) := by decide +kernel
theorem dX4_drawAnew_19 : decode cX4_drawAnew 19 = .ok (.iconst 0, 1) := by decide +kernel
theorem dX4_drawAnew_20 : decode cX4_drawAnew 20 = .ok (.goto 11, 3) := by decide +kernel
theorem dX4_drawAnew_23 : decode cX4_drawAnew 23 = .ok (.aload_n 0, 1) := by decide +kernel
theorem dX4_drawAnew_24 : decode cX4_drawAnew 24 = .ok (.getfield 15, 3) := by decide +kernel
theorem dX4_drawAnew_27 : decode cX4_drawAnew 27 = .ok (.iload_n 1, 1) := by decide +kernel
theorem dX4_drawAnew_28 : decode cX4_drawAnew 28 = .ok (.invokevirtual 74, 3) := by decide +kernel
theorem dX4_drawAnew_31 : decode cX4_drawAnew 31 = .ok (.istore_n 3, 1) := by decide +kernel
theorem dX4_drawAnew_32 : decode cX4_drawAnew 32 = .ok (.iconst 0, 1) := by decide +kernel
theorem dX4_drawAnew_33 : decode cX4_drawAnew 33 = .ok (.istore 4, 2) := by decide +kernel
theorem dX4_drawAnew_35 : decode cX4_drawAnew 35 = .ok (.iload 4, 2) := by decide +kernel
theorem dX4_drawAnew_37 : decode cX4_drawAnew 37 = .ok (.iload_n 2, 1) := by decide +kernel
theorem dX4_drawAnew_38 : decode cX4_drawAnew 38 = .ok (.if_icmp .ge 93, 3) := by decide +kernel
theorem dX4_drawAnew_41 : decode cX4_drawAnew 41 = .ok (.iload 4, 2) := by decide +kernel
theorem dX4_drawAnew_43 : decode cX4_drawAnew 43 = .ok (.bipush 64, 2) := by decide +kernel
theorem dX4_drawAnew_45 : decode cX4_drawAnew 45 = .ok (.if_icmp .ge 86, 3) := by decide +kernel
theorem dX4_drawAnew_48 : decode cX4_drawAnew 48 = .ok (.aload_n 0, 1) := by decide +kernel
theorem dX4_drawAnew_49 : decode cX4_drawAnew 49 = .ok (.getfield 15, 3) := by decide +kernel
theorem dX4_drawAnew_52 : decode cX4_drawAnew 52 = .ok (.sipush 256, 3) := by decide +kernel
theorem dX4_drawAnew_55 : decode cX4_drawAnew 55 = .ok (.invokevirtual 74, 3) := by decide +kernel
theorem dX4_drawAnew_58 : decode cX4_drawAnew 58 = .ok (.aload_n 0, 1) := by decide +kernel
theorem dX4_drawAnew_59 : decode cX4_drawAnew 59 = .ok (.getfield 40, 3) := by decide +kernel
theorem dX4_drawAnew_62 : decode cX4_drawAnew 62 = .ok (.if_icmp .ge 7, 3) := by decide +kernel
theorem dX4_drawAnew_65 : decode cX4_drawAnew 65 = .ok (.iconst 1, 1) := by decide +kernel
theorem dX4_drawAnew_66 : decode cX4_drawAnew 66 = .ok (.goto 4, 3) := by decide +kernel
theorem dX4_drawAnew_69 : decode cX4_drawAnew 69 = .ok (.iconst 0, 1) := by decide +kernel
theorem dX4_drawAnew_70 : decode cX4_drawAnew 70 = .ok (.istore 5, 2) := by decide +kernel
theorem dX4_drawAnew_72 : decode cX4_drawAnew 72 = .ok (.iload_n 1, 1) := by decide +kernel
theorem dX4_drawAnew_73 : decode cX4_drawAnew 73 = .ok (.ifCond .eq 8, 3) := by decide +kernel
theorem dX4_drawAnew_76 : decode cX4_drawAnew 76 = .ok (.iload 5, 2) := by decide +kernel
theorem dX4_drawAnew_78 : decode cX4_drawAnew 78 = .ok (.ifCond .eq 24, 3) := by decide +kernel
theorem dX4_drawAnew_81 : decode cX4_drawAnew 81 = .ok (.aload_n 0, 1) := by decide +kernel
theorem dX4_drawAnew_82 : decode cX4_drawAnew 82 = .ok (.getfield 19, 3) := by decide +kernel
theorem dX4_drawAnew_85 : decode cX4_drawAnew 85 = .ok (.iload 4, 2) := by decide +kernel
theorem dX4_drawAnew_87 : decode cX4_drawAnew 87 = .ok (.aload_n 0, 1) := by decide +kernel
theorem dX4_drawAnew_88 : decode cX4_drawAnew 88 = .ok (.getfield 9, 3) := by decide +kernel
theorem dX4_drawAnew_91 : decode cX4_drawAnew 91 = .ok (.aload_n 0, 1) := by decide +kernel
theorem dX4_drawAnew_92 : decode cX4_drawAnew 92 = .ok (.getfield 15, 3) := by decide +kernel
theorem dX4_drawAnew_95 : decode cX4_drawAnew 95 = .ok (.invokevirtual 50, 3) := by decide +kernel
theorem dX4_drawAnew_98 : decode cX4_drawAnew 98 = .ok (.iastore, 1) := by decide +kernel
theorem dX4_drawAnew_99 : decode cX4_drawAnew 99 = .ok (.goto 26, 3) := by decide +kernel
theorem dX4_drawAnew_102 : decode cX4_drawAnew 102 = .ok (.aload_n 0, 1) := by decide +kernel
theorem dX4_drawAnew_103 : decode cX4_drawAnew 103 = .ok (.getfield 19, 3) := by decide +kernel
theorem dX4_drawAnew_106 : decode cX4_drawAnew 106 = .ok (.iload 4, 2) := by decide +kernel
theorem dX4_drawAnew_108 : decode cX4_drawAnew 108 = .ok (.aload_n 0, 1) := by decide +kernel
theorem dX4_drawAnew_109 : decode cX4_drawAnew 109 = .ok (.iload_n 3, 1) := by decide +kernel
theorem dX4_drawAnew_110 : decode cX4_drawAnew 110 = .ok (.iload 4, 2) := by decide +kernel
theorem dX4_drawAnew_112 : decode cX4_drawAnew 112 = .ok (.iload_n 1, 1) := by decide +kernel
theorem dX4_drawAnew_113 : decode cX4_drawAnew 113 = .ok (.imul, 1) := by decide +kernel
theorem dX4_drawAnew_114 : decode cX4_drawAnew 114 = .ok (.iadd, 1) := by decide +kernel
theorem dX4_drawAnew_115 : decode cX4_drawAnew 115 = .ok (.i2l, 1) := by decide +kernel
theorem dX4_drawAnew_116 : decode cX4_drawAnew 116 = .ok (.iload_n 2, 1) := by decide +kernel
theorem dX4_drawAnew_117 : decode cX4_drawAnew 117 = .ok (.i2l, 1) := by decide +kernel
theorem dX4_drawAnew_118 : decode cX4_drawAnew 118 = .ok (.invokestatic 83, 3) := by decide +kernel
theorem dX4_drawAnew_121 : decode cX4_drawAnew 121 = .ok (.invokevirtual 121, 3) := by decide +kernel
theorem dX4_drawAnew_124 : decode cX4_drawAnew 124 = .ok (.iastore, 1) := by decide +kernel
theorem dX4_drawAnew_125 : decode cX4_drawAnew 125 = .ok (.iinc 4 1, 3) := by decide +kernel
theorem dX4_drawAnew_128 : decode cX4_drawAnew 128 = .ok (.goto (-93), 3) := by decide +kernel
theorem dX4_drawAnew_131 : decode cX4_drawAnew 131 = .ok (.aload_n 0, 1) := by decide +kernel
theorem dX4_drawAnew_132 : decode cX4_drawAnew 132 = .ok (.iload_n 2, 1) := by decide +kernel
theorem dX4_drawAnew_133 : decode cX4_drawAnew 133 = .ok (.putfield 36, 3) := by decide +kernel
theorem dX4_drawAnew_136 : decode cX4_drawAnew 136 = .ok (.return_, 1) := by decide +kernel
theorem dX4_oldCellBeyond_0 : decode cX4_oldCellBeyond 0 = .ok (.iconst 0, 1) := by decide +kernel
theorem dX4_oldCellBeyond_1 : decode cX4_oldCellBeyond 1 = .ok (.istore_n 3, 1) := by decide +kernel
theorem dX4_oldCellBeyond_2 : decode cX4_oldCellBeyond 2 = .ok (.iconst 0, 1) := by decide +kernel
theorem dX4_oldCellBeyond_3 : decode cX4_oldCellBeyond 3 = .ok (.istore 4, 2) := by decide +kernel
theorem dX4_oldCellBeyond_5 : decode cX4_oldCellBeyond 5 = .ok (.iload 4, 2) := by decide +kernel
theorem dX4_oldCellBeyond_7 : decode cX4_oldCellBeyond 7 = .ok (.aload_n 0, 1) := by decide +kernel
theorem dX4_oldCellBeyond_8 : decode cX4_oldCellBeyond 8 = .ok (.getfield 36, 3) := by decide +kernel
theorem dX4_oldCellBeyond_11 : decode cX4_oldCellBeyond 11 = .ok (.if_icmp .ge 41, 3) := by decide +kernel
theorem dX4_oldCellBeyond_14 : decode cX4_oldCellBeyond 14 = .ok (.iload 4, 2) := by decide +kernel
theorem dX4_oldCellBeyond_16 : decode cX4_oldCellBeyond 16 = .ok (.bipush 64, 2) := by decide +kernel
theorem dX4_oldCellBeyond_18 : decode cX4_oldCellBeyond 18 = .ok (.if_icmp .ge 34, 3) := by decide +kernel
theorem dX4_oldCellBeyond_21 : decode cX4_oldCellBeyond 21 = .ok (.iload_n 3, 1) := by decide +kernel
theorem dX4_oldCellBeyond_22 : decode cX4_oldCellBeyond 22 = .ok (.aload_n 0, 1) := by decide +kernel
theorem dX4_oldCellBeyond_23 : decode cX4_oldCellBeyond 23 = .ok (.getfield 26, 3) := by decide +kernel
theorem dX4_oldCellBeyond_26 : decode cX4_oldCellBeyond 26 = .ok (.iload 4, 2) := by decide +kernel
theorem dX4_oldCellBeyond_28 : decode cX4_oldCellBeyond 28 = .ok (.iaload, 1) := by decide +kernel
theorem dX4_oldCellBeyond_29 : decode cX4_oldCellBeyond 29 = .ok (.iadd, 1) := by decide +kernel
theorem dX4_oldCellBeyond_30 : decode cX4_oldCellBeyond 30 = .ok (.istore_n 3, 1) := by decide +kernel
theorem dX4_oldCellBeyond_31 : decode cX4_oldCellBeyond 31 = .ok (.iload_n 3, 1) := by decide +kernel
theorem dX4_oldCellBeyond_32 : decode cX4_oldCellBeyond 32 = .ok (.i2l, 1) := by decide +kernel
theorem dX4_oldCellBeyond_33 : decode cX4_oldCellBeyond 33 = .ok (.lload_n 1, 1) := by decide +kernel
theorem dX4_oldCellBeyond_34 : decode cX4_oldCellBeyond 34 = .ok (.lcmp, 1) := by decide +kernel
theorem dX4_oldCellBeyond_35 : decode cX4_oldCellBeyond 35 = .ok (.ifCond .le 11, 3) := by decide +kernel
theorem dX4_oldCellBeyond_38 : decode cX4_oldCellBeyond 38 = .ok (.aload_n 0, 1) := by decide +kernel
theorem dX4_oldCellBeyond_39 : decode cX4_oldCellBeyond 39 = .ok (.getfield 23, 3) := by decide +kernel
theorem dX4_oldCellBeyond_42 : decode cX4_oldCellBeyond 42 = .ok (.iload 4, 2) := by decide +kernel
theorem dX4_oldCellBeyond_44 : decode cX4_oldCellBeyond 44 = .ok (.iaload, 1) := by decide +kernel
theorem dX4_oldCellBeyond_45 : decode cX4_oldCellBeyond 45 = .ok (.ireturn, 1) := by decide +kernel
theorem dX4_oldCellBeyond_46 : decode cX4_oldCellBeyond 46 = .ok (.iinc 4 1, 3) := by decide +kernel
theorem dX4_oldCellBeyond_49 : decode cX4_oldCellBeyond 49 = .ok (.goto (-44), 3) := by decide +kernel
theorem dX4_oldCellBeyond_52 : decode cX4_oldCellBeyond 52 = .ok (.aload_n 0, 1) := by decide +kernel
theorem dX4_oldCellBeyond_53 : decode cX4_oldCellBeyond 53 = .ok (.getfield 23, 3) := by decide +kernel
theorem dX4_oldCellBeyond_56 : decode cX4_oldCellBeyond 56 = .ok (.iconst 0, 1) := by decide +kernel
theorem dX4_oldCellBeyond_57 : decode cX4_oldCellBeyond 57 = .ok (.iaload, 1) := by decide +kernel
theorem dX4_oldCellBeyond_58 : decode cX4_oldCellBeyond 58 = .ok (.ireturn, 1) := by decide +kernel
set_option maxRecDepth 20000 in
theorem ggX5_init_X3_init : GoodIn wsX5_init wsX3_init := goodIn_r _ [28, 29, 2, 3, 30, 31, 21, 32, 33, 34, 35, 6, 36, 37, 38, 39, 40, 41, 42, 43, 44, 45, 46, 47, 48, 49, 50, 51, 52, 53, 54, 55, 56, 57, 58, 59, 94, 95, 96] (by decide +kernel) (by decide +kernel)
set_option maxRecDepth 20000 in
theorem gX5_init_X3_init : GoodIn wsX5_init (wsX3_init) := ggX5_init_X3_init
set_option maxRecDepth 20000 in
theorem ggX5_init_X1_init : GoodIn wsX5_init wsX1_init := goodIn_r _ [62, 63, 2, 3, 64, 106] (by decide +kernel) (by decide +kernel)
set_option maxRecDepth 20000 in
theorem gX5_init_X1_init : GoodIn wsX5_init (wsX1_init) := ggX5_init_X1_init
set_option maxRecDepth 20000 in
theorem ggX5_init_X4_init : GoodIn wsX5_init wsX4_init := goodIn_r _ [67, 68, 2, 3, 69, 70, 21, 71, 72, 73, 74, 75, 76, 77, 78, 79, 80, 81, 82, 83, 84, 107, 108, 109, 110, 111, 112, 113, 114, 115, 116, 117, 121] (by decide +kernel) (by decide +kernel)
set_option maxRecDepth 20000 in
theorem gX5_init_X4_init : GoodIn wsX5_init (wsX4_init) := ggX5_init_X4_init
set_option maxRecDepth 20000 in
theorem ggX5_init_X0_init : GoodIn wsX5_init wsX0_init := goodIn_r _ [87, 88, 2, 3, 89, 90, 75, 76, 91, 92, 93, 80, 81, 82, 83, 84, 118, 119, 120, 121] (by decide +kernel) (by decide +kernel)
set_option maxRecDepth 20000 in
theorem gX5_init_X0_init : GoodIn wsX5_init (wsX0_init) := ggX5_init_X0_init
theorem dX5_init_0 : decode cX5_init 0 = .ok (.aload_n 0, 1) := by decide +kernel
theorem dX5_init_1 : decode cX5_init 1 = .ok (.invokespecial 1, 3) := by decide +kernel
theorem dX5_init_4 : decode cX5_init 4 = .ok (.aload_n 0, 1) := by decide +kernel
theorem dX5_init_5 : decode cX5_init 5 = .ok (.new 7, 3) := by decide +kernel
theorem dX5_init_8 : decode cX5_init 8 = .ok (.dup, 1) := by decide +kernel
theorem dX5_init_9 : decode cX5_init 9 = .ok (.invokespecial 9, 3) := by decide +kernel
theorem dX5_init_12 : decode cX5_init 12 = .ok (.putfield 10, 3) := by decide +kernel
theorem dX5_init_15 : decode cX5_init 15 = .ok (.aload_n 0, 1) := by decide +kernel
theorem dX5_init_16 : decode cX5_init 16 = .ok (.new 16, 3) := by decide +kernel
theorem dX5_init_19 : decode cX5_init 19 = .ok (.dup, 1) := by decide +kernel
theorem dX5_init_20 : decode cX5_init 20 = .ok (.invokespecial 18, 3) := by decide +kernel
theorem dX5_init_23 : decode cX5_init 23 = .ok (.putfield 19, 3) := by decide +kernel
theorem dX5_init_26 : decode cX5_init 26 = .ok (.aload_n 0, 1) := by decide +kernel
theorem dX5_init_27 : decode cX5_init 27 = .ok (.new 23, 3) := by decide +kernel
theorem dX5_init_30 : decode cX5_init 30 = .ok (.dup, 1) := by decide +kernel
theorem dX5_init_31 : decode cX5_init 31 = .ok (.aload_n 0, 1) := by decide +kernel
theorem dX5_init_32 : decode cX5_init 32 = .ok (.getfield 10, 3) := by decide +kernel
theorem dX5_init_35 : decode cX5_init 35 = .ok (.aload_n 0, 1) := by decide +kernel
theorem dX5_init_36 : decode cX5_init 36 = .ok (.getfield 19, 3) := by decide +kernel
theorem dX5_init_39 : decode cX5_init 39 = .ok (.invokespecial 25, 3) := by decide +kernel
theorem dX5_init_42 : decode cX5_init 42 = .ok (.putfield 28, 3) := by decide +kernel
theorem dX5_init_45 : decode cX5_init 45 = .ok (.aload_n 0, 1) := by decide +kernel
theorem dX5_init_46 : decode cX5_init 46 = .ok (.new 32, 3) := by decide +kernel
theorem dX5_init_49 : decode cX5_init 49 = .ok (.dup, 1) := by decide +kernel
theorem dX5_init_50 : decode cX5_init 50 = .ok (.aload_n 0, 1) := by decide +kernel
theorem dX5_init_51 : decode cX5_init 51 = .ok (.getfield 10, 3) := by decide +kernel
theorem dX5_init_54 : decode cX5_init 54 = .ok (.invokespecial 34, 3) := by decide +kernel
theorem dX5_init_57 : decode cX5_init 57 = .ok (.putfield 37, 3) := by decide +kernel
theorem dX5_init_60 : decode cX5_init 60 = .ok (.aload_n 0, 1) := by decide +kernel
theorem dX5_init_61 : decode cX5_init 61 = .ok (.new 32, 3) := by decide +kernel
theorem dX5_init_64 : decode cX5_init 64 = .ok (.dup, 1) := by decide +kernel
theorem dX5_init_65 : decode cX5_init 65 = .ok (.aload_n 0, 1) := by decide +kernel
theorem dX5_init_66 : decode cX5_init 66 = .ok (.getfield 10, 3) := by decide +kernel
theorem dX5_init_69 : decode cX5_init 69 = .ok (.invokespecial 34, 3) := by decide +kernel
theorem dX5_init_72 : decode cX5_init 72 = .ok (.putfield 41, 3) := by decide +kernel
theorem dX5_init_75 : decode cX5_init 75 = .ok (.aload_n 0, 1) := by decide +kernel
theorem dX5_init_76 : decode cX5_init 76 = .ok (.sipush 300, 3) := by decide +kernel
theorem dX5_init_79 : decode cX5_init 79 = .ok (.newarray .int, 2) := by decide +kernel
theorem dX5_init_81 : decode cX5_init 81 = .ok (.putfield 44, 3) := by decide +kernel
theorem dX5_init_84 : decode cX5_init 84 = .ok (.aload_n 0, 1) := by decide +kernel
theorem dX5_init_85 : decode cX5_init 85 = .ok (.sipush 300, 3) := by decide +kernel
theorem dX5_init_88 : decode cX5_init 88 = .ok (.newarray .int, 2) := by decide +kernel
theorem dX5_init_90 : decode cX5_init 90 = .ok (.putfield 48, 3) := by decide +kernel
theorem dX5_init_93 : decode cX5_init 93 = .ok (.aload_n 0, 1) := by decide +kernel
theorem dX5_init_94 : decode cX5_init 94 = .ok (.iconst 0, 1) := by decide +kernel
theorem dX5_init_95 : decode cX5_init 95 = .ok (.putfield 51, 3) := by decide +kernel
theorem dX5_init_98 : decode cX5_init 98 = .ok (.aload_n 0, 1) := by decide +kernel
theorem dX5_init_99 : decode cX5_init 99 = .ok (.iconst 0, 1) := by decide +kernel
theorem dX5_init_100 : decode cX5_init 100 = .ok (.putfield 55, 3) := by decide +kernel
theorem dX5_init_103 : decode cX5_init 103 = .ok (.return_, 1) := by decide +kernel
set_option maxRecDepth 20000 in
theorem ggX5_wall_X5_checkCell : GoodIn wsX5_wall wsX5_checkCell := goodIn_ca (goodIn_r _ [8, 9, 10, 11, 12, 7, 13] (by decide +kernel) (by decide +kernel)) (goodIn_sub (fun _ h => List.mem_cons_of_mem _ (List.mem_append_right _ h)) (by decide +kernel))
set_option maxRecDepth 20000 in
theorem gX5_wall_X5_checkCell : GoodIn wsX5_wall (va_wsS RX5 59 yX5_checkCell wsX5_checkCell) := goodIn_app (goodIn_of _ (by decide +kernel)) ggX5_wall_X5_checkCell
set_option maxRecDepth 20000 in
theorem ggX5_wall_X5_numberOf : GoodIn wsX5_wall wsX5_numberOf := goodIn_r _ [16] (by decide +kernel) (by decide +kernel)
set_option maxRecDepth 20000 in
theorem gX5_wall_X5_numberOf : GoodIn wsX5_wall (va_wsS RX5 63 yX5_numberOf wsX5_numberOf) := goodIn_app (goodIn_of _ (by decide +kernel)) ggX5_wall_X5_numberOf
set_option maxRecDepth 20000 in
theorem ggX5_wall_X3_isFree : GoodIn wsX5_wall wsX3_isFree := goodIn_r _ [21, 22, 23, 7, 24, 60, 61, 62] (by decide +kernel) (by decide +kernel)
set_option maxRecDepth 20000 in
theorem gX5_wall_X3_isFree : GoodIn wsX5_wall (wsV RX5 67 RX3 yX3_isFree wsX3_isFree) := goodIn_app (goodIn_of _ (by decide +kernel)) ggX5_wall_X3_isFree
set_option maxRecDepth 20000 in
theorem ggX5_wall_X3_freeCells : GoodIn wsX5_wall wsX3_freeCells := goodIn_r _ [28, 29, 60, 61, 62] (by decide +kernel) (by decide +kernel)
set_option maxRecDepth 20000 in
theorem gX5_wall_X3_freeCells : GoodIn wsX5_wall (wsV RX5 71 RX3 yX3_freeCells wsX3_freeCells) := goodIn_app (goodIn_of _ (by decide +kernel)) ggX5_wall_X3_freeCells
set_option maxRecDepth 20000 in
theorem ggX5_wall_X3_build : GoodIn wsX5_wall wsX3_build := goodIn_r _ [33, 22, 23, 7, 24, 34, 35, 36, 20, 37, 29, 38, 39, 40, 41, 42, 43, 44, 45, 46, 47, 48, 49, 12, 13, 15, 16, 50, 18, 19, 21, 60, 61, 62] (by decide +kernel) (by decide +kernel)
set_option maxRecDepth 20000 in
theorem gX5_wall_X3_build : GoodIn wsX5_wall (wsV RX5 78 RX3 yX3_build wsX3_build) := goodIn_app (goodIn_of _ (by decide +kernel)) ggX5_wall_X3_build
theorem dX5_wall_0 : decode cX5_wall 0 = .ok (.iload_n 1, 1) := by decide +kernel
theorem dX5_wall_1 : decode cX5_wall 1 = .ok (.iload_n 2, 1) := by decide +kernel
theorem dX5_wall_2 : decode cX5_wall 2 = .ok (.invokestatic 59, 3) := by decide +kernel
theorem dX5_wall_5 : decode cX5_wall 5 = .ok (.iload_n 1, 1) := by decide +kernel
theorem dX5_wall_6 : decode cX5_wall 6 = .ok (.iload_n 2, 1) := by decide +kernel
theorem dX5_wall_7 : decode cX5_wall 7 = .ok (.invokestatic 63, 3) := by decide +kernel
theorem dX5_wall_10 : decode cX5_wall 10 = .ok (.istore 4, 2) := by decide +kernel
theorem dX5_wall_12 : decode cX5_wall 12 = .ok (.aload_n 0, 1) := by decide +kernel
theorem dX5_wall_13 : decode cX5_wall 13 = .ok (.getfield 10, 3) := by decide +kernel
theorem dX5_wall_16 : decode cX5_wall 16 = .ok (.iload 4, 2) := by decide +kernel
theorem dX5_wall_18 : decode cX5_wall 18 = .ok (.invokevirtual 67, 3) := by decide +kernel
theorem dX5_wall_21 : decode cX5_wall 21 = .ok (.ifCond .ne 7, 3) := by decide +kernel
theorem dX5_wall_24 : decode cX5_wall 24 = .ok (.iconst 1, 1) := by decide +kernel
theorem dX5_wall_25 : decode cX5_wall 25 = .ok (.goto 4, 3) := by decide +kernel
theorem dX5_wall_28 : decode cX5_wall 28 = .ok (.iconst 0, 1) := by decide +kernel
theorem dX5_wall_29 : decode cX5_wall 29 = .ok (.istore 5, 2) := by decide +kernel
theorem dX5_wall_31 : decode cX5_wall 31 = .ok (.iload_n 3, 1) := by decide +kernel
theorem dX5_wall_32 : decode cX5_wall 32 = .ok (.ifCond .eq 23, 3) := by decide +kernel
theorem dX5_wall_35 : decode cX5_wall 35 = .ok (.iload 5, 2) := by decide +kernel
theorem dX5_wall_37 : decode cX5_wall 37 = .ok (.ifCond .ne 18, 3) := by decide +kernel
theorem dX5_wall_40 : decode cX5_wall 40 = .ok (.aload_n 0, 1) := by decide +kernel
theorem dX5_wall_41 : decode cX5_wall 41 = .ok (.getfield 10, 3) := by decide +kernel
theorem dX5_wall_44 : decode cX5_wall 44 = .ok (.invokevirtual 71, 3) := by decide +kernel
theorem dX5_wall_47 : decode cX5_wall 47 = .ok (.iconst 1, 1) := by decide +kernel
theorem dX5_wall_48 : decode cX5_wall 48 = .ok (.if_icmp .gt 7, 3) := by decide +kernel
theorem dX5_wall_51 : decode cX5_wall 51 = .ok (.iconst 1, 1) := by decide +kernel
theorem dX5_wall_52 : decode cX5_wall 52 = .ok (.goto 4, 3) := by decide +kernel
theorem dX5_wall_55 : decode cX5_wall 55 = .ok (.iconst 0, 1) := by decide +kernel
theorem dX5_wall_56 : decode cX5_wall 56 = .ok (.istore 6, 2) := by decide +kernel
theorem dX5_wall_58 : decode cX5_wall 58 = .ok (.aload_n 0, 1) := by decide +kernel
theorem dX5_wall_59 : decode cX5_wall 59 = .ok (.getfield 55, 3) := by decide +kernel
theorem dX5_wall_62 : decode cX5_wall 62 = .ok (.ifCond .ne 8, 3) := by decide +kernel
theorem dX5_wall_65 : decode cX5_wall 65 = .ok (.iload 6, 2) := by decide +kernel
theorem dX5_wall_67 : decode cX5_wall 67 = .ok (.ifCond .eq 11, 3) := by decide +kernel
theorem dX5_wall_70 : decode cX5_wall 70 = .ok (.new 75, 3) := by decide +kernel
theorem dX5_wall_73 : decode cX5_wall 73 = .ok (.dup, 1) := by decide +kernel
theorem dX5_wall_74 : decode cX5_wall 74 = .ok (.invokespecial 77, 3) := by decide +kernel
theorem dX5_wall_77 : decode cX5_wall 77 = .ok (.athrow, 1) := by decide +kernel
theorem dX5_wall_78 : decode cX5_wall 78 = .ok (.aload_n 0, 1) := by decide +kernel
theorem dX5_wall_79 : decode cX5_wall 79 = .ok (.getfield 10, 3) := by decide +kernel
theorem dX5_wall_82 : decode cX5_wall 82 = .ok (.iload 4, 2) := by decide +kernel
theorem dX5_wall_84 : decode cX5_wall 84 = .ok (.iload_n 3, 1) := by decide +kernel
theorem dX5_wall_85 : decode cX5_wall 85 = .ok (.invokevirtual 78, 3) := by decide +kernel
theorem dX5_wall_88 : decode cX5_wall 88 = .ok (.iload 5, 2) := by decide +kernel
theorem dX5_wall_90 : decode cX5_wall 90 = .ok (.ireturn, 1) := by decide +kernel
set_option maxRecDepth 20000 in
theorem ggX5_draw_X1_change : GoodIn wsX5_draw wsX1_change := goodIn_r _ [9, 10, 20] (by decide +kernel) (by decide +kernel)
set_option maxRecDepth 20000 in
theorem gX5_draw_X1_change : GoodIn wsX5_draw (wsV RX5 86 RX1 yX1_change wsX1_change) := goodIn_app (goodIn_of _ (by decide +kernel)) ggX5_draw_X1_change
theorem dX5_draw_0 : decode cX5_draw 0 = .ok (.iload_n 1, 1) := by decide +kernel
theorem dX5_draw_1 : decode cX5_draw 1 = .ok (.iconst 1, 1) := by decide +kernel
theorem dX5_draw_2 : decode cX5_draw 2 = .ok (.if_icmp .lt 9, 3) := by decide +kernel
theorem dX5_draw_5 : decode cX5_draw 5 = .ok (.iload_n 1, 1) := by decide +kernel
theorem dX5_draw_6 : decode cX5_draw 6 = .ok (.ldc 82, 2) := by decide +kernel
theorem dX5_draw_8 : decode cX5_draw 8 = .ok (.if_icmp .le 11, 3) := by decide +kernel
theorem dX5_draw_11 : decode cX5_draw 11 = .ok (.new 83, 3) := by decide +kernel
theorem dX5_draw_14 : decode cX5_draw 14 = .ok (.dup, 1) := by decide +kernel
theorem dX5_draw_15 : decode cX5_draw 15 = .ok (.invokespecial 85, 3) := by decide +kernel
theorem dX5_draw_18 : decode cX5_draw 18 = .ok (.athrow, 1) := by decide +kernel
theorem dX5_draw_19 : decode cX5_draw 19 = .ok (.aload_n 0, 1) := by decide +kernel
theorem dX5_draw_20 : decode cX5_draw 20 = .ok (.getfield 19, 3) := by decide +kernel
theorem dX5_draw_23 : decode cX5_draw 23 = .ok (.iload_n 1, 1) := by decide +kernel
theorem dX5_draw_24 : decode cX5_draw 24 = .ok (.invokevirtual 86, 3) := by decide +kernel
theorem dX5_draw_27 : decode cX5_draw 27 = .ok (.ireturn, 1) := by decide +kernel
set_option maxRecDepth 20000 in
theorem ggX5_spread_X4_begin : GoodIn wsX5_spread wsX4_begin := goodIn_r _ [11, 12, 13, 14, 15, 16, 17, 18, 19, 20, 21, 22, 23, 24, 25, 26, 27, 28, 29, 30, 31, 32, 33, 63, 64, 65, 66, 67, 68, 69, 70, 71, 72, 73, 74, 75, 76, 77] (by decide +kernel) (by decide +kernel)
set_option maxRecDepth 20000 in
theorem gX5_spread_X4_begin : GoodIn wsX5_spread (wsV RX5 90 RX4 yX4_begin wsX4_begin) := goodIn_app (goodIn_of _ (by decide +kernel)) ggX5_spread_X4_begin
set_option maxRecDepth 20000 in
theorem ggX5_spread_X0_begin : GoodIn wsX5_spread wsX0_begin := goodIn_r _ [38, 39, 40, 41, 42, 43, 23, 44, 26, 45, 46, 47, 48, 49, 50, 51, 52, 53, 78, 79, 80, 74, 75, 76, 81] (by decide +kernel) (by decide +kernel)
set_option maxRecDepth 20000 in
theorem gX5_spread_X0_begin : GoodIn wsX5_spread (wsV RX5 94 RX0 yX0_begin wsX0_begin) := goodIn_app (goodIn_of _ (by decide +kernel)) ggX5_spread_X0_begin
theorem dX5_spread_0 : decode cX5_spread 0 = .ok (.iload_n 1, 1) := by decide +kernel
theorem dX5_spread_1 : decode cX5_spread 1 = .ok (.bipush 8, 2) := by decide +kernel
theorem dX5_spread_3 : decode cX5_spread 3 = .ok (.if_icmp .lt 9, 3) := by decide +kernel
theorem dX5_spread_6 : decode cX5_spread 6 = .ok (.iload_n 1, 1) := by decide +kernel
theorem dX5_spread_7 : decode cX5_spread 7 = .ok (.bipush 64, 2) := by decide +kernel
theorem dX5_spread_9 : decode cX5_spread 9 = .ok (.if_icmp .le 11, 3) := by decide +kernel
theorem dX5_spread_12 : decode cX5_spread 12 = .ok (.new 83, 3) := by decide +kernel
theorem dX5_spread_15 : decode cX5_spread 15 = .ok (.dup, 1) := by decide +kernel
theorem dX5_spread_16 : decode cX5_spread 16 = .ok (.invokespecial 85, 3) := by decide +kernel
theorem dX5_spread_19 : decode cX5_spread 19 = .ok (.athrow, 1) := by decide +kernel
theorem dX5_spread_20 : decode cX5_spread 20 = .ok (.aload_n 0, 1) := by decide +kernel
theorem dX5_spread_21 : decode cX5_spread 21 = .ok (.getfield 28, 3) := by decide +kernel
theorem dX5_spread_24 : decode cX5_spread 24 = .ok (.iload_n 1, 1) := by decide +kernel
theorem dX5_spread_25 : decode cX5_spread 25 = .ok (.invokevirtual 90, 3) := by decide +kernel
theorem dX5_spread_28 : decode cX5_spread 28 = .ok (.aload_n 0, 1) := by decide +kernel
theorem dX5_spread_29 : decode cX5_spread 29 = .ok (.getfield 37, 3) := by decide +kernel
theorem dX5_spread_32 : decode cX5_spread 32 = .ok (.invokevirtual 94, 3) := by decide +kernel
theorem dX5_spread_35 : decode cX5_spread 35 = .ok (.aload_n 0, 1) := by decide +kernel
theorem dX5_spread_36 : decode cX5_spread 36 = .ok (.iconst 0, 1) := by decide +kernel
theorem dX5_spread_37 : decode cX5_spread 37 = .ok (.putfield 51, 3) := by decide +kernel
theorem dX5_spread_40 : decode cX5_spread 40 = .ok (.aload_n 0, 1) := by decide +kernel
theorem dX5_spread_41 : decode cX5_spread 41 = .ok (.iconst 1, 1) := by decide +kernel
theorem dX5_spread_42 : decode cX5_spread 42 = .ok (.putfield 55, 3) := by decide +kernel
theorem dX5_spread_45 : decode cX5_spread 45 = .ok (.return_, 1) := by decide +kernel
set_option maxRecDepth 20000 in
theorem ggX5_drive_X5_checkDirection : GoodIn wsX5_drive wsX5_checkDirection := goodIn_ca (goodIn_r _ [6, 7, 8, 9, 10, 5, 11] (by decide +kernel) (by decide +kernel)) (goodIn_sub (fun _ h => List.mem_cons_of_mem _ (List.mem_append_left _ (List.mem_append_right _ h))) (by decide +kernel))
set_option maxRecDepth 20000 in
theorem gX5_drive_X5_checkDirection : GoodIn wsX5_drive (va_wsS RX5 96 yX5_checkDirection wsX5_checkDirection) := goodIn_app (goodIn_of _ (by decide +kernel)) ggX5_drive_X5_checkDirection
set_option maxRecDepth 20000 in
theorem ggX5_drive_X5_checkMayTell : GoodIn wsX5_drive wsX5_checkMayTell := goodIn_ca (goodIn_r _ [15, 16, 17, 18, 19, 126, 127, 128, 129, 130, 131, 132, 133, 134] (by decide +kernel) (by decide +kernel)) (goodIn_sub (fun _ h => List.mem_cons_of_mem _ (List.mem_append_right _ h)) (by decide +kernel))
set_option maxRecDepth 20000 in
theorem gX5_drive_X5_checkMayTell : GoodIn wsX5_drive (wsV RX5 99 RX5 yX5_checkMayTell wsX5_checkMayTell) := goodIn_app (goodIn_of _ (by decide +kernel)) ggX5_drive_X5_checkMayTell
set_option maxRecDepth 20000 in
theorem ggX5_drive_X4_move : GoodIn wsX5_drive wsX4_move := goodIn_r _ [24, 25, 26, 27, 28, 29, 30, 23, 31, 32, 33, 34, 35, 36, 37, 38, 39, 40, 41, 42, 43, 44, 45, 46, 47, 48, 49, 50, 51, 52, 53, 54, 5, 55, 10, 11, 56, 57, 58, 59, 60, 61, 62, 63, 64, 135, 136, 137, 138, 139, 140, 141, 142, 143, 144, 145, 146, 147, 148, 149] (by decide +kernel) (by decide +kernel)
set_option maxRecDepth 20000 in
theorem gX5_drive_X4_move : GoodIn wsX5_drive (wsV RX5 102 RX4 yX4_move wsX4_move) := goodIn_app (goodIn_of _ (by decide +kernel)) ggX5_drive_X4_move
set_option maxRecDepth 20000 in
theorem ggX5_drive_X0_push : GoodIn wsX5_drive wsX0_push := goodIn_r _ [69, 70, 71, 72, 73, 74, 75, 76, 77, 78, 79, 80, 81, 82, 83, 84, 85, 86, 87, 88, 89, 90, 91, 43, 92, 93, 54, 5, 55, 94, 95, 96, 97, 98, 99, 100, 101, 102, 41, 42, 44, 45, 46, 47, 48, 49, 50, 51, 52, 53, 10, 11, 56, 57, 58, 59, 60, 61, 62, 63, 64, 103, 104, 105, 68, 106, 107, 108, 109, 110, 111, 112, 113, 114, 115, 116, 117, 118, 119, 150, 151, 152, 153, 147, 148, 149] (by decide +kernel) (by decide +kernel)
set_option maxRecDepth 20000 in
theorem gX5_drive_X0_push : GoodIn wsX5_drive (wsV RX5 105 RX0 yX0_push wsX0_push) := goodIn_app (goodIn_of _ (by decide +kernel)) ggX5_drive_X0_push
set_option maxRecDepth 20000 in
theorem ggX5_drive_X5_keep : GoodIn wsX5_drive wsX5_keep := goodIn_r _ [123, 19, 124, 125, 126, 127, 128, 129, 130, 131, 132, 133, 134] (by decide +kernel) (by decide +kernel)
set_option maxRecDepth 20000 in
theorem gX5_drive_X5_keep : GoodIn wsX5_drive (wsV RX5 108 RX5 yX5_keep wsX5_keep) := goodIn_app (goodIn_of _ (by decide +kernel)) ggX5_drive_X5_keep
theorem dX5_drive_0 : decode cX5_drive 0 = .ok (.iload_n 1, 1) := by decide +kernel
theorem dX5_drive_1 : decode cX5_drive 1 = .ok (.invokestatic 96, 3) := by decide +kernel
theorem dX5_drive_4 : decode cX5_drive 4 = .ok (.aload_n 0, 1) := by decide +kernel
theorem dX5_drive_5 : decode cX5_drive 5 = .ok (.invokevirtual 99, 3) := by decide +kernel
theorem dX5_drive_8 : decode cX5_drive 8 = .ok (.aload_n 0, 1) := by decide +kernel
theorem dX5_drive_9 : decode cX5_drive 9 = .ok (.getfield 28, 3) := by decide +kernel
theorem dX5_drive_12 : decode cX5_drive 12 = .ok (.iload_n 1, 1) := by decide +kernel
theorem dX5_drive_13 : decode cX5_drive 13 = .ok (.invokevirtual 102, 3) := by decide +kernel
theorem dX5_drive_16 : decode cX5_drive 16 = .ok (.aload_n 0, 1) := by decide +kernel
theorem dX5_drive_17 : decode cX5_drive 17 = .ok (.getfield 37, 3) := by decide +kernel
theorem dX5_drive_20 : decode cX5_drive 20 = .ok (.iload_n 1, 1) := by decide +kernel
theorem dX5_drive_21 : decode cX5_drive 21 = .ok (.invokevirtual 105, 3) := by decide +kernel
theorem dX5_drive_24 : decode cX5_drive 24 = .ok (.aload_n 0, 1) := by decide +kernel
theorem dX5_drive_25 : decode cX5_drive 25 = .ok (.iload_n 1, 1) := by decide +kernel
theorem dX5_drive_26 : decode cX5_drive 26 = .ok (.iconst (-1), 1) := by decide +kernel
theorem dX5_drive_27 : decode cX5_drive 27 = .ok (.invokevirtual 108, 3) := by decide +kernel
theorem dX5_drive_30 : decode cX5_drive 30 = .ok (.return_, 1) := by decide +kernel
set_option maxRecDepth 20000 in
theorem ggX5_read_X5_checkDirection : GoodIn wsX5_read wsX5_checkDirection := goodIn_ca (goodIn_r _ [8, 9, 10, 11, 12, 7, 13] (by decide +kernel) (by decide +kernel)) (goodIn_sub (fun _ h => List.mem_cons_of_mem _ (List.mem_append_left _ (List.mem_append_right _ h))) (by decide +kernel))
set_option maxRecDepth 20000 in
theorem gX5_read_X5_checkDirection : GoodIn wsX5_read (va_wsS RX5 96 yX5_checkDirection wsX5_checkDirection) := goodIn_app (goodIn_of _ (by decide +kernel)) ggX5_read_X5_checkDirection
set_option maxRecDepth 20000 in
theorem ggX5_read_X5_checkMayTell : GoodIn wsX5_read wsX5_checkMayTell := goodIn_ca (goodIn_r _ [17, 18, 19, 20, 21, 158, 159, 160, 161, 162, 163, 164, 165, 166] (by decide +kernel) (by decide +kernel)) (goodIn_sub (fun _ h => List.mem_cons_of_mem _ (List.mem_append_right _ h)) (by decide +kernel))
set_option maxRecDepth 20000 in
theorem gX5_read_X5_checkMayTell : GoodIn wsX5_read (wsV RX5 99 RX5 yX5_checkMayTell wsX5_checkMayTell) := goodIn_app (goodIn_of _ (by decide +kernel)) ggX5_read_X5_checkMayTell
set_option maxRecDepth 20000 in
theorem ggX5_read_X4_weigh : GoodIn wsX5_read wsX4_weigh := goodIn_r _ [26, 27, 28, 29, 30, 31, 32, 33, 34, 35, 36, 37, 38, 39, 40, 41, 42, 43, 44, 45, 7, 46, 12, 13, 47, 48, 49, 50, 51, 25, 52, 53, 54, 55, 56, 57, 58, 59, 60, 61, 62, 63, 64, 65, 66, 67, 68, 69, 70, 71, 72, 73, 74, 75, 76, 77, 78, 79, 80, 81, 82, 83, 84, 85, 86, 87, 88, 89, 90, 91, 92, 93, 94, 95, 96, 97, 98, 99, 100, 101, 102, 103, 104, 105, 106, 107, 108, 109, 110, 111, 112, 113, 167, 168, 169, 170, 171, 172, 173, 174, 175, 176, 177, 178, 179, 180, 181, 182] (by decide +kernel) (by decide +kernel)
set_option maxRecDepth 20000 in
theorem gX5_read_X4_weigh : GoodIn wsX5_read (wsV RX5 111 RX4 yX4_weigh wsX4_weigh) := goodIn_app (goodIn_of _ (by decide +kernel)) ggX5_read_X4_weigh
set_option maxRecDepth 20000 in
theorem ggX5_read_X0_weigh : GoodIn wsX5_read wsX0_weigh := goodIn_r _ [118, 119, 120, 121, 83, 84, 75, 85, 77, 45, 7, 46, 122, 32, 33, 34, 35, 36, 37, 38, 39, 40, 41, 42, 43, 44, 12, 13, 123, 124, 125, 126, 127, 128, 129, 130, 131, 132, 133, 134, 135, 136, 117, 137, 138, 139, 140, 141, 108, 142, 143, 144, 145, 146, 147, 148, 149, 150, 151, 183, 184, 185, 181, 178, 179, 180] (by decide +kernel) (by decide +kernel)
set_option maxRecDepth 20000 in
theorem gX5_read_X0_weigh : GoodIn wsX5_read (wsV RX5 114 RX0 yX0_weigh wsX0_weigh) := goodIn_app (goodIn_of _ (by decide +kernel)) ggX5_read_X0_weigh
set_option maxRecDepth 20000 in
theorem ggX5_read_X5_keep : GoodIn wsX5_read wsX5_keep := goodIn_r _ [155, 21, 156, 157, 158, 159, 160, 161, 162, 163, 164, 165, 166] (by decide +kernel) (by decide +kernel)
set_option maxRecDepth 20000 in
theorem gX5_read_X5_keep : GoodIn wsX5_read (wsV RX5 108 RX5 yX5_keep wsX5_keep) := goodIn_app (goodIn_of _ (by decide +kernel)) ggX5_read_X5_keep
theorem dX5_read_0 : decode cX5_read 0 = .ok (.iload_n 1, 1) := by decide +kernel
theorem dX5_read_1 : decode cX5_read 1 = .ok (.invokestatic 96, 3) := by decide +kernel
theorem dX5_read_4 : decode cX5_read 4 = .ok (.iload_n 2, 1) := by decide +kernel
theorem dX5_read_5 : decode cX5_read 5 = .ok (.ifCond .lt 9, 3) := by decide +kernel
theorem dX5_read_8 : decode cX5_read 8 = .ok (.iload_n 2, 1) := by decide +kernel
theorem dX5_read_9 : decode cX5_read 9 = .ok (.bipush 8, 2) := by decide +kernel
theorem dX5_read_11 : decode cX5_read 11 = .ok (.if_icmp .lt 11, 3) := by decide +kernel
theorem dX5_read_14 : decode cX5_read 14 = .ok (.new 83, 3) := by decide +kernel
theorem dX5_read_17 : decode cX5_read 17 = .ok (.dup, 1) := by decide +kernel
theorem dX5_read_18 : decode cX5_read 18 = .ok (.invokespecial 85, 3) := by decide +kernel
theorem dX5_read_21 : decode cX5_read 21 = .ok (.athrow, 1) := by decide +kernel
theorem dX5_read_22 : decode cX5_read 22 = .ok (.aload_n 0, 1) := by decide +kernel
theorem dX5_read_23 : decode cX5_read 23 = .ok (.invokevirtual 99, 3) := by decide +kernel
theorem dX5_read_26 : decode cX5_read 26 = .ok (.aload_n 0, 1) := by decide +kernel
theorem dX5_read_27 : decode cX5_read 27 = .ok (.getfield 28, 3) := by decide +kernel
theorem dX5_read_30 : decode cX5_read 30 = .ok (.iload_n 1, 1) := by decide +kernel
theorem dX5_read_31 : decode cX5_read 31 = .ok (.iload_n 2, 1) := by decide +kernel
theorem dX5_read_32 : decode cX5_read 32 = .ok (.invokevirtual 111, 3) := by decide +kernel
theorem dX5_read_35 : decode cX5_read 35 = .ok (.istore_n 3, 1) := by decide +kernel
theorem dX5_read_36 : decode cX5_read 36 = .ok (.aload_n 0, 1) := by decide +kernel
theorem dX5_read_37 : decode cX5_read 37 = .ok (.getfield 37, 3) := by decide +kernel
theorem dX5_read_40 : decode cX5_read 40 = .ok (.iload_n 1, 1) := by decide +kernel
theorem dX5_read_41 : decode cX5_read 41 = .ok (.iload_n 2, 1) := by decide +kernel
theorem dX5_read_42 : decode cX5_read 42 = .ok (.invokevirtual 114, 3) := by decide +kernel
theorem dX5_read_45 : decode cX5_read 45 = .ok (.aload_n 0, 1) := by decide +kernel
theorem dX5_read_46 : decode cX5_read 46 = .ok (.iload_n 1, 1) := by decide +kernel
theorem dX5_read_47 : decode cX5_read 47 = .ok (.iload_n 2, 1) := by decide +kernel
theorem dX5_read_48 : decode cX5_read 48 = .ok (.invokevirtual 108, 3) := by decide +kernel
theorem dX5_read_51 : decode cX5_read 51 = .ok (.iload_n 3, 1) := by decide +kernel
theorem dX5_read_52 : decode cX5_read 52 = .ok (.ireturn, 1) := by decide +kernel
set_option maxRecDepth 20000 in
theorem ggX5_toRead_X5_checkCell : GoodIn wsX5_toRead wsX5_checkCell := goodIn_ca (goodIn_r _ [5, 6, 7, 8, 9, 4, 10] (by decide +kernel) (by decide +kernel)) (goodIn_sub (fun _ h => List.mem_cons_of_mem _ (List.mem_append_right _ h)) (by decide +kernel))
set_option maxRecDepth 20000 in
theorem gX5_toRead_X5_checkCell : GoodIn wsX5_toRead (va_wsS RX5 59 yX5_checkCell wsX5_checkCell) := goodIn_app (goodIn_of _ (by decide +kernel)) ggX5_toRead_X5_checkCell
set_option maxRecDepth 20000 in
theorem ggX5_toRead_X5_checkDirection : GoodIn wsX5_toRead wsX5_checkDirection := goodIn_ca (goodIn_r _ [13, 6, 7, 14, 15, 4, 16] (by decide +kernel) (by decide +kernel)) (goodIn_sub (fun _ h => List.mem_cons_of_mem _ (List.mem_append_right _ h)) (by decide +kernel))
set_option maxRecDepth 20000 in
theorem gX5_toRead_X5_checkDirection : GoodIn wsX5_toRead (va_wsS RX5 96 yX5_checkDirection wsX5_checkDirection) := goodIn_app (goodIn_of _ (by decide +kernel)) ggX5_toRead_X5_checkDirection
set_option maxRecDepth 20000 in
theorem ggX5_toRead_X5_numberOf : GoodIn wsX5_toRead wsX5_numberOf := goodIn_r _ [19] (by decide +kernel) (by decide +kernel)
set_option maxRecDepth 20000 in
theorem gX5_toRead_X5_numberOf : GoodIn wsX5_toRead (va_wsS RX5 63 yX5_numberOf wsX5_numberOf) := goodIn_app (goodIn_of _ (by decide +kernel)) ggX5_toRead_X5_numberOf
set_option maxRecDepth 20000 in
theorem ggX5_toRead_X3_stepsAhead : GoodIn wsX5_toRead wsX3_stepsAhead := goodIn_r _ [24, 25, 26, 4, 27, 15, 16, 37, 38, 39] (by decide +kernel) (by decide +kernel)
set_option maxRecDepth 20000 in
theorem gX5_toRead_X3_stepsAhead : GoodIn wsX5_toRead (wsV RX5 116 RX3 yX3_stepsAhead wsX3_stepsAhead) := goodIn_app (goodIn_of _ (by decide +kernel)) ggX5_toRead_X3_stepsAhead
theorem dX5_toRead_0 : decode cX5_toRead 0 = .ok (.iload_n 1, 1) := by decide +kernel
theorem dX5_toRead_1 : decode cX5_toRead 1 = .ok (.iload_n 2, 1) := by decide +kernel
theorem dX5_toRead_2 : decode cX5_toRead 2 = .ok (.invokestatic 59, 3) := by decide +kernel
theorem dX5_toRead_5 : decode cX5_toRead 5 = .ok (.iload_n 3, 1) := by decide +kernel
theorem dX5_toRead_6 : decode cX5_toRead 6 = .ok (.invokestatic 96, 3) := by decide +kernel
theorem dX5_toRead_9 : decode cX5_toRead 9 = .ok (.aload_n 0, 1) := by decide +kernel
theorem dX5_toRead_10 : decode cX5_toRead 10 = .ok (.getfield 10, 3) := by decide +kernel
theorem dX5_toRead_13 : decode cX5_toRead 13 = .ok (.iload_n 1, 1) := by decide +kernel
theorem dX5_toRead_14 : decode cX5_toRead 14 = .ok (.iload_n 2, 1) := by decide +kernel
theorem dX5_toRead_15 : decode cX5_toRead 15 = .ok (.invokestatic 63, 3) := by decide +kernel
theorem dX5_toRead_18 : decode cX5_toRead 18 = .ok (.iload_n 3, 1) := by decide +kernel
theorem dX5_toRead_19 : decode cX5_toRead 19 = .ok (.invokevirtual 116, 3) := by decide +kernel
theorem dX5_toRead_22 : decode cX5_toRead 22 = .ok (.ireturn, 1) := by decide +kernel
set_option maxRecDepth 20000 in
theorem ggX5_samples_X5_checkSpread : GoodIn wsX5_samples wsX5_checkSpread := goodIn_ca (goodIn_r _ [6, 7, 8, 9, 16, 17, 18, 19, 20, 21, 22, 23, 24] (by decide +kernel) (by decide +kernel)) (goodIn_sub (fun _ h => List.mem_cons_of_mem _ (List.mem_append_right _ h)) (by decide +kernel))
set_option maxRecDepth 20000 in
theorem gX5_samples_X5_checkSpread : GoodIn wsX5_samples (wsV RX5 119 RX5 yX5_checkSpread wsX5_checkSpread) := goodIn_app (goodIn_of _ (by decide +kernel)) ggX5_samples_X5_checkSpread
set_option maxRecDepth 20000 in
theorem ggX5_samples_X4_size : GoodIn wsX5_samples wsX4_size := goodIn_r _ [14, 15, 25, 26, 27, 28, 29, 30, 31, 32, 33, 34, 35] (by decide +kernel) (by decide +kernel)
set_option maxRecDepth 20000 in
theorem gX5_samples_X4_size : GoodIn wsX5_samples (wsV RX5 122 RX4 yX4_size wsX4_size) := goodIn_app (goodIn_of _ (by decide +kernel)) ggX5_samples_X4_size
theorem dX5_samples_0 : decode cX5_samples 0 = .ok (.aload_n 0, 1) := by decide +kernel
theorem dX5_samples_1 : decode cX5_samples 1 = .ok (.invokevirtual 119, 3) := by decide +kernel
theorem dX5_samples_4 : decode cX5_samples 4 = .ok (.aload_n 0, 1) := by decide +kernel
theorem dX5_samples_5 : decode cX5_samples 5 = .ok (.getfield 28, 3) := by decide +kernel
theorem dX5_samples_8 : decode cX5_samples 8 = .ok (.invokevirtual 122, 3) := by decide +kernel
theorem dX5_samples_11 : decode cX5_samples 11 = .ok (.ireturn, 1) := by decide +kernel
set_option maxRecDepth 20000 in
theorem ggX5_sample_X4_size : GoodIn wsX5_sample wsX4_size := goodIn_r _ [8, 9, 24, 25, 26, 27, 28, 29, 30, 31, 32, 33, 34] (by decide +kernel) (by decide +kernel)
set_option maxRecDepth 20000 in
theorem gX5_sample_X4_size : GoodIn wsX5_sample (wsV RX5 122 RX4 yX4_size wsX4_size) := goodIn_app (goodIn_of _ (by decide +kernel)) ggX5_sample_X4_size
set_option maxRecDepth 20000 in
theorem ggX5_sample_X4_cellOf : GoodIn wsX5_sample wsX4_cellOf := goodIn_r _ [13, 14, 24, 25, 26, 27, 28, 29, 30, 31, 32, 33, 34] (by decide +kernel) (by decide +kernel)
set_option maxRecDepth 20000 in
theorem gX5_sample_X4_cellOf : GoodIn wsX5_sample (wsV RX5 128 RX4 yX4_cellOf wsX4_cellOf) := goodIn_app (goodIn_of _ (by decide +kernel)) ggX5_sample_X4_cellOf
theorem dX5_sample_0 : decode cX5_sample 0 = .ok (.iload_n 1, 1) := by decide +kernel
theorem dX5_sample_1 : decode cX5_sample 1 = .ok (.ifCond .lt 14, 3) := by decide +kernel
theorem dX5_sample_4 : decode cX5_sample 4 = .ok (.iload_n 1, 1) := by decide +kernel
theorem dX5_sample_5 : decode cX5_sample 5 = .ok (.aload_n 0, 1) := by decide +kernel
theorem dX5_sample_6 : decode cX5_sample 6 = .ok (.getfield 28, 3) := by decide +kernel
theorem dX5_sample_9 : decode cX5_sample 9 = .ok (.invokevirtual 122, 3) := by decide +kernel
theorem dX5_sample_12 : decode cX5_sample 12 = .ok (.if_icmp .lt 11, 3) := by decide +kernel
theorem dX5_sample_15 : decode cX5_sample 15 = .ok (.new 125, 3) := by decide +kernel
theorem dX5_sample_18 : decode cX5_sample 18 = .ok (.dup, 1) := by decide +kernel
theorem dX5_sample_19 : decode cX5_sample 19 = .ok (.invokespecial 127, 3) := by decide +kernel
theorem dX5_sample_22 : decode cX5_sample 22 = .ok (.athrow, 1) := by decide +kernel
theorem dX5_sample_23 : decode cX5_sample 23 = .ok (.aload_n 0, 1) := by decide +kernel
theorem dX5_sample_24 : decode cX5_sample 24 = .ok (.getfield 28, 3) := by decide +kernel
theorem dX5_sample_27 : decode cX5_sample 27 = .ok (.iload_n 1, 1) := by decide +kernel
theorem dX5_sample_28 : decode cX5_sample 28 = .ok (.invokevirtual 128, 3) := by decide +kernel
theorem dX5_sample_31 : decode cX5_sample 31 = .ok (.ireturn, 1) := by decide +kernel
set_option maxRecDepth 20000 in
theorem ggX5_count_X5_checkCell : GoodIn wsX5_count wsX5_checkCell := goodIn_ca (goodIn_r _ [5, 6, 7, 8, 9, 4, 10] (by decide +kernel) (by decide +kernel)) (goodIn_sub (fun _ h => List.mem_cons_of_mem _ (List.mem_append_left _ (List.mem_append_right _ h))) (by decide +kernel))
set_option maxRecDepth 20000 in
theorem gX5_count_X5_checkCell : GoodIn wsX5_count (va_wsS RX5 59 yX5_checkCell wsX5_checkCell) := goodIn_app (goodIn_of _ (by decide +kernel)) ggX5_count_X5_checkCell
set_option maxRecDepth 20000 in
theorem ggX5_count_X5_checkSpread : GoodIn wsX5_count wsX5_checkSpread := goodIn_ca (goodIn_r _ [14, 15, 16, 17, 45, 46, 47, 48, 49, 50, 51, 52, 53] (by decide +kernel) (by decide +kernel)) (goodIn_sub (fun _ h => List.mem_cons_of_mem _ (List.mem_append_right _ h)) (by decide +kernel))
set_option maxRecDepth 20000 in
theorem gX5_count_X5_checkSpread : GoodIn wsX5_count (wsV RX5 119 RX5 yX5_checkSpread wsX5_checkSpread) := goodIn_app (goodIn_of _ (by decide +kernel)) ggX5_count_X5_checkSpread
set_option maxRecDepth 20000 in
theorem ggX5_count_X4_chart : GoodIn wsX5_count wsX4_chart := goodIn_r _ [22, 23, 24, 25, 26, 27, 28, 29, 30, 31, 32, 33, 34, 35, 36, 4, 37, 54, 55, 56, 57, 58, 59, 60, 61, 62, 63, 64, 65] (by decide +kernel) (by decide +kernel)
set_option maxRecDepth 20000 in
theorem gX5_count_X4_chart : GoodIn wsX5_count (wsV RX5 131 RX4 yX4_chart wsX4_chart) := goodIn_app (goodIn_of _ (by decide +kernel)) ggX5_count_X4_chart
set_option maxRecDepth 20000 in
theorem ggX5_count_X5_numberOf : GoodIn wsX5_count wsX5_numberOf := goodIn_r _ [40] (by decide +kernel) (by decide +kernel)
set_option maxRecDepth 20000 in
theorem gX5_count_X5_numberOf : GoodIn wsX5_count (va_wsS RX5 63 yX5_numberOf wsX5_numberOf) := goodIn_app (goodIn_of _ (by decide +kernel)) ggX5_count_X5_numberOf
set_option maxRecDepth 20000 in
theorem ggX5_count_X2_at : GoodIn wsX5_count wsX2_at := goodIn_r _ [44, 31, 36, 4, 37, 65] (by decide +kernel) (by decide +kernel)
set_option maxRecDepth 20000 in
theorem gX5_count_X2_at : GoodIn wsX5_count (wsV RX5 135 RX2 yX2_at wsX2_at) := goodIn_app (goodIn_of _ (by decide +kernel)) ggX5_count_X2_at
theorem dX5_count_0 : decode cX5_count 0 = .ok (.iload_n 1, 1) := by decide +kernel
theorem dX5_count_1 : decode cX5_count 1 = .ok (.iload_n 2, 1) := by decide +kernel
theorem dX5_count_2 : decode cX5_count 2 = .ok (.invokestatic 59, 3) := by decide +kernel
theorem dX5_count_5 : decode cX5_count 5 = .ok (.aload_n 0, 1) := by decide +kernel
theorem dX5_count_6 : decode cX5_count 6 = .ok (.invokevirtual 119, 3) := by decide +kernel
theorem dX5_count_9 : decode cX5_count 9 = .ok (.aload_n 0, 1) := by decide +kernel
theorem dX5_count_10 : decode cX5_count 10 = .ok (.getfield 28, 3) := by decide +kernel
theorem dX5_count_13 : decode cX5_count 13 = .ok (.invokevirtual 131, 3) := by decide +kernel
theorem dX5_count_16 : decode cX5_count 16 = .ok (.iload_n 1, 1) := by decide +kernel
theorem dX5_count_17 : decode cX5_count 17 = .ok (.iload_n 2, 1) := by decide +kernel
theorem dX5_count_18 : decode cX5_count 18 = .ok (.invokestatic 63, 3) := by decide +kernel
theorem dX5_count_21 : decode cX5_count 21 = .ok (.invokevirtual 135, 3) := by decide +kernel
theorem dX5_count_24 : decode cX5_count 24 = .ok (.l2i, 1) := by decide +kernel
theorem dX5_count_25 : decode cX5_count 25 = .ok (.ireturn, 1) := by decide +kernel
set_option maxRecDepth 20000 in
theorem ggX5_belief_X5_checkCell : GoodIn wsX5_belief wsX5_checkCell := goodIn_ca (goodIn_r _ [5, 6, 7, 8, 9, 4, 10] (by decide +kernel) (by decide +kernel)) (goodIn_sub (fun _ h => List.mem_cons_of_mem _ (List.mem_append_left _ (List.mem_append_right _ h))) (by decide +kernel))
set_option maxRecDepth 20000 in
theorem gX5_belief_X5_checkCell : GoodIn wsX5_belief (va_wsS RX5 59 yX5_checkCell wsX5_checkCell) := goodIn_app (goodIn_of _ (by decide +kernel)) ggX5_belief_X5_checkCell
set_option maxRecDepth 20000 in
theorem ggX5_belief_X5_checkSpread : GoodIn wsX5_belief wsX5_checkSpread := goodIn_ca (goodIn_r _ [14, 15, 16, 17, 35, 36, 37, 38, 39, 40, 41, 42, 43] (by decide +kernel) (by decide +kernel)) (goodIn_sub (fun _ h => List.mem_cons_of_mem _ (List.mem_append_right _ h)) (by decide +kernel))
set_option maxRecDepth 20000 in
theorem gX5_belief_X5_checkSpread : GoodIn wsX5_belief (wsV RX5 119 RX5 yX5_checkSpread wsX5_checkSpread) := goodIn_app (goodIn_of _ (by decide +kernel)) ggX5_belief_X5_checkSpread
set_option maxRecDepth 20000 in
theorem ggX5_belief_X0_chart : GoodIn wsX5_belief wsX0_chart := goodIn_r _ [22, 23, 44, 45, 46] (by decide +kernel) (by decide +kernel)
set_option maxRecDepth 20000 in
theorem gX5_belief_X0_chart : GoodIn wsX5_belief (wsV RX5 141 RX0 yX0_chart wsX0_chart) := goodIn_app (goodIn_of _ (by decide +kernel)) ggX5_belief_X0_chart
set_option maxRecDepth 20000 in
theorem ggX5_belief_X5_numberOf : GoodIn wsX5_belief wsX5_numberOf := goodIn_r _ [26] (by decide +kernel) (by decide +kernel)
set_option maxRecDepth 20000 in
theorem gX5_belief_X5_numberOf : GoodIn wsX5_belief (va_wsS RX5 63 yX5_numberOf wsX5_numberOf) := goodIn_app (goodIn_of _ (by decide +kernel)) ggX5_belief_X5_numberOf
set_option maxRecDepth 20000 in
theorem ggX5_belief_X2_at : GoodIn wsX5_belief wsX2_at := goodIn_r _ [31, 32, 33, 4, 34, 47] (by decide +kernel) (by decide +kernel)
set_option maxRecDepth 20000 in
theorem gX5_belief_X2_at : GoodIn wsX5_belief (wsV RX5 135 RX2 yX2_at wsX2_at) := goodIn_app (goodIn_of _ (by decide +kernel)) ggX5_belief_X2_at
theorem dX5_belief_0 : decode cX5_belief 0 = .ok (.iload_n 1, 1) := by decide +kernel
theorem dX5_belief_1 : decode cX5_belief 1 = .ok (.iload_n 2, 1) := by decide +kernel
theorem dX5_belief_2 : decode cX5_belief 2 = .ok (.invokestatic 59, 3) := by decide +kernel
theorem dX5_belief_5 : decode cX5_belief 5 = .ok (.aload_n 0, 1) := by decide +kernel
theorem dX5_belief_6 : decode cX5_belief 6 = .ok (.invokevirtual 119, 3) := by decide +kernel
theorem dX5_belief_9 : decode cX5_belief 9 = .ok (.aload_n 0, 1) := by decide +kernel
theorem dX5_belief_10 : decode cX5_belief 10 = .ok (.getfield 37, 3) := by decide +kernel
theorem dX5_belief_13 : decode cX5_belief 13 = .ok (.invokevirtual 141, 3) := by decide +kernel
theorem dX5_belief_16 : decode cX5_belief 16 = .ok (.iload_n 1, 1) := by decide +kernel
theorem dX5_belief_17 : decode cX5_belief 17 = .ok (.iload_n 2, 1) := by decide +kernel
theorem dX5_belief_18 : decode cX5_belief 18 = .ok (.invokestatic 63, 3) := by decide +kernel
theorem dX5_belief_21 : decode cX5_belief 21 = .ok (.invokevirtual 135, 3) := by decide +kernel
theorem dX5_belief_24 : decode cX5_belief 24 = .ok (.lreturn, 1) := by decide +kernel
set_option maxRecDepth 20000 in
theorem ggX5_beliefAnew_X5_checkCell : GoodIn wsX5_beliefAnew wsX5_checkCell := goodIn_ca (goodIn_r _ [5, 6, 7, 8, 9, 4, 10] (by decide +kernel) (by decide +kernel)) (goodIn_sub (fun _ h => List.mem_cons_of_mem _ (List.mem_append_left _ (List.mem_append_right _ h))) (by decide +kernel))
set_option maxRecDepth 20000 in
theorem gX5_beliefAnew_X5_checkCell : GoodIn wsX5_beliefAnew (va_wsS RX5 59 yX5_checkCell wsX5_checkCell) := goodIn_app (goodIn_of _ (by decide +kernel)) ggX5_beliefAnew_X5_checkCell
set_option maxRecDepth 20000 in
theorem ggX5_beliefAnew_X5_checkSpread : GoodIn wsX5_beliefAnew wsX5_checkSpread := goodIn_ca (goodIn_r _ [14, 15, 16, 17, 127, 128, 129, 130, 131, 132, 133, 134, 135] (by decide +kernel) (by decide +kernel)) (goodIn_sub (fun _ h => List.mem_cons_of_mem _ (List.mem_append_right _ h)) (by decide +kernel))
set_option maxRecDepth 20000 in
theorem gX5_beliefAnew_X5_checkSpread : GoodIn wsX5_beliefAnew (wsV RX5 119 RX5 yX5_checkSpread wsX5_checkSpread) := goodIn_app (goodIn_of _ (by decide +kernel)) ggX5_beliefAnew_X5_checkSpread
set_option maxRecDepth 20000 in
theorem ggX5_beliefAnew_X5_repeatAllTold : GoodIn wsX5_beliefAnew wsX5_repeatAllTold := goodIn_r _ [21, 1, 22, 23, 24, 25, 26, 27, 28, 29, 30, 31, 32, 33, 34, 35, 36, 37, 38, 4, 39, 40, 41, 42, 43, 44, 45, 46, 47, 48, 49, 50, 51, 52, 53, 54, 55, 56, 57, 58, 59, 60, 61, 62, 63, 64, 65, 66, 67, 68, 69, 70, 71, 72, 73, 74, 75, 9, 10, 76, 77, 78, 79, 80, 81, 82, 83, 84, 85, 86, 87, 88, 89, 90, 91, 92, 93, 94, 95, 96, 97, 98, 99, 100, 101, 102, 103, 104, 105, 106, 107, 108, 109, 110, 111, 112, 113, 114, 115, 116, 117, 118, 119, 120, 127, 128, 129, 130, 131, 132, 133, 134, 135, 136, 137, 138, 139, 140, 141, 142] (by decide +kernel) (by decide +kernel)
set_option maxRecDepth 20000 in
theorem gX5_beliefAnew_X5_repeatAllTold : GoodIn wsX5_beliefAnew (wsV RX5 142 RX5 yX5_repeatAllTold wsX5_repeatAllTold) := goodIn_app (goodIn_of _ (by decide +kernel)) ggX5_beliefAnew_X5_repeatAllTold
set_option maxRecDepth 20000 in
theorem ggX5_beliefAnew_X0_chart : GoodIn wsX5_beliefAnew wsX0_chart := goodIn_r _ [124, 30, 136, 137, 138] (by decide +kernel) (by decide +kernel)
set_option maxRecDepth 20000 in
theorem gX5_beliefAnew_X0_chart : GoodIn wsX5_beliefAnew (wsV RX5 141 RX0 yX0_chart wsX0_chart) := goodIn_app (goodIn_of _ (by decide +kernel)) ggX5_beliefAnew_X0_chart
set_option maxRecDepth 20000 in
theorem ggX5_beliefAnew_X5_numberOf : GoodIn wsX5_beliefAnew wsX5_numberOf := goodIn_r _ [77] (by decide +kernel) (by decide +kernel)
set_option maxRecDepth 20000 in
theorem gX5_beliefAnew_X5_numberOf : GoodIn wsX5_beliefAnew (va_wsS RX5 63 yX5_numberOf wsX5_numberOf) := goodIn_app (goodIn_of _ (by decide +kernel)) ggX5_beliefAnew_X5_numberOf
set_option maxRecDepth 20000 in
theorem ggX5_beliefAnew_X2_at : GoodIn wsX5_beliefAnew wsX2_at := goodIn_r _ [68, 45, 38, 4, 39, 142] (by decide +kernel) (by decide +kernel)
set_option maxRecDepth 20000 in
theorem gX5_beliefAnew_X2_at : GoodIn wsX5_beliefAnew (wsV RX5 135 RX2 yX2_at wsX2_at) := goodIn_app (goodIn_of _ (by decide +kernel)) ggX5_beliefAnew_X2_at
theorem dX5_beliefAnew_0 : decode cX5_beliefAnew 0 = .ok (.iload_n 1, 1) := by decide +kernel
theorem dX5_beliefAnew_1 : decode cX5_beliefAnew 1 = .ok (.iload_n 2, 1) := by decide +kernel
theorem dX5_beliefAnew_2 : decode cX5_beliefAnew 2 = .ok (.invokestatic 59, 3) := by decide +kernel
theorem dX5_beliefAnew_5 : decode cX5_beliefAnew 5 = .ok (.aload_n 0, 1) := by decide +kernel
theorem dX5_beliefAnew_6 : decode cX5_beliefAnew 6 = .ok (.invokevirtual 119, 3) := by decide +kernel
theorem dX5_beliefAnew_9 : decode cX5_beliefAnew 9 = .ok (.aload_n 0, 1) := by decide +kernel
theorem dX5_beliefAnew_10 : decode cX5_beliefAnew 10 = .ok (.invokevirtual 142, 3) := by decide +kernel
theorem dX5_beliefAnew_13 : decode cX5_beliefAnew 13 = .ok (.aload_n 0, 1) := by decide +kernel
theorem dX5_beliefAnew_14 : decode cX5_beliefAnew 14 = .ok (.getfield 41, 3) := by decide +kernel
theorem dX5_beliefAnew_17 : decode cX5_beliefAnew 17 = .ok (.invokevirtual 141, 3) := by decide +kernel
theorem dX5_beliefAnew_20 : decode cX5_beliefAnew 20 = .ok (.iload_n 1, 1) := by decide +kernel
theorem dX5_beliefAnew_21 : decode cX5_beliefAnew 21 = .ok (.iload_n 2, 1) := by decide +kernel
theorem dX5_beliefAnew_22 : decode cX5_beliefAnew 22 = .ok (.invokestatic 63, 3) := by decide +kernel
theorem dX5_beliefAnew_25 : decode cX5_beliefAnew 25 = .ok (.invokevirtual 135, 3) := by decide +kernel
theorem dX5_beliefAnew_28 : decode cX5_beliefAnew 28 = .ok (.lreturn, 1) := by decide +kernel
set_option maxRecDepth 20000 in
theorem ggX5_mode_X5_checkSpread : GoodIn wsX5_mode wsX5_checkSpread := goodIn_ca (goodIn_r _ [5, 6, 7, 8, 53, 54, 55, 56, 57, 58, 59, 60, 61] (by decide +kernel) (by decide +kernel)) (goodIn_sub (fun _ h => List.mem_cons_of_mem _ (List.mem_append_right _ h)) (by decide +kernel))
set_option maxRecDepth 20000 in
theorem gX5_mode_X5_checkSpread : GoodIn wsX5_mode (wsV RX5 119 RX5 yX5_checkSpread wsX5_checkSpread) := goodIn_app (goodIn_of _ (by decide +kernel)) ggX5_mode_X5_checkSpread
set_option maxRecDepth 20000 in
theorem ggX5_mode_X5_chartOf : GoodIn wsX5_mode wsX5_chartOf := goodIn_r _ [12, 13, 14, 15, 16, 17, 18, 19, 20, 21, 22, 23, 24, 25, 26, 27, 28, 29, 30, 31, 32, 33, 4, 34, 35, 36, 37, 38, 39, 40, 53, 54, 55, 56, 57, 58, 59, 60, 61, 62, 63, 64, 65, 66, 67, 68, 69, 70, 71, 72, 73, 74, 75, 76] (by decide +kernel) (by decide +kernel)
set_option maxRecDepth 20000 in
theorem gX5_mode_X5_chartOf : GoodIn wsX5_mode (wsV RX5 145 RX5 yX5_chartOf wsX5_chartOf) := goodIn_app (goodIn_of _ (by decide +kernel)) ggX5_mode_X5_chartOf
set_option maxRecDepth 20000 in
theorem ggX5_mode_X2_greatestCell : GoodIn wsX5_mode wsX2_greatestCell := goodIn_r _ [44, 28, 45, 46, 47, 26, 48, 49, 50, 51, 52, 73] (by decide +kernel) (by decide +kernel)
set_option maxRecDepth 20000 in
theorem gX5_mode_X2_greatestCell : GoodIn wsX5_mode (wsV RX5 149 RX2 yX2_greatestCell wsX2_greatestCell) := goodIn_app (goodIn_of _ (by decide +kernel)) ggX5_mode_X2_greatestCell
theorem dX5_mode_0 : decode cX5_mode 0 = .ok (.aload_n 0, 1) := by decide +kernel
theorem dX5_mode_1 : decode cX5_mode 1 = .ok (.invokevirtual 119, 3) := by decide +kernel
theorem dX5_mode_4 : decode cX5_mode 4 = .ok (.aload_n 0, 1) := by decide +kernel
theorem dX5_mode_5 : decode cX5_mode 5 = .ok (.iload_n 1, 1) := by decide +kernel
theorem dX5_mode_6 : decode cX5_mode 6 = .ok (.invokevirtual 145, 3) := by decide +kernel
theorem dX5_mode_9 : decode cX5_mode 9 = .ok (.invokevirtual 149, 3) := by decide +kernel
theorem dX5_mode_12 : decode cX5_mode 12 = .ok (.ireturn, 1) := by decide +kernel
set_option maxRecDepth 20000 in
theorem ggX5_mean_X5_checkSpread : GoodIn wsX5_mean wsX5_checkSpread := goodIn_ca (goodIn_r _ [6, 7, 8, 9, 57, 58, 59, 60, 61, 62, 63, 64, 65] (by decide +kernel) (by decide +kernel)) (goodIn_sub (fun _ h => List.mem_cons_of_mem _ (List.mem_append_right _ h)) (by decide +kernel))
set_option maxRecDepth 20000 in
theorem gX5_mean_X5_checkSpread : GoodIn wsX5_mean (wsV RX5 119 RX5 yX5_checkSpread wsX5_checkSpread) := goodIn_app (goodIn_of _ (by decide +kernel)) ggX5_mean_X5_checkSpread
set_option maxRecDepth 20000 in
theorem ggX5_mean_X5_chartOf : GoodIn wsX5_mean wsX5_chartOf := goodIn_r _ [13, 14, 15, 16, 17, 18, 19, 20, 21, 22, 23, 24, 25, 26, 27, 28, 29, 30, 31, 32, 33, 34, 5, 35, 36, 37, 38, 39, 40, 41, 57, 58, 59, 60, 61, 62, 63, 64, 65, 66, 67, 68, 69, 70, 71, 72, 73, 74, 75, 76, 77, 78, 79, 80] (by decide +kernel) (by decide +kernel)
set_option maxRecDepth 20000 in
theorem gX5_mean_X5_chartOf : GoodIn wsX5_mean (wsV RX5 145 RX5 yX5_chartOf wsX5_chartOf) := goodIn_app (goodIn_of _ (by decide +kernel)) ggX5_mean_X5_chartOf
set_option maxRecDepth 20000 in
theorem ggX5_mean_X2_coordinateSum : GoodIn wsX5_mean wsX2_coordinateSum := goodIn_r _ [45, 29, 77] (by decide +kernel) (by decide +kernel)
set_option maxRecDepth 20000 in
theorem gX5_mean_X2_coordinateSum : GoodIn wsX5_mean (wsV RX5 154 RX2 yX2_coordinateSum wsX2_coordinateSum) := goodIn_app (goodIn_of _ (by decide +kernel)) ggX5_mean_X2_coordinateSum
set_option maxRecDepth 20000 in
theorem ggX5_mean_X2_sum : GoodIn wsX5_mean wsX2_sum := goodIn_r _ [49, 50, 51, 52, 27, 53, 29, 77] (by decide +kernel) (by decide +kernel)
set_option maxRecDepth 20000 in
theorem gX5_mean_X2_sum : GoodIn wsX5_mean (wsV RX5 158 RX2 yX2_sum wsX2_sum) := goodIn_app (goodIn_of _ (by decide +kernel)) ggX5_mean_X2_sum
set_option maxRecDepth 20000 in
theorem ggX5_mean_X5_quotient : GoodIn wsX5_mean wsX5_quotient := goodIn_r _ [56] (by decide +kernel) (by decide +kernel)
set_option maxRecDepth 20000 in
theorem gX5_mean_X5_quotient : GoodIn wsX5_mean (va_wsS RX5 162 yX5_quotient wsX5_quotient) := goodIn_app (goodIn_of _ (by decide +kernel)) ggX5_mean_X5_quotient
theorem dX5_mean_0 : decode cX5_mean 0 = .ok (.aload_n 0, 1) := by decide +kernel
theorem dX5_mean_1 : decode cX5_mean 1 = .ok (.invokevirtual 119, 3) := by decide +kernel
theorem dX5_mean_4 : decode cX5_mean 4 = .ok (.aload_n 0, 1) := by decide +kernel
theorem dX5_mean_5 : decode cX5_mean 5 = .ok (.iload_n 1, 1) := by decide +kernel
theorem dX5_mean_6 : decode cX5_mean 6 = .ok (.invokevirtual 145, 3) := by decide +kernel
theorem dX5_mean_9 : decode cX5_mean 9 = .ok (.astore_n 3, 1) := by decide +kernel
theorem dX5_mean_10 : decode cX5_mean 10 = .ok (.ldc2_w 152, 3) := by decide +kernel
theorem dX5_mean_13 : decode cX5_mean 13 = .ok (.aload_n 3, 1) := by decide +kernel
theorem dX5_mean_14 : decode cX5_mean 14 = .ok (.iload_n 2, 1) := by decide +kernel
theorem dX5_mean_15 : decode cX5_mean 15 = .ok (.invokevirtual 154, 3) := by decide +kernel
theorem dX5_mean_18 : decode cX5_mean 18 = .ok (.lmul, 1) := by decide +kernel
theorem dX5_mean_19 : decode cX5_mean 19 = .ok (.aload_n 3, 1) := by decide +kernel
theorem dX5_mean_20 : decode cX5_mean 20 = .ok (.invokevirtual 158, 3) := by decide +kernel
theorem dX5_mean_23 : decode cX5_mean 23 = .ok (.invokestatic 162, 3) := by decide +kernel
theorem dX5_mean_26 : decode cX5_mean 26 = .ok (.l2i, 1) := by decide +kernel
theorem dX5_mean_27 : decode cX5_mean 27 = .ok (.ireturn, 1) := by decide +kernel
set_option maxRecDepth 20000 in
theorem ggX5_share_X5_checkCell : GoodIn wsX5_share wsX5_checkCell := goodIn_ca (goodIn_r _ [7, 8, 9, 10, 11, 6, 12] (by decide +kernel) (by decide +kernel)) (goodIn_sub (fun _ h => List.mem_cons_of_mem _ (List.mem_append_left _ (List.mem_append_right _ h))) (by decide +kernel))
set_option maxRecDepth 20000 in
theorem gX5_share_X5_checkCell : GoodIn wsX5_share (va_wsS RX5 59 yX5_checkCell wsX5_checkCell) := goodIn_app (goodIn_of _ (by decide +kernel)) ggX5_share_X5_checkCell
set_option maxRecDepth 20000 in
theorem ggX5_share_X5_checkSpread : GoodIn wsX5_share wsX5_checkSpread := goodIn_ca (goodIn_r _ [16, 17, 18, 19, 64, 65, 66, 67, 68, 69, 70, 71, 72] (by decide +kernel) (by decide +kernel)) (goodIn_sub (fun _ h => List.mem_cons_of_mem _ (List.mem_append_right _ h)) (by decide +kernel))
set_option maxRecDepth 20000 in
theorem gX5_share_X5_checkSpread : GoodIn wsX5_share (wsV RX5 119 RX5 yX5_checkSpread wsX5_checkSpread) := goodIn_app (goodIn_of _ (by decide +kernel)) ggX5_share_X5_checkSpread
set_option maxRecDepth 20000 in
theorem ggX5_share_X5_chartOf : GoodIn wsX5_share wsX5_chartOf := goodIn_r _ [23, 24, 25, 26, 27, 28, 29, 30, 31, 32, 33, 34, 35, 36, 37, 38, 39, 40, 41, 42, 43, 44, 6, 45, 46, 47, 48, 49, 50, 51, 64, 65, 66, 67, 68, 69, 70, 71, 72, 73, 74, 75, 76, 77, 78, 79, 80, 81, 82, 83, 84, 85, 86, 87] (by decide +kernel) (by decide +kernel)
set_option maxRecDepth 20000 in
theorem gX5_share_X5_chartOf : GoodIn wsX5_share (wsV RX5 145 RX5 yX5_chartOf wsX5_chartOf) := goodIn_app (goodIn_of _ (by decide +kernel)) ggX5_share_X5_chartOf
set_option maxRecDepth 20000 in
theorem ggX5_share_X2_sumOf : GoodIn wsX5_share wsX2_sumOf := goodIn_r _ [55, 39, 84] (by decide +kernel) (by decide +kernel)
set_option maxRecDepth 20000 in
theorem gX5_share_X2_sumOf : GoodIn wsX5_share (wsV RX5 168 RX2 yX2_sumOf wsX2_sumOf) := goodIn_app (goodIn_of _ (by decide +kernel)) ggX5_share_X2_sumOf
set_option maxRecDepth 20000 in
theorem ggX5_share_X2_sum : GoodIn wsX5_share wsX2_sum := goodIn_r _ [59, 60, 53, 54, 37, 55, 39, 84] (by decide +kernel) (by decide +kernel)
set_option maxRecDepth 20000 in
theorem gX5_share_X2_sum : GoodIn wsX5_share (wsV RX5 158 RX2 yX2_sum wsX2_sum) := goodIn_app (goodIn_of _ (by decide +kernel)) ggX5_share_X2_sum
set_option maxRecDepth 20000 in
theorem ggX5_share_X5_quotient : GoodIn wsX5_share wsX5_quotient := goodIn_r _ [63] (by decide +kernel) (by decide +kernel)
set_option maxRecDepth 20000 in
theorem gX5_share_X5_quotient : GoodIn wsX5_share (va_wsS RX5 162 yX5_quotient wsX5_quotient) := goodIn_app (goodIn_of _ (by decide +kernel)) ggX5_share_X5_quotient
theorem dX5_share_0 : decode cX5_share 0 = .ok (.iload_n 1, 1) := by decide +kernel
theorem dX5_share_1 : decode cX5_share 1 = .ok (.iload_n 2, 1) := by decide +kernel
theorem dX5_share_2 : decode cX5_share 2 = .ok (.invokestatic 59, 3) := by decide +kernel
theorem dX5_share_5 : decode cX5_share 5 = .ok (.iload_n 3, 1) := by decide +kernel
theorem dX5_share_6 : decode cX5_share 6 = .ok (.iload_n 1, 1) := by decide +kernel
theorem dX5_share_7 : decode cX5_share 7 = .ok (.if_icmp .lt 22, 3) := by decide +kernel
theorem dX5_share_10 : decode cX5_share 10 = .ok (.iload_n 3, 1) := by decide +kernel
theorem dX5_share_11 : decode cX5_share 11 = .ok (.bipush 8, 2) := by decide +kernel
theorem dX5_share_13 : decode cX5_share 13 = .ok (.if_icmp .ge 16, 3) := by decide +kernel
theorem dX5_share_16 : decode cX5_share 16 = .ok (.iload 4, 2) := by decide +kernel
theorem dX5_share_18 : decode cX5_share 18 = .ok (.iload_n 2, 1) := by decide +kernel
theorem dX5_share_19 : decode cX5_share 19 = .ok (.if_icmp .lt 10, 3) := by decide +kernel
theorem dX5_share_22 : decode cX5_share 22 = .ok (.iload 4, 2) := by decide +kernel
theorem dX5_share_24 : decode cX5_share 24 = .ok (.bipush 8, 2) := by decide +kernel
theorem dX5_share_26 : decode cX5_share 26 = .ok (.if_icmp .lt 11, 3) := by decide +kernel
theorem dX5_share_29 : decode cX5_share 29 = .ok (.new 83, 3) := by decide +kernel
theorem dX5_share_32 : decode cX5_share 32 = .ok (.dup, 1) := by decide +kernel
theorem dX5_share_33 : decode cX5_share 33 = .ok (.invokespecial 85, 3) := by decide +kernel
theorem dX5_share_36 : decode cX5_share 36 = .ok (.athrow, 1) := by decide +kernel
theorem dX5_share_37 : decode cX5_share 37 = .ok (.aload_n 0, 1) := by decide +kernel
theorem dX5_share_38 : decode cX5_share 38 = .ok (.invokevirtual 119, 3) := by decide +kernel
theorem dX5_share_41 : decode cX5_share 41 = .ok (.aload_n 0, 1) := by decide +kernel
theorem dX5_share_42 : decode cX5_share 42 = .ok (.iload 5, 2) := by decide +kernel
theorem dX5_share_44 : decode cX5_share 44 = .ok (.invokevirtual 145, 3) := by decide +kernel
theorem dX5_share_47 : decode cX5_share 47 = .ok (.astore 6, 2) := by decide +kernel
theorem dX5_share_49 : decode cX5_share 49 = .ok (.ldc2_w 166, 3) := by decide +kernel
theorem dX5_share_52 : decode cX5_share 52 = .ok (.aload 6, 2) := by decide +kernel
theorem dX5_share_54 : decode cX5_share 54 = .ok (.iload_n 1, 1) := by decide +kernel
theorem dX5_share_55 : decode cX5_share 55 = .ok (.iload_n 2, 1) := by decide +kernel
theorem dX5_share_56 : decode cX5_share 56 = .ok (.iload_n 3, 1) := by decide +kernel
theorem dX5_share_57 : decode cX5_share 57 = .ok (.iload 4, 2) := by decide +kernel
theorem dX5_share_59 : decode cX5_share 59 = .ok (.invokevirtual 168, 3) := by decide +kernel
theorem dX5_share_62 : decode cX5_share 62 = .ok (.lmul, 1) := by decide +kernel
theorem dX5_share_63 : decode cX5_share 63 = .ok (.aload 6, 2) := by decide +kernel
theorem dX5_share_65 : decode cX5_share 65 = .ok (.invokevirtual 158, 3) := by decide +kernel
theorem dX5_share_68 : decode cX5_share 68 = .ok (.invokestatic 162, 3) := by decide +kernel
theorem dX5_share_71 : decode cX5_share 71 = .ok (.l2i, 1) := by decide +kernel
theorem dX5_share_72 : decode cX5_share 72 = .ok (.ireturn, 1) := by decide +kernel
set_option maxRecDepth 20000 in
theorem ggX5_best_X5_checkSpread : GoodIn wsX5_best wsX5_checkSpread := goodIn_ca (goodIn_r _ [8, 9, 10, 11, 34, 35, 36, 37, 38, 39, 40, 41, 42] (by decide +kernel) (by decide +kernel)) (goodIn_sub (fun _ h => List.mem_cons_of_mem _ (List.mem_append_right _ h)) (by decide +kernel))
set_option maxRecDepth 20000 in
theorem gX5_best_X5_checkSpread : GoodIn wsX5_best (wsV RX5 119 RX5 yX5_checkSpread wsX5_checkSpread) := goodIn_app (goodIn_of _ (by decide +kernel)) ggX5_best_X5_checkSpread
set_option maxRecDepth 20000 in
theorem ggX5_best_X0_chart : GoodIn wsX5_best wsX0_chart := goodIn_r _ [16, 17, 43, 44, 45] (by decide +kernel) (by decide +kernel)
set_option maxRecDepth 20000 in
theorem gX5_best_X0_chart : GoodIn wsX5_best (wsV RX5 141 RX0 yX0_chart wsX0_chart) := goodIn_app (goodIn_of _ (by decide +kernel)) ggX5_best_X0_chart
set_option maxRecDepth 20000 in
theorem ggX5_best_X2_cellAtPlace : GoodIn wsX5_best wsX2_cellAtPlace := goodIn_r _ [22, 23, 24, 25, 26, 21, 27, 28, 29, 30, 31, 32, 7, 33, 46] (by decide +kernel) (by decide +kernel)
set_option maxRecDepth 20000 in
theorem gX5_best_X2_cellAtPlace : GoodIn wsX5_best (wsV RX5 172 RX2 yX2_cellAtPlace wsX2_cellAtPlace) := goodIn_app (goodIn_of _ (by decide +kernel)) ggX5_best_X2_cellAtPlace
theorem dX5_best_0 : decode cX5_best 0 = .ok (.iload_n 1, 1) := by decide +kernel
theorem dX5_best_1 : decode cX5_best 1 = .ok (.ifCond .ge 11, 3) := by decide +kernel
theorem dX5_best_4 : decode cX5_best 4 = .ok (.new 125, 3) := by decide +kernel
theorem dX5_best_7 : decode cX5_best 7 = .ok (.dup, 1) := by decide +kernel
theorem dX5_best_8 : decode cX5_best 8 = .ok (.invokespecial 127, 3) := by decide +kernel
theorem dX5_best_11 : decode cX5_best 11 = .ok (.athrow, 1) := by decide +kernel
theorem dX5_best_12 : decode cX5_best 12 = .ok (.aload_n 0, 1) := by decide +kernel
theorem dX5_best_13 : decode cX5_best 13 = .ok (.invokevirtual 119, 3) := by decide +kernel
theorem dX5_best_16 : decode cX5_best 16 = .ok (.aload_n 0, 1) := by decide +kernel
theorem dX5_best_17 : decode cX5_best 17 = .ok (.getfield 37, 3) := by decide +kernel
theorem dX5_best_20 : decode cX5_best 20 = .ok (.invokevirtual 141, 3) := by decide +kernel
theorem dX5_best_23 : decode cX5_best 23 = .ok (.iload_n 1, 1) := by decide +kernel
theorem dX5_best_24 : decode cX5_best 24 = .ok (.invokevirtual 172, 3) := by decide +kernel
theorem dX5_best_27 : decode cX5_best 27 = .ok (.ireturn, 1) := by decide +kernel
set_option maxRecDepth 20000 in
theorem ggX5_doubt_X5_checkSpread : GoodIn wsX5_doubt wsX5_checkSpread := goodIn_ca (goodIn_r _ [6, 7, 8, 9, 16, 17, 18, 19, 20, 21, 22, 23, 24] (by decide +kernel) (by decide +kernel)) (goodIn_sub (fun _ h => List.mem_cons_of_mem _ (List.mem_append_right _ h)) (by decide +kernel))
set_option maxRecDepth 20000 in
theorem gX5_doubt_X5_checkSpread : GoodIn wsX5_doubt (wsV RX5 119 RX5 yX5_checkSpread wsX5_checkSpread) := goodIn_app (goodIn_of _ (by decide +kernel)) ggX5_doubt_X5_checkSpread
set_option maxRecDepth 20000 in
theorem ggX5_doubt_X4_lastDoubt : GoodIn wsX5_doubt wsX4_lastDoubt := goodIn_r _ [14, 15, 25, 26, 27, 28, 29, 30, 31, 32, 33, 34, 35] (by decide +kernel) (by decide +kernel)
set_option maxRecDepth 20000 in
theorem gX5_doubt_X4_lastDoubt : GoodIn wsX5_doubt (wsV RX5 175 RX4 yX4_lastDoubt wsX4_lastDoubt) := goodIn_app (goodIn_of _ (by decide +kernel)) ggX5_doubt_X4_lastDoubt
theorem dX5_doubt_0 : decode cX5_doubt 0 = .ok (.aload_n 0, 1) := by decide +kernel
theorem dX5_doubt_1 : decode cX5_doubt 1 = .ok (.invokevirtual 119, 3) := by decide +kernel
theorem dX5_doubt_4 : decode cX5_doubt 4 = .ok (.aload_n 0, 1) := by decide +kernel
theorem dX5_doubt_5 : decode cX5_doubt 5 = .ok (.getfield 28, 3) := by decide +kernel
theorem dX5_doubt_8 : decode cX5_doubt 8 = .ok (.invokevirtual 175, 3) := by decide +kernel
theorem dX5_doubt_11 : decode cX5_doubt 11 = .ok (.ireturn, 1) := by decide +kernel
set_option maxRecDepth 20000 in
theorem ggX5_checkCell_X5_isInField : GoodIn wsX5_checkCell wsX5_isInField := goodIn_r _ [6] (by decide +kernel) (by decide +kernel)
set_option maxRecDepth 20000 in
theorem gX5_checkCell_X5_isInField : GoodIn wsX5_checkCell (va_wsS RX5 178 yX5_isInField wsX5_isInField) := goodIn_app (goodIn_of _ (by decide +kernel)) ggX5_checkCell_X5_isInField
theorem dX5_checkCell_0 : decode cX5_checkCell 0 = .ok (.iload_n 0, 1) := by decide +kernel
theorem dX5_checkCell_1 : decode cX5_checkCell 1 = .ok (.iload_n 1, 1) := by decide +kernel
theorem dX5_checkCell_2 : decode cX5_checkCell 2 = .ok (.invokestatic 178, 3) := by decide +kernel
theorem dX5_checkCell_5 : decode cX5_checkCell 5 = .ok (.ifCond .ne 11, 3) := by decide +kernel
theorem dX5_checkCell_8 : decode cX5_checkCell 8 = .ok (.new 125, 3) := by decide +kernel
theorem dX5_checkCell_11 : decode cX5_checkCell 11 = .ok (.dup, 1) := by decide +kernel
theorem dX5_checkCell_12 : decode cX5_checkCell 12 = .ok (.invokespecial 127, 3) := by decide +kernel
theorem dX5_checkCell_15 : decode cX5_checkCell 15 = .ok (.athrow, 1) := by decide +kernel
theorem dX5_checkCell_16 : decode cX5_checkCell 16 = .ok (.return_, 1) := by decide +kernel
set_option maxRecDepth 20000 in
theorem ggX5_checkDirection_X5_isDirection : GoodIn wsX5_checkDirection wsX5_isDirection := goodIn_r _ [6] (by decide +kernel) (by decide +kernel)
set_option maxRecDepth 20000 in
theorem gX5_checkDirection_X5_isDirection : GoodIn wsX5_checkDirection (va_wsS RX5 182 yX5_isDirection wsX5_isDirection) := goodIn_app (goodIn_of _ (by decide +kernel)) ggX5_checkDirection_X5_isDirection
theorem dX5_checkDirection_0 : decode cX5_checkDirection 0 = .ok (.iload_n 0, 1) := by decide +kernel
theorem dX5_checkDirection_1 : decode cX5_checkDirection 1 = .ok (.invokestatic 182, 3) := by decide +kernel
theorem dX5_checkDirection_4 : decode cX5_checkDirection 4 = .ok (.ifCond .ne 11, 3) := by decide +kernel
theorem dX5_checkDirection_7 : decode cX5_checkDirection 7 = .ok (.new 125, 3) := by decide +kernel
theorem dX5_checkDirection_10 : decode cX5_checkDirection 10 = .ok (.dup, 1) := by decide +kernel
theorem dX5_checkDirection_11 : decode cX5_checkDirection 11 = .ok (.invokespecial 127, 3) := by decide +kernel
theorem dX5_checkDirection_14 : decode cX5_checkDirection 14 = .ok (.athrow, 1) := by decide +kernel
theorem dX5_checkDirection_15 : decode cX5_checkDirection 15 = .ok (.return_, 1) := by decide +kernel
theorem dX5_checkSpread_0 : decode cX5_checkSpread 0 = .ok (.aload_n 0, 1) := by decide +kernel
theorem dX5_checkSpread_1 : decode cX5_checkSpread 1 = .ok (.getfield 55, 3) := by decide +kernel
theorem dX5_checkSpread_4 : decode cX5_checkSpread 4 = .ok (.ifCond .ne 11, 3) := by decide +kernel
theorem dX5_checkSpread_7 : decode cX5_checkSpread 7 = .ok (.new 75, 3) := by decide +kernel
theorem dX5_checkSpread_10 : decode cX5_checkSpread 10 = .ok (.dup, 1) := by decide +kernel
theorem dX5_checkSpread_11 : decode cX5_checkSpread 11 = .ok (.invokespecial 77, 3) := by decide +kernel
theorem dX5_checkSpread_14 : decode cX5_checkSpread 14 = .ok (.athrow, 1) := by decide +kernel
theorem dX5_checkSpread_15 : decode cX5_checkSpread 15 = .ok (.return_, 1) := by decide +kernel
theorem dX5_checkMayTell_0 : decode cX5_checkMayTell 0 = .ok (.aload_n 0, 1) := by decide +kernel
theorem dX5_checkMayTell_1 : decode cX5_checkMayTell 1 = .ok (.getfield 55, 3) := by decide +kernel
theorem dX5_checkMayTell_4 : decode cX5_checkMayTell 4 = .ok (.ifCond .eq 13, 3) := by decide +kernel
theorem dX5_checkMayTell_7 : decode cX5_checkMayTell 7 = .ok (.aload_n 0, 1) := by decide +kernel
theorem dX5_checkMayTell_8 : decode cX5_checkMayTell 8 = .ok (.getfield 51, 3) := by decide +kernel
theorem dX5_checkMayTell_11 : decode cX5_checkMayTell 11 = .ok (.sipush 300, 3) := by decide +kernel
theorem dX5_checkMayTell_14 : decode cX5_checkMayTell 14 = .ok (.if_icmp .lt 11, 3) := by decide +kernel
theorem dX5_checkMayTell_17 : decode cX5_checkMayTell 17 = .ok (.new 75, 3) := by decide +kernel
theorem dX5_checkMayTell_20 : decode cX5_checkMayTell 20 = .ok (.dup, 1) := by decide +kernel
theorem dX5_checkMayTell_21 : decode cX5_checkMayTell 21 = .ok (.invokespecial 77, 3) := by decide +kernel
theorem dX5_checkMayTell_24 : decode cX5_checkMayTell 24 = .ok (.athrow, 1) := by decide +kernel
theorem dX5_checkMayTell_25 : decode cX5_checkMayTell 25 = .ok (.return_, 1) := by decide +kernel
theorem dX5_keep_0 : decode cX5_keep 0 = .ok (.aload_n 0, 1) := by decide +kernel
theorem dX5_keep_1 : decode cX5_keep 1 = .ok (.getfield 51, 3) := by decide +kernel
theorem dX5_keep_4 : decode cX5_keep 4 = .ok (.ifCond .lt 43, 3) := by decide +kernel
theorem dX5_keep_7 : decode cX5_keep 7 = .ok (.aload_n 0, 1) := by decide +kernel
theorem dX5_keep_8 : decode cX5_keep 8 = .ok (.getfield 51, 3) := by decide +kernel
theorem dX5_keep_11 : decode cX5_keep 11 = .ok (.sipush 300, 3) := by decide +kernel
theorem dX5_keep_14 : decode cX5_keep 14 = .ok (.if_icmp .ge 33, 3) := by decide +kernel
theorem dX5_keep_17 : decode cX5_keep 17 = .ok (.aload_n 0, 1) := by decide +kernel
theorem dX5_keep_18 : decode cX5_keep 18 = .ok (.getfield 44, 3) := by decide +kernel
theorem dX5_keep_21 : decode cX5_keep 21 = .ok (.aload_n 0, 1) := by decide +kernel
theorem dX5_keep_22 : decode cX5_keep 22 = .ok (.getfield 51, 3) := by decide +kernel
theorem dX5_keep_25 : decode cX5_keep 25 = .ok (.iload_n 1, 1) := by decide +kernel
theorem dX5_keep_26 : decode cX5_keep 26 = .ok (.iastore, 1) := by decide +kernel
theorem dX5_keep_27 : decode cX5_keep 27 = .ok (.aload_n 0, 1) := by decide +kernel
theorem dX5_keep_28 : decode cX5_keep 28 = .ok (.getfield 48, 3) := by decide +kernel
theorem dX5_keep_31 : decode cX5_keep 31 = .ok (.aload_n 0, 1) := by decide +kernel
theorem dX5_keep_32 : decode cX5_keep 32 = .ok (.getfield 51, 3) := by decide +kernel
theorem dX5_keep_35 : decode cX5_keep 35 = .ok (.iload_n 2, 1) := by decide +kernel
theorem dX5_keep_36 : decode cX5_keep 36 = .ok (.iastore, 1) := by decide +kernel
theorem dX5_keep_37 : decode cX5_keep 37 = .ok (.aload_n 0, 1) := by decide +kernel
theorem dX5_keep_38 : decode cX5_keep 38 = .ok (.dup, 1) := by decide +kernel
theorem dX5_keep_39 : decode cX5_keep 39 = .ok (.getfield 51, 3) := by decide +kernel
theorem dX5_keep_42 : decode cX5_keep 42 = .ok (.iconst 1, 1) := by decide +kernel
theorem dX5_keep_43 : decode cX5_keep 43 = .ok (.iadd, 1) := by decide +kernel
theorem dX5_keep_44 : decode cX5_keep 44 = .ok (.putfield 51, 3) := by decide +kernel
theorem dX5_keep_47 : decode cX5_keep 47 = .ok (.return_, 1) := by decide +kernel
set_option maxRecDepth 20000 in
theorem ggX5_repeatAllTold_X0_begin : GoodIn wsX5_repeatAllTold wsX0_begin := goodIn_r _ [9, 10, 11, 12, 13, 14, 15, 16, 17, 18, 19, 20, 21, 22, 23, 24, 25, 26, 113, 114, 115, 116, 117, 118, 119] (by decide +kernel) (by decide +kernel)
set_option maxRecDepth 20000 in
theorem gX5_repeatAllTold_X0_begin : GoodIn wsX5_repeatAllTold (wsV RX5 94 RX0 yX0_begin wsX0_begin) := goodIn_app (goodIn_of _ (by decide +kernel)) ggX5_repeatAllTold_X0_begin
set_option maxRecDepth 20000 in
theorem ggX5_repeatAllTold_X0_fetch : GoodIn wsX5_repeatAllTold wsX0_fetch := goodIn_r _ [30, 31, 10, 32, 33, 34, 24, 35, 26, 36, 37, 38, 39, 40, 41, 42, 8, 43, 44, 11, 45, 46, 47, 48, 49, 18, 19, 20, 50, 51, 15, 52, 53, 54, 55, 56, 57, 58, 59, 60, 12, 13, 14, 16, 17, 61, 62, 63, 64, 65, 66, 67, 68, 69, 70, 71, 72, 73, 74, 21, 22, 23, 25, 75, 76, 77, 78, 79, 80, 81, 82, 83, 84, 85, 86, 87, 88, 89, 90, 91, 113, 114, 115, 119, 116, 117, 118] (by decide +kernel) (by decide +kernel)
set_option maxRecDepth 20000 in
theorem gX5_repeatAllTold_X0_fetch : GoodIn wsX5_repeatAllTold (wsV RX5 185 RX0 yX0_fetch wsX0_fetch) := goodIn_app (goodIn_of _ (by decide +kernel)) ggX5_repeatAllTold_X0_fetch
set_option maxRecDepth 20000 in
theorem ggX5_repeatAllTold_X0_weigh : GoodIn wsX5_repeatAllTold wsX0_weigh := goodIn_r _ [95, 10, 11, 46, 47, 48, 24, 49, 26, 18, 19, 20, 96, 97, 98, 15, 99, 100, 101, 67, 102, 69, 70, 71, 72, 73, 55, 56, 21, 22, 23, 25, 80, 81, 82, 83, 84, 85, 86, 103, 6, 7, 8, 9, 12, 13, 14, 16, 17, 75, 76, 77, 78, 79, 87, 88, 89, 90, 91, 113, 114, 115, 119, 116, 117, 118] (by decide +kernel) (by decide +kernel)
set_option maxRecDepth 20000 in
theorem gX5_repeatAllTold_X0_weigh : GoodIn wsX5_repeatAllTold (wsV RX5 114 RX0 yX0_weigh wsX0_weigh) := goodIn_app (goodIn_of _ (by decide +kernel)) ggX5_repeatAllTold_X0_weigh
theorem dX5_repeatAllTold_0 : decode cX5_repeatAllTold 0 = .ok (.aload_n 0, 1) := by decide +kernel
theorem dX5_repeatAllTold_1 : decode cX5_repeatAllTold 1 = .ok (.getfield 41, 3) := by decide +kernel
theorem dX5_repeatAllTold_4 : decode cX5_repeatAllTold 4 = .ok (.invokevirtual 94, 3) := by decide +kernel
theorem dX5_repeatAllTold_7 : decode cX5_repeatAllTold 7 = .ok (.iconst 0, 1) := by decide +kernel
theorem dX5_repeatAllTold_8 : decode cX5_repeatAllTold 8 = .ok (.istore_n 1, 1) := by decide +kernel
theorem dX5_repeatAllTold_9 : decode cX5_repeatAllTold 9 = .ok (.iload_n 1, 1) := by decide +kernel
theorem dX5_repeatAllTold_10 : decode cX5_repeatAllTold 10 = .ok (.aload_n 0, 1) := by decide +kernel
theorem dX5_repeatAllTold_11 : decode cX5_repeatAllTold 11 = .ok (.getfield 51, 3) := by decide +kernel
theorem dX5_repeatAllTold_14 : decode cX5_repeatAllTold 14 = .ok (.if_icmp .ge 61, 3) := by decide +kernel
theorem dX5_repeatAllTold_17 : decode cX5_repeatAllTold 17 = .ok (.iload_n 1, 1) := by decide +kernel
theorem dX5_repeatAllTold_18 : decode cX5_repeatAllTold 18 = .ok (.sipush 300, 3) := by decide +kernel
theorem dX5_repeatAllTold_21 : decode cX5_repeatAllTold 21 = .ok (.if_icmp .ge 54, 3) := by decide +kernel
theorem dX5_repeatAllTold_24 : decode cX5_repeatAllTold 24 = .ok (.aload_n 0, 1) := by decide +kernel
theorem dX5_repeatAllTold_25 : decode cX5_repeatAllTold 25 = .ok (.getfield 48, 3) := by decide +kernel
theorem dX5_repeatAllTold_28 : decode cX5_repeatAllTold 28 = .ok (.iload_n 1, 1) := by decide +kernel
theorem dX5_repeatAllTold_29 : decode cX5_repeatAllTold 29 = .ok (.iaload, 1) := by decide +kernel
theorem dX5_repeatAllTold_30 : decode cX5_repeatAllTold 30 = .ok (.iconst (-1), 1) := by decide +kernel
theorem dX5_repeatAllTold_31 : decode cX5_repeatAllTold 31 = .ok (.if_icmp .ne 19, 3) := by decide +kernel
theorem dX5_repeatAllTold_34 : decode cX5_repeatAllTold 34 = .ok (.aload_n 0, 1) := by decide +kernel
theorem dX5_repeatAllTold_35 : decode cX5_repeatAllTold 35 = .ok (.getfield 41, 3) := by decide +kernel
theorem dX5_repeatAllTold_38 : decode cX5_repeatAllTold 38 = .ok (.aload_n 0, 1) := by decide +kernel
theorem dX5_repeatAllTold_39 : decode cX5_repeatAllTold 39 = .ok (.getfield 44, 3) := by decide +kernel
theorem dX5_repeatAllTold_42 : decode cX5_repeatAllTold 42 = .ok (.iload_n 1, 1) := by decide +kernel
theorem dX5_repeatAllTold_43 : decode cX5_repeatAllTold 43 = .ok (.iaload, 1) := by decide +kernel
theorem dX5_repeatAllTold_44 : decode cX5_repeatAllTold 44 = .ok (.invokevirtual 185, 3) := by decide +kernel
theorem dX5_repeatAllTold_47 : decode cX5_repeatAllTold 47 = .ok (.goto 22, 3) := by decide +kernel
theorem dX5_repeatAllTold_50 : decode cX5_repeatAllTold 50 = .ok (.aload_n 0, 1) := by decide +kernel
theorem dX5_repeatAllTold_51 : decode cX5_repeatAllTold 51 = .ok (.getfield 41, 3) := by decide +kernel
theorem dX5_repeatAllTold_54 : decode cX5_repeatAllTold 54 = .ok (.aload_n 0, 1) := by decide +kernel
theorem dX5_repeatAllTold_55 : decode cX5_repeatAllTold 55 = .ok (.getfield 44, 3) := by decide +kernel
theorem dX5_repeatAllTold_58 : decode cX5_repeatAllTold 58 = .ok (.iload_n 1, 1) := by decide +kernel
theorem dX5_repeatAllTold_59 : decode cX5_repeatAllTold 59 = .ok (.iaload, 1) := by decide +kernel
theorem dX5_repeatAllTold_60 : decode cX5_repeatAllTold 60 = .ok (.aload_n 0, 1) := by decide +kernel
theorem dX5_repeatAllTold_61 : decode cX5_repeatAllTold 61 = .ok (.getfield 48, 3) := by decide +kernel
theorem dX5_repeatAllTold_64 : decode cX5_repeatAllTold 64 = .ok (.iload_n 1, 1) := by decide +kernel
theorem dX5_repeatAllTold_65 : decode cX5_repeatAllTold 65 = .ok (.iaload, 1) := by decide +kernel
theorem dX5_repeatAllTold_66 : decode cX5_repeatAllTold 66 = .ok (.invokevirtual 114, 3) := by decide +kernel
theorem dX5_repeatAllTold_69 : decode cX5_repeatAllTold 69 = .ok (.iinc 1 1, 3) := by decide +kernel
theorem dX5_repeatAllTold_72 : decode cX5_repeatAllTold 72 = .ok (.goto (-63), 3) := by decide +kernel
theorem dX5_repeatAllTold_75 : decode cX5_repeatAllTold 75 = .ok (.return_, 1) := by decide +kernel
set_option maxRecDepth 20000 in
theorem ggX5_chartOf_X4_chart : GoodIn wsX5_chartOf wsX4_chart := goodIn_r _ [7, 8, 9, 10, 11, 12, 13, 14, 15, 16, 17, 18, 19, 20, 21, 22, 23, 39, 40, 41, 42, 43, 44, 45, 46, 47, 48, 49, 50] (by decide +kernel) (by decide +kernel)
set_option maxRecDepth 20000 in
theorem gX5_chartOf_X4_chart : GoodIn wsX5_chartOf (wsV RX5 131 RX4 yX4_chart wsX4_chart) := goodIn_app (goodIn_of _ (by decide +kernel)) ggX5_chartOf_X4_chart
set_option maxRecDepth 20000 in
theorem ggX5_chartOf_X0_chart : GoodIn wsX5_chartOf wsX0_chart := goodIn_r _ [28, 29, 51, 52, 53] (by decide +kernel) (by decide +kernel)
set_option maxRecDepth 20000 in
theorem gX5_chartOf_X0_chart : GoodIn wsX5_chartOf (wsV RX5 141 RX0 yX0_chart wsX0_chart) := goodIn_app (goodIn_of _ (by decide +kernel)) ggX5_chartOf_X0_chart
theorem dX5_chartOf_0 : decode cX5_chartOf 0 = .ok (.iload_n 1, 1) := by decide +kernel
theorem dX5_chartOf_1 : decode cX5_chartOf 1 = .ok (.ifCond .eq 13, 3) := by decide +kernel
theorem dX5_chartOf_4 : decode cX5_chartOf 4 = .ok (.aload_n 0, 1) := by decide +kernel
theorem dX5_chartOf_5 : decode cX5_chartOf 5 = .ok (.getfield 28, 3) := by decide +kernel
theorem dX5_chartOf_8 : decode cX5_chartOf 8 = .ok (.invokevirtual 131, 3) := by decide +kernel
theorem dX5_chartOf_11 : decode cX5_chartOf 11 = .ok (.goto 10, 3) := by decide +kernel
theorem dX5_chartOf_14 : decode cX5_chartOf 14 = .ok (.aload_n 0, 1) := by decide +kernel
theorem dX5_chartOf_15 : decode cX5_chartOf 15 = .ok (.getfield 37, 3) := by decide +kernel
theorem dX5_chartOf_18 : decode cX5_chartOf 18 = .ok (.invokevirtual 141, 3) := by decide +kernel
theorem dX5_chartOf_21 : decode cX5_chartOf 21 = .ok (.areturn, 1) := by decide +kernel
theorem dX5_isInField_0 : decode cX5_isInField 0 = .ok (.iload_n 0, 1) := by decide +kernel
theorem dX5_isInField_1 : decode cX5_isInField 1 = .ok (.ifCond .lt 23, 3) := by decide +kernel
theorem dX5_isInField_4 : decode cX5_isInField 4 = .ok (.iload_n 0, 1) := by decide +kernel
theorem dX5_isInField_5 : decode cX5_isInField 5 = .ok (.bipush 8, 2) := by decide +kernel
theorem dX5_isInField_7 : decode cX5_isInField 7 = .ok (.if_icmp .ge 17, 3) := by decide +kernel
theorem dX5_isInField_10 : decode cX5_isInField 10 = .ok (.iload_n 1, 1) := by decide +kernel
theorem dX5_isInField_11 : decode cX5_isInField 11 = .ok (.ifCond .lt 13, 3) := by decide +kernel
theorem dX5_isInField_14 : decode cX5_isInField 14 = .ok (.iload_n 1, 1) := by decide +kernel
theorem dX5_isInField_15 : decode cX5_isInField 15 = .ok (.bipush 8, 2) := by decide +kernel
theorem dX5_isInField_17 : decode cX5_isInField 17 = .ok (.if_icmp .ge 7, 3) := by decide +kernel
theorem dX5_isInField_20 : decode cX5_isInField 20 = .ok (.iconst 1, 1) := by decide +kernel
theorem dX5_isInField_21 : decode cX5_isInField 21 = .ok (.goto 4, 3) := by decide +kernel
theorem dX5_isInField_24 : decode cX5_isInField 24 = .ok (.iconst 0, 1) := by decide +kernel
theorem dX5_isInField_25 : decode cX5_isInField 25 = .ok (.ireturn, 1) := by decide +kernel
theorem dX5_isCell_0 : decode cX5_isCell 0 = .ok (.iload_n 0, 1) := by decide +kernel
theorem dX5_isCell_1 : decode cX5_isCell 1 = .ok (.ifCond .lt 13, 3) := by decide +kernel
theorem dX5_isCell_4 : decode cX5_isCell 4 = .ok (.iload_n 0, 1) := by decide +kernel
theorem dX5_isCell_5 : decode cX5_isCell 5 = .ok (.bipush 64, 2) := by decide +kernel
theorem dX5_isCell_7 : decode cX5_isCell 7 = .ok (.if_icmp .ge 7, 3) := by decide +kernel
theorem dX5_isCell_10 : decode cX5_isCell 10 = .ok (.iconst 1, 1) := by decide +kernel
theorem dX5_isCell_11 : decode cX5_isCell 11 = .ok (.goto 4, 3) := by decide +kernel
theorem dX5_isCell_14 : decode cX5_isCell 14 = .ok (.iconst 0, 1) := by decide +kernel
theorem dX5_isCell_15 : decode cX5_isCell 15 = .ok (.ireturn, 1) := by decide +kernel
theorem dX5_isDirection_0 : decode cX5_isDirection 0 = .ok (.iload_n 0, 1) := by decide +kernel
theorem dX5_isDirection_1 : decode cX5_isDirection 1 = .ok (.ifCond .lt 12, 3) := by decide +kernel
theorem dX5_isDirection_4 : decode cX5_isDirection 4 = .ok (.iload_n 0, 1) := by decide +kernel
theorem dX5_isDirection_5 : decode cX5_isDirection 5 = .ok (.iconst 4, 1) := by decide +kernel
theorem dX5_isDirection_6 : decode cX5_isDirection 6 = .ok (.if_icmp .ge 7, 3) := by decide +kernel
theorem dX5_isDirection_9 : decode cX5_isDirection 9 = .ok (.iconst 1, 1) := by decide +kernel
theorem dX5_isDirection_10 : decode cX5_isDirection 10 = .ok (.goto 4, 3) := by decide +kernel
theorem dX5_isDirection_13 : decode cX5_isDirection 13 = .ok (.iconst 0, 1) := by decide +kernel
theorem dX5_isDirection_14 : decode cX5_isDirection 14 = .ok (.ireturn, 1) := by decide +kernel
theorem dX5_numberOf_0 : decode cX5_numberOf 0 = .ok (.bipush 8, 2) := by decide +kernel
theorem dX5_numberOf_2 : decode cX5_numberOf 2 = .ok (.iload_n 1, 1) := by decide +kernel
theorem dX5_numberOf_3 : decode cX5_numberOf 3 = .ok (.imul, 1) := by decide +kernel
theorem dX5_numberOf_4 : decode cX5_numberOf 4 = .ok (.iload_n 0, 1) := by decide +kernel
theorem dX5_numberOf_5 : decode cX5_numberOf 5 = .ok (.iadd, 1) := by decide +kernel
theorem dX5_numberOf_6 : decode cX5_numberOf 6 = .ok (.ireturn, 1) := by decide +kernel
theorem dX5_quotient_0 : decode cX5_quotient 0 = .ok (.lload_n 2, 1) := by decide +kernel
theorem dX5_quotient_1 : decode cX5_quotient 1 = .ok (.lconst 0, 1) := by decide +kernel
theorem dX5_quotient_2 : decode cX5_quotient 2 = .ok (.lcmp, 1) := by decide +kernel
theorem dX5_quotient_3 : decode cX5_quotient 3 = .ok (.ifCond .ne 7, 3) := by decide +kernel
theorem dX5_quotient_6 : decode cX5_quotient 6 = .ok (.lconst 0, 1) := by decide +kernel
theorem dX5_quotient_7 : decode cX5_quotient 7 = .ok (.goto 6, 3) := by decide +kernel
theorem dX5_quotient_10 : decode cX5_quotient 10 = .ok (.lload_n 0, 1) := by decide +kernel
theorem dX5_quotient_11 : decode cX5_quotient 11 = .ok (.lload_n 2, 1) := by decide +kernel
theorem dX5_quotient_12 : decode cX5_quotient 12 = .ok (.ldiv, 1) := by decide +kernel
theorem dX5_quotient_13 : decode cX5_quotient 13 = .ok (.lreturn, 1) := by decide +kernel
theorem dX6_init_0 : decode cX6_init 0 = .ok (.aload_n 0, 1) := by decide +kernel
theorem dX6_init_1 : decode cX6_init 1 = .ok (.invokespecial 1, 3) := by decide +kernel
theorem dX6_init_4 : decode cX6_init 4 = .ok (.aload_n 0, 1) := by decide +kernel
theorem dX6_init_5 : decode cX6_init 5 = .ok (.bipush 64, 2) := by decide +kernel
theorem dX6_init_7 : decode cX6_init 7 = .ok (.newarray .boolean, 2) := by decide +kernel
theorem dX6_init_9 : decode cX6_init 9 = .ok (.putfield 7, 3) := by decide +kernel
theorem dX6_init_12 : decode cX6_init 12 = .ok (.aload_n 0, 1) := by decide +kernel
theorem dX6_init_13 : decode cX6_init 13 = .ok (.iconst 1, 1) := by decide +kernel
theorem dX6_init_14 : decode cX6_init 14 = .ok (.putfield 13, 3) := by decide +kernel
theorem dX6_init_17 : decode cX6_init 17 = .ok (.aload_n 0, 1) := by decide +kernel
theorem dX6_init_18 : decode cX6_init 18 = .ok (.bipush 64, 2) := by decide +kernel
theorem dX6_init_20 : decode cX6_init 20 = .ok (.newarray .int, 2) := by decide +kernel
theorem dX6_init_22 : decode cX6_init 22 = .ok (.putfield 17, 3) := by decide +kernel
theorem dX6_init_25 : decode cX6_init 25 = .ok (.aload_n 0, 1) := by decide +kernel
theorem dX6_init_26 : decode cX6_init 26 = .ok (.bipush 64, 2) := by decide +kernel
theorem dX6_init_28 : decode cX6_init 28 = .ok (.newarray .int, 2) := by decide +kernel
theorem dX6_init_30 : decode cX6_init 30 = .ok (.putfield 21, 3) := by decide +kernel
theorem dX6_init_33 : decode cX6_init 33 = .ok (.aload_n 0, 1) := by decide +kernel
theorem dX6_init_34 : decode cX6_init 34 = .ok (.bipush 64, 2) := by decide +kernel
theorem dX6_init_36 : decode cX6_init 36 = .ok (.newarray .int, 2) := by decide +kernel
theorem dX6_init_38 : decode cX6_init 38 = .ok (.putfield 24, 3) := by decide +kernel
theorem dX6_init_41 : decode cX6_init 41 = .ok (.aload_n 0, 1) := by decide +kernel
theorem dX6_init_42 : decode cX6_init 42 = .ok (.bipush 64, 2) := by decide +kernel
theorem dX6_init_44 : decode cX6_init 44 = .ok (.newarray .long, 2) := by decide +kernel
theorem dX6_init_46 : decode cX6_init 46 = .ok (.putfield 27, 3) := by decide +kernel
theorem dX6_init_49 : decode cX6_init 49 = .ok (.aload_n 0, 1) := by decide +kernel
theorem dX6_init_50 : decode cX6_init 50 = .ok (.bipush 64, 2) := by decide +kernel
theorem dX6_init_52 : decode cX6_init 52 = .ok (.newarray .long, 2) := by decide +kernel
theorem dX6_init_54 : decode cX6_init 54 = .ok (.putfield 31, 3) := by decide +kernel
theorem dX6_init_57 : decode cX6_init 57 = .ok (.return_, 1) := by decide +kernel
theorem dX6_thrown_0 : decode cX6_thrown 0 = .ok (.aload_n 0, 1) := by decide +kernel
theorem dX6_thrown_1 : decode cX6_thrown 1 = .ok (.getfield 34, 3) := by decide +kernel
theorem dX6_thrown_4 : decode cX6_thrown 4 = .ok (.ireturn, 1) := by decide +kernel
theorem dX6_goesWell_0 : decode cX6_goesWell 0 = .ok (.aload_n 0, 1) := by decide +kernel
theorem dX6_goesWell_1 : decode cX6_goesWell 1 = .ok (.iload_n 1, 1) := by decide +kernel
theorem dX6_goesWell_2 : decode cX6_goesWell 2 = .ok (.putfield 34, 3) := by decide +kernel
theorem dX6_goesWell_5 : decode cX6_goesWell 5 = .ok (.iload_n 1, 1) := by decide +kernel
theorem dX6_goesWell_6 : decode cX6_goesWell 6 = .ok (.ifCond .ne 7, 3) := by decide +kernel
theorem dX6_goesWell_9 : decode cX6_goesWell 9 = .ok (.iconst 1, 1) := by decide +kernel
theorem dX6_goesWell_10 : decode cX6_goesWell 10 = .ok (.goto 4, 3) := by decide +kernel
theorem dX6_goesWell_13 : decode cX6_goesWell 13 = .ok (.iconst 0, 1) := by decide +kernel
theorem dX6_goesWell_14 : decode cX6_goesWell 14 = .ok (.ireturn, 1) := by decide +kernel
theorem dX6_in_0 : decode cX6_in 0 = .ok (.iload_n 0, 1) := by decide +kernel
theorem dX6_in_1 : decode cX6_in 1 = .ok (.iload_n 1, 1) := by decide +kernel
theorem dX6_in_2 : decode cX6_in 2 = .ok (.if_icmp .lt 12, 3) := by decide +kernel
theorem dX6_in_5 : decode cX6_in 5 = .ok (.iload_n 0, 1) := by decide +kernel
theorem dX6_in_6 : decode cX6_in 6 = .ok (.iload_n 2, 1) := by decide +kernel
theorem dX6_in_7 : decode cX6_in 7 = .ok (.if_icmp .gt 7, 3) := by decide +kernel
theorem dX6_in_10 : decode cX6_in 10 = .ok (.iconst 1, 1) := by decide +kernel
theorem dX6_in_11 : decode cX6_in 11 = .ok (.goto 4, 3) := by decide +kernel
theorem dX6_in_14 : decode cX6_in 14 = .ok (.iconst 0, 1) := by decide +kernel
theorem dX6_in_15 : decode cX6_in 15 = .ok (.ireturn, 1) := by decide +kernel
set_option maxRecDepth 20000 in
theorem ggX6_isCell_X6_in : GoodIn wsX6_isCell wsX6_in := goodIn_r _ [4] (by decide +kernel) (by decide +kernel)
set_option maxRecDepth 20000 in
theorem gX6_isCell_X6_in : GoodIn wsX6_isCell (va_wsS RX6 37 yX6_in wsX6_in) := goodIn_app (goodIn_of _ (by decide +kernel)) ggX6_isCell_X6_in
theorem dX6_isCell_0 : decode cX6_isCell 0 = .ok (.iload_n 0, 1) := by decide +kernel
theorem dX6_isCell_1 : decode cX6_isCell 1 = .ok (.iconst 0, 1) := by decide +kernel
theorem dX6_isCell_2 : decode cX6_isCell 2 = .ok (.bipush 7, 2) := by decide +kernel
theorem dX6_isCell_4 : decode cX6_isCell 4 = .ok (.invokestatic 37, 3) := by decide +kernel
theorem dX6_isCell_7 : decode cX6_isCell 7 = .ok (.ifCond .eq 17, 3) := by decide +kernel
theorem dX6_isCell_10 : decode cX6_isCell 10 = .ok (.iload_n 1, 1) := by decide +kernel
theorem dX6_isCell_11 : decode cX6_isCell 11 = .ok (.iconst 0, 1) := by decide +kernel
theorem dX6_isCell_12 : decode cX6_isCell 12 = .ok (.bipush 7, 2) := by decide +kernel
theorem dX6_isCell_14 : decode cX6_isCell 14 = .ok (.invokestatic 37, 3) := by decide +kernel
theorem dX6_isCell_17 : decode cX6_isCell 17 = .ok (.ifCond .eq 7, 3) := by decide +kernel
theorem dX6_isCell_20 : decode cX6_isCell 20 = .ok (.iconst 1, 1) := by decide +kernel
theorem dX6_isCell_21 : decode cX6_isCell 21 = .ok (.goto 4, 3) := by decide +kernel
theorem dX6_isCell_24 : decode cX6_isCell 24 = .ok (.iconst 0, 1) := by decide +kernel
theorem dX6_isCell_25 : decode cX6_isCell 25 = .ok (.ireturn, 1) := by decide +kernel
set_option maxRecDepth 20000 in
theorem ggX6_isDirection_X6_in : GoodIn wsX6_isDirection wsX6_in := goodIn_r _ [4] (by decide +kernel) (by decide +kernel)
set_option maxRecDepth 20000 in
theorem gX6_isDirection_X6_in : GoodIn wsX6_isDirection (va_wsS RX6 37 yX6_in wsX6_in) := goodIn_app (goodIn_of _ (by decide +kernel)) ggX6_isDirection_X6_in
theorem dX6_isDirection_0 : decode cX6_isDirection 0 = .ok (.iload_n 0, 1) := by decide +kernel
theorem dX6_isDirection_1 : decode cX6_isDirection 1 = .ok (.iconst 0, 1) := by decide +kernel
theorem dX6_isDirection_2 : decode cX6_isDirection 2 = .ok (.iconst 3, 1) := by decide +kernel
theorem dX6_isDirection_3 : decode cX6_isDirection 3 = .ok (.invokestatic 37, 3) := by decide +kernel
theorem dX6_isDirection_6 : decode cX6_isDirection 6 = .ok (.ireturn, 1) := by decide +kernel
theorem dX6_free_0 : decode cX6_free 0 = .ok (.iconst 0, 1) := by decide +kernel
theorem dX6_free_1 : decode cX6_free 1 = .ok (.istore_n 1, 1) := by decide +kernel
theorem dX6_free_2 : decode cX6_free 2 = .ok (.iconst 0, 1) := by decide +kernel
theorem dX6_free_3 : decode cX6_free 3 = .ok (.istore_n 2, 1) := by decide +kernel
theorem dX6_free_4 : decode cX6_free 4 = .ok (.iload_n 2, 1) := by decide +kernel
theorem dX6_free_5 : decode cX6_free 5 = .ok (.bipush 64, 2) := by decide +kernel
theorem dX6_free_7 : decode cX6_free 7 = .ok (.if_icmp .ge 26, 3) := by decide +kernel
theorem dX6_free_10 : decode cX6_free 10 = .ok (.iload_n 1, 1) := by decide +kernel
theorem dX6_free_11 : decode cX6_free 11 = .ok (.aload_n 0, 1) := by decide +kernel
theorem dX6_free_12 : decode cX6_free 12 = .ok (.getfield 7, 3) := by decide +kernel
theorem dX6_free_15 : decode cX6_free 15 = .ok (.iload_n 2, 1) := by decide +kernel
theorem dX6_free_16 : decode cX6_free 16 = .ok (.baload, 1) := by decide +kernel
theorem dX6_free_17 : decode cX6_free 17 = .ok (.ifCond .eq 7, 3) := by decide +kernel
theorem dX6_free_20 : decode cX6_free 20 = .ok (.iconst 0, 1) := by decide +kernel
theorem dX6_free_21 : decode cX6_free 21 = .ok (.goto 4, 3) := by decide +kernel
theorem dX6_free_24 : decode cX6_free 24 = .ok (.iconst 1, 1) := by decide +kernel
theorem dX6_free_25 : decode cX6_free 25 = .ok (.iadd, 1) := by decide +kernel
theorem dX6_free_26 : decode cX6_free 26 = .ok (.istore_n 1, 1) := by decide +kernel
theorem dX6_free_27 : decode cX6_free 27 = .ok (.iinc 2 1, 3) := by decide +kernel
theorem dX6_free_30 : decode cX6_free 30 = .ok (.goto (-26), 3) := by decide +kernel
theorem dX6_free_33 : decode cX6_free 33 = .ok (.iload_n 1, 1) := by decide +kernel
theorem dX6_free_34 : decode cX6_free 34 = .ok (.ireturn, 1) := by decide +kernel
set_option maxRecDepth 20000 in
theorem ggX6_wall_X6_isCell : GoodIn wsX6_wall wsX6_isCell := goodIn_r _ [6, 7, 8, 5, 9] (by decide +kernel) (by decide +kernel)
set_option maxRecDepth 20000 in
theorem gX6_wall_X6_isCell : GoodIn wsX6_wall (va_wsS RX6 41 yX6_isCell wsX6_isCell) := goodIn_app (goodIn_of _ (by decide +kernel)) ggX6_wall_X6_isCell
set_option maxRecDepth 20000 in
theorem ggX6_wall_X6_free : GoodIn wsX6_wall wsX6_free := goodIn_r _ [13, 1, 19, 20, 21, 22, 23, 24, 25, 26, 27, 28, 29, 30, 31, 32, 33] (by decide +kernel) (by decide +kernel)
set_option maxRecDepth 20000 in
theorem gX6_wall_X6_free : GoodIn wsX6_wall (wsV RX6 45 RX6 yX6_free wsX6_free) := goodIn_app (goodIn_of _ (by decide +kernel)) ggX6_wall_X6_free
set_option maxRecDepth 20000 in
theorem ggX6_wall_X6_goesWell : GoodIn wsX6_wall wsX6_goesWell := goodIn_r _ [17, 18, 19, 20, 21, 22, 23, 24, 25, 26, 27, 28, 29, 30, 31, 32, 33] (by decide +kernel) (by decide +kernel)
set_option maxRecDepth 20000 in
theorem gX6_wall_X6_goesWell : GoodIn wsX6_wall (wsV RX6 53 RX6 yX6_goesWell wsX6_goesWell) := goodIn_app (goodIn_of _ (by decide +kernel)) ggX6_wall_X6_goesWell
theorem dX6_wall_0 : decode cX6_wall 0 = .ok (.iload_n 1, 1) := by decide +kernel
theorem dX6_wall_1 : decode cX6_wall 1 = .ok (.iload_n 2, 1) := by decide +kernel
theorem dX6_wall_2 : decode cX6_wall 2 = .ok (.invokestatic 41, 3) := by decide +kernel
theorem dX6_wall_5 : decode cX6_wall 5 = .ok (.istore 4, 2) := by decide +kernel
theorem dX6_wall_7 : decode cX6_wall 7 = .ok (.iload 4, 2) := by decide +kernel
theorem dX6_wall_9 : decode cX6_wall 9 = .ok (.ifCond .eq 12, 3) := by decide +kernel
theorem dX6_wall_12 : decode cX6_wall 12 = .ok (.bipush 8, 2) := by decide +kernel
theorem dX6_wall_14 : decode cX6_wall 14 = .ok (.iload_n 2, 1) := by decide +kernel
theorem dX6_wall_15 : decode cX6_wall 15 = .ok (.imul, 1) := by decide +kernel
theorem dX6_wall_16 : decode cX6_wall 16 = .ok (.iload_n 1, 1) := by decide +kernel
theorem dX6_wall_17 : decode cX6_wall 17 = .ok (.iadd, 1) := by decide +kernel
theorem dX6_wall_18 : decode cX6_wall 18 = .ok (.goto 4, 3) := by decide +kernel
theorem dX6_wall_21 : decode cX6_wall 21 = .ok (.iconst 0, 1) := by decide +kernel
theorem dX6_wall_22 : decode cX6_wall 22 = .ok (.istore 5, 2) := by decide +kernel
theorem dX6_wall_24 : decode cX6_wall 24 = .ok (.iload_n 3, 1) := by decide +kernel
theorem dX6_wall_25 : decode cX6_wall 25 = .ok (.ifCond .eq 25, 3) := by decide +kernel
theorem dX6_wall_28 : decode cX6_wall 28 = .ok (.aload_n 0, 1) := by decide +kernel
theorem dX6_wall_29 : decode cX6_wall 29 = .ok (.getfield 7, 3) := by decide +kernel
theorem dX6_wall_32 : decode cX6_wall 32 = .ok (.iload 5, 2) := by decide +kernel
theorem dX6_wall_34 : decode cX6_wall 34 = .ok (.baload, 1) := by decide +kernel
theorem dX6_wall_35 : decode cX6_wall 35 = .ok (.ifCond .ne 15, 3) := by decide +kernel
theorem dX6_wall_38 : decode cX6_wall 38 = .ok (.aload_n 0, 1) := by decide +kernel
theorem dX6_wall_39 : decode cX6_wall 39 = .ok (.invokevirtual 45, 3) := by decide +kernel
theorem dX6_wall_42 : decode cX6_wall 42 = .ok (.iconst 1, 1) := by decide +kernel
theorem dX6_wall_43 : decode cX6_wall 43 = .ok (.if_icmp .ne 7, 3) := by decide +kernel
theorem dX6_wall_46 : decode cX6_wall 46 = .ok (.iconst 1, 1) := by decide +kernel
theorem dX6_wall_47 : decode cX6_wall 47 = .ok (.goto 4, 3) := by decide +kernel
theorem dX6_wall_50 : decode cX6_wall 50 = .ok (.iconst 0, 1) := by decide +kernel
theorem dX6_wall_51 : decode cX6_wall 51 = .ok (.istore 6, 2) := by decide +kernel
theorem dX6_wall_53 : decode cX6_wall 53 = .ok (.aload_n 0, 1) := by decide +kernel
theorem dX6_wall_54 : decode cX6_wall 54 = .ok (.iload 4, 2) := by decide +kernel
theorem dX6_wall_56 : decode cX6_wall 56 = .ok (.ifCond .ne 7, 3) := by decide +kernel
theorem dX6_wall_59 : decode cX6_wall 59 = .ok (.iconst 1, 1) := by decide +kernel
theorem dX6_wall_60 : decode cX6_wall 60 = .ok (.goto 20, 3) := by decide +kernel
theorem dX6_wall_63 : decode cX6_wall 63 = .ok (.aload_n 0, 1) := by decide +kernel
theorem dX6_wall_64 : decode cX6_wall 64 = .ok (.getfield 49, 3) := by decide +kernel
theorem dX6_wall_67 : decode cX6_wall 67 = .ok (.ifCond .ne 8, 3) := by decide +kernel
theorem dX6_wall_70 : decode cX6_wall 70 = .ok (.iload 6, 2) := by decide +kernel
theorem dX6_wall_72 : decode cX6_wall 72 = .ok (.ifCond .eq 7, 3) := by decide +kernel
theorem dX6_wall_75 : decode cX6_wall 75 = .ok (.iconst 2, 1) := by decide +kernel
theorem dX6_wall_76 : decode cX6_wall 76 = .ok (.goto 4, 3) := by decide +kernel
theorem dX6_wall_79 : decode cX6_wall 79 = .ok (.iconst 0, 1) := by decide +kernel
theorem dX6_wall_80 : decode cX6_wall 80 = .ok (.invokevirtual 53, 3) := by decide +kernel
theorem dX6_wall_83 : decode cX6_wall 83 = .ok (.ifCond .ne 5, 3) := by decide +kernel
theorem dX6_wall_86 : decode cX6_wall 86 = .ok (.iconst 0, 1) := by decide +kernel
theorem dX6_wall_87 : decode cX6_wall 87 = .ok (.ireturn, 1) := by decide +kernel
theorem dX6_wall_88 : decode cX6_wall 88 = .ok (.aload_n 0, 1) := by decide +kernel
theorem dX6_wall_89 : decode cX6_wall 89 = .ok (.getfield 7, 3) := by decide +kernel
theorem dX6_wall_92 : decode cX6_wall 92 = .ok (.iload 5, 2) := by decide +kernel
theorem dX6_wall_94 : decode cX6_wall 94 = .ok (.baload, 1) := by decide +kernel
theorem dX6_wall_95 : decode cX6_wall 95 = .ok (.istore 7, 2) := by decide +kernel
theorem dX6_wall_97 : decode cX6_wall 97 = .ok (.aload_n 0, 1) := by decide +kernel
theorem dX6_wall_98 : decode cX6_wall 98 = .ok (.getfield 7, 3) := by decide +kernel
theorem dX6_wall_101 : decode cX6_wall 101 = .ok (.iload 5, 2) := by decide +kernel
theorem dX6_wall_103 : decode cX6_wall 103 = .ok (.iload_n 3, 1) := by decide +kernel
theorem dX6_wall_104 : decode cX6_wall 104 = .ok (.bastore, 1) := by decide +kernel
theorem dX6_wall_105 : decode cX6_wall 105 = .ok (.iload 7, 2) := by decide +kernel
theorem dX6_wall_107 : decode cX6_wall 107 = .ok (.ireturn, 1) := by decide +kernel
set_option maxRecDepth 20000 in
theorem ggX6_draw_X6_in : GoodIn wsX6_draw wsX6_in := goodIn_r _ [6] (by decide +kernel) (by decide +kernel)
set_option maxRecDepth 20000 in
theorem gX6_draw_X6_in : GoodIn wsX6_draw (va_wsS RX6 37 yX6_in wsX6_in) := goodIn_app (goodIn_of _ (by decide +kernel)) ggX6_draw_X6_in
set_option maxRecDepth 20000 in
theorem ggX6_draw_X6_goesWell : GoodIn wsX6_draw wsX6_goesWell := goodIn_r _ [10, 11, 12, 13, 14, 15, 16, 17, 18, 19, 20, 21, 22, 23, 24, 25, 26] (by decide +kernel) (by decide +kernel)
set_option maxRecDepth 20000 in
theorem gX6_draw_X6_goesWell : GoodIn wsX6_draw (wsV RX6 53 RX6 yX6_goesWell wsX6_goesWell) := goodIn_app (goodIn_of _ (by decide +kernel)) ggX6_draw_X6_goesWell
theorem dX6_draw_0 : decode cX6_draw 0 = .ok (.aload_n 0, 1) := by decide +kernel
theorem dX6_draw_1 : decode cX6_draw 1 = .ok (.iload_n 1, 1) := by decide +kernel
theorem dX6_draw_2 : decode cX6_draw 2 = .ok (.iconst 1, 1) := by decide +kernel
theorem dX6_draw_3 : decode cX6_draw 3 = .ok (.ldc 57, 2) := by decide +kernel
theorem dX6_draw_5 : decode cX6_draw 5 = .ok (.invokestatic 37, 3) := by decide +kernel
theorem dX6_draw_8 : decode cX6_draw 8 = .ok (.ifCond .eq 7, 3) := by decide +kernel
theorem dX6_draw_11 : decode cX6_draw 11 = .ok (.iconst 0, 1) := by decide +kernel
theorem dX6_draw_12 : decode cX6_draw 12 = .ok (.goto 4, 3) := by decide +kernel
theorem dX6_draw_15 : decode cX6_draw 15 = .ok (.iconst 1, 1) := by decide +kernel
theorem dX6_draw_16 : decode cX6_draw 16 = .ok (.invokevirtual 53, 3) := by decide +kernel
theorem dX6_draw_19 : decode cX6_draw 19 = .ok (.ifCond .ne 5, 3) := by decide +kernel
theorem dX6_draw_22 : decode cX6_draw 22 = .ok (.iconst 0, 1) := by decide +kernel
theorem dX6_draw_23 : decode cX6_draw 23 = .ok (.ireturn, 1) := by decide +kernel
theorem dX6_draw_24 : decode cX6_draw 24 = .ok (.aload_n 0, 1) := by decide +kernel
theorem dX6_draw_25 : decode cX6_draw 25 = .ok (.getfield 13, 3) := by decide +kernel
theorem dX6_draw_28 : decode cX6_draw 28 = .ok (.istore_n 2, 1) := by decide +kernel
theorem dX6_draw_29 : decode cX6_draw 29 = .ok (.aload_n 0, 1) := by decide +kernel
theorem dX6_draw_30 : decode cX6_draw 30 = .ok (.iload_n 1, 1) := by decide +kernel
theorem dX6_draw_31 : decode cX6_draw 31 = .ok (.putfield 13, 3) := by decide +kernel
theorem dX6_draw_34 : decode cX6_draw 34 = .ok (.iload_n 2, 1) := by decide +kernel
theorem dX6_draw_35 : decode cX6_draw 35 = .ok (.ireturn, 1) := by decide +kernel
theorem dX6_next_0 : decode cX6_next 0 = .ok (.aload_n 0, 1) := by decide +kernel
theorem dX6_next_1 : decode cX6_next 1 = .ok (.bipush 75, 2) := by decide +kernel
theorem dX6_next_3 : decode cX6_next 3 = .ok (.aload_n 0, 1) := by decide +kernel
theorem dX6_next_4 : decode cX6_next 4 = .ok (.getfield 13, 3) := by decide +kernel
theorem dX6_next_7 : decode cX6_next 7 = .ok (.imul, 1) := by decide +kernel
theorem dX6_next_8 : decode cX6_next 8 = .ok (.bipush 74, 2) := by decide +kernel
theorem dX6_next_10 : decode cX6_next 10 = .ok (.iadd, 1) := by decide +kernel
theorem dX6_next_11 : decode cX6_next 11 = .ok (.ldc 58, 2) := by decide +kernel
theorem dX6_next_13 : decode cX6_next 13 = .ok (.irem, 1) := by decide +kernel
theorem dX6_next_14 : decode cX6_next 14 = .ok (.putfield 13, 3) := by decide +kernel
theorem dX6_next_17 : decode cX6_next 17 = .ok (.aload_n 0, 1) := by decide +kernel
theorem dX6_next_18 : decode cX6_next 18 = .ok (.getfield 13, 3) := by decide +kernel
theorem dX6_next_21 : decode cX6_next 21 = .ok (.ireturn, 1) := by decide +kernel
set_option maxRecDepth 20000 in
theorem ggX6_drawCell_X6_next : GoodIn wsX6_drawCell wsX6_next := goodIn_r _ [6, 7, 8, 13, 14, 15, 16, 17, 18, 19, 20, 21, 22, 23, 24, 25, 26, 27] (by decide +kernel) (by decide +kernel)
set_option maxRecDepth 20000 in
theorem gX6_drawCell_X6_next : GoodIn wsX6_drawCell (wsV RX6 59 RX6 yX6_next wsX6_next) := goodIn_app (goodIn_of _ (by decide +kernel)) ggX6_drawCell_X6_next
set_option maxRecDepth 20000 in
theorem ggX6_drawCell_X6_free : GoodIn wsX6_drawCell wsX6_free := goodIn_r _ [12, 1, 13, 14, 15, 16, 17, 18, 19, 20, 21, 22, 23, 24, 25, 26, 27] (by decide +kernel) (by decide +kernel)
set_option maxRecDepth 20000 in
theorem gX6_drawCell_X6_free : GoodIn wsX6_drawCell (wsV RX6 45 RX6 yX6_free wsX6_free) := goodIn_app (goodIn_of _ (by decide +kernel)) ggX6_drawCell_X6_free
theorem dX6_drawCell_0 : decode cX6_drawCell 0 = .ok (.aload_n 0, 1) := by decide +kernel
theorem dX6_drawCell_1 : decode cX6_drawCell 1 = .ok (.invokevirtual 59, 3) := by decide +kernel
theorem dX6_drawCell_4 : decode cX6_drawCell 4 = .ok (.aload_n 0, 1) := by decide +kernel
theorem dX6_drawCell_5 : decode cX6_drawCell 5 = .ok (.invokevirtual 45, 3) := by decide +kernel
theorem dX6_drawCell_8 : decode cX6_drawCell 8 = .ok (.irem, 1) := by decide +kernel
theorem dX6_drawCell_9 : decode cX6_drawCell 9 = .ok (.istore_n 1, 1) := by decide +kernel
theorem dX6_drawCell_10 : decode cX6_drawCell 10 = .ok (.iconst 0, 1) := by decide +kernel
theorem dX6_drawCell_11 : decode cX6_drawCell 11 = .ok (.istore_n 2, 1) := by decide +kernel
theorem dX6_drawCell_12 : decode cX6_drawCell 12 = .ok (.aload_n 0, 1) := by decide +kernel
theorem dX6_drawCell_13 : decode cX6_drawCell 13 = .ok (.getfield 7, 3) := by decide +kernel
theorem dX6_drawCell_16 : decode cX6_drawCell 16 = .ok (.iload_n 2, 1) := by decide +kernel
theorem dX6_drawCell_17 : decode cX6_drawCell 17 = .ok (.baload, 1) := by decide +kernel
theorem dX6_drawCell_18 : decode cX6_drawCell 18 = .ok (.ifCond .ne 7, 3) := by decide +kernel
theorem dX6_drawCell_21 : decode cX6_drawCell 21 = .ok (.iload_n 1, 1) := by decide +kernel
theorem dX6_drawCell_22 : decode cX6_drawCell 22 = .ok (.ifCond .le 26, 3) := by decide +kernel
theorem dX6_drawCell_25 : decode cX6_drawCell 25 = .ok (.iload_n 1, 1) := by decide +kernel
theorem dX6_drawCell_26 : decode cX6_drawCell 26 = .ok (.aload_n 0, 1) := by decide +kernel
theorem dX6_drawCell_27 : decode cX6_drawCell 27 = .ok (.getfield 7, 3) := by decide +kernel
theorem dX6_drawCell_30 : decode cX6_drawCell 30 = .ok (.iload_n 2, 1) := by decide +kernel
theorem dX6_drawCell_31 : decode cX6_drawCell 31 = .ok (.baload, 1) := by decide +kernel
theorem dX6_drawCell_32 : decode cX6_drawCell 32 = .ok (.ifCond .eq 7, 3) := by decide +kernel
theorem dX6_drawCell_35 : decode cX6_drawCell 35 = .ok (.iconst 0, 1) := by decide +kernel
theorem dX6_drawCell_36 : decode cX6_drawCell 36 = .ok (.goto 4, 3) := by decide +kernel
theorem dX6_drawCell_39 : decode cX6_drawCell 39 = .ok (.iconst 1, 1) := by decide +kernel
theorem dX6_drawCell_40 : decode cX6_drawCell 40 = .ok (.isub, 1) := by decide +kernel
theorem dX6_drawCell_41 : decode cX6_drawCell 41 = .ok (.istore_n 1, 1) := by decide +kernel
theorem dX6_drawCell_42 : decode cX6_drawCell 42 = .ok (.iinc 2 1, 3) := by decide +kernel
theorem dX6_drawCell_45 : decode cX6_drawCell 45 = .ok (.goto (-33), 3) := by decide +kernel
theorem dX6_drawCell_48 : decode cX6_drawCell 48 = .ok (.iload_n 2, 1) := by decide +kernel
theorem dX6_drawCell_49 : decode cX6_drawCell 49 = .ok (.ireturn, 1) := by decide +kernel
set_option maxRecDepth 20000 in
theorem ggX6_step_X6_isCell : GoodIn wsX6_step wsX6_isCell := goodIn_r _ [5, 6, 7, 4, 8] (by decide +kernel) (by decide +kernel)
set_option maxRecDepth 20000 in
theorem gX6_step_X6_isCell : GoodIn wsX6_step (va_wsS RX6 41 yX6_isCell wsX6_isCell) := goodIn_app (goodIn_of _ (by decide +kernel)) ggX6_step_X6_isCell
theorem dX6_step_0 : decode cX6_step 0 = .ok (.iload_n 1, 1) := by decide +kernel
theorem dX6_step_1 : decode cX6_step 1 = .ok (.bipush 8, 2) := by decide +kernel
theorem dX6_step_3 : decode cX6_step 3 = .ok (.irem, 1) := by decide +kernel
theorem dX6_step_4 : decode cX6_step 4 = .ok (.iload_n 2, 1) := by decide +kernel
theorem dX6_step_5 : decode cX6_step 5 = .ok (.ifCond .ne 7, 3) := by decide +kernel
theorem dX6_step_8 : decode cX6_step 8 = .ok (.iconst 1, 1) := by decide +kernel
theorem dX6_step_9 : decode cX6_step 9 = .ok (.goto 13, 3) := by decide +kernel
theorem dX6_step_12 : decode cX6_step 12 = .ok (.iload_n 2, 1) := by decide +kernel
theorem dX6_step_13 : decode cX6_step 13 = .ok (.iconst 2, 1) := by decide +kernel
theorem dX6_step_14 : decode cX6_step 14 = .ok (.if_icmp .ne 7, 3) := by decide +kernel
theorem dX6_step_17 : decode cX6_step 17 = .ok (.iconst (-1), 1) := by decide +kernel
theorem dX6_step_18 : decode cX6_step 18 = .ok (.goto 4, 3) := by decide +kernel
theorem dX6_step_21 : decode cX6_step 21 = .ok (.iconst 0, 1) := by decide +kernel
theorem dX6_step_22 : decode cX6_step 22 = .ok (.iadd, 1) := by decide +kernel
theorem dX6_step_23 : decode cX6_step 23 = .ok (.istore_n 3, 1) := by decide +kernel
theorem dX6_step_24 : decode cX6_step 24 = .ok (.iload_n 1, 1) := by decide +kernel
theorem dX6_step_25 : decode cX6_step 25 = .ok (.bipush 8, 2) := by decide +kernel
theorem dX6_step_27 : decode cX6_step 27 = .ok (.idiv, 1) := by decide +kernel
theorem dX6_step_28 : decode cX6_step 28 = .ok (.iload_n 2, 1) := by decide +kernel
theorem dX6_step_29 : decode cX6_step 29 = .ok (.iconst 1, 1) := by decide +kernel
theorem dX6_step_30 : decode cX6_step 30 = .ok (.if_icmp .ne 7, 3) := by decide +kernel
theorem dX6_step_33 : decode cX6_step 33 = .ok (.iconst 1, 1) := by decide +kernel
theorem dX6_step_34 : decode cX6_step 34 = .ok (.goto 13, 3) := by decide +kernel
theorem dX6_step_37 : decode cX6_step 37 = .ok (.iload_n 2, 1) := by decide +kernel
theorem dX6_step_38 : decode cX6_step 38 = .ok (.iconst 3, 1) := by decide +kernel
theorem dX6_step_39 : decode cX6_step 39 = .ok (.if_icmp .ne 7, 3) := by decide +kernel
theorem dX6_step_42 : decode cX6_step 42 = .ok (.iconst (-1), 1) := by decide +kernel
theorem dX6_step_43 : decode cX6_step 43 = .ok (.goto 4, 3) := by decide +kernel
theorem dX6_step_46 : decode cX6_step 46 = .ok (.iconst 0, 1) := by decide +kernel
theorem dX6_step_47 : decode cX6_step 47 = .ok (.iadd, 1) := by decide +kernel
theorem dX6_step_48 : decode cX6_step 48 = .ok (.istore 4, 2) := by decide +kernel
theorem dX6_step_50 : decode cX6_step 50 = .ok (.iload_n 3, 1) := by decide +kernel
theorem dX6_step_51 : decode cX6_step 51 = .ok (.iload 4, 2) := by decide +kernel
theorem dX6_step_53 : decode cX6_step 53 = .ok (.invokestatic 41, 3) := by decide +kernel
theorem dX6_step_56 : decode cX6_step 56 = .ok (.ifCond .eq 28, 3) := by decide +kernel
theorem dX6_step_59 : decode cX6_step 59 = .ok (.aload_n 0, 1) := by decide +kernel
theorem dX6_step_60 : decode cX6_step 60 = .ok (.getfield 7, 3) := by decide +kernel
theorem dX6_step_63 : decode cX6_step 63 = .ok (.bipush 8, 2) := by decide +kernel
theorem dX6_step_65 : decode cX6_step 65 = .ok (.iload 4, 2) := by decide +kernel
theorem dX6_step_67 : decode cX6_step 67 = .ok (.imul, 1) := by decide +kernel
theorem dX6_step_68 : decode cX6_step 68 = .ok (.iload_n 3, 1) := by decide +kernel
theorem dX6_step_69 : decode cX6_step 69 = .ok (.iadd, 1) := by decide +kernel
theorem dX6_step_70 : decode cX6_step 70 = .ok (.baload, 1) := by decide +kernel
theorem dX6_step_71 : decode cX6_step 71 = .ok (.ifCond .ne 13, 3) := by decide +kernel
theorem dX6_step_74 : decode cX6_step 74 = .ok (.bipush 8, 2) := by decide +kernel
theorem dX6_step_76 : decode cX6_step 76 = .ok (.iload 4, 2) := by decide +kernel
theorem dX6_step_78 : decode cX6_step 78 = .ok (.imul, 1) := by decide +kernel
theorem dX6_step_79 : decode cX6_step 79 = .ok (.iload_n 3, 1) := by decide +kernel
theorem dX6_step_80 : decode cX6_step 80 = .ok (.iadd, 1) := by decide +kernel
theorem dX6_step_81 : decode cX6_step 81 = .ok (.goto 4, 3) := by decide +kernel
theorem dX6_step_84 : decode cX6_step 84 = .ok (.iload_n 1, 1) := by decide +kernel
theorem dX6_step_85 : decode cX6_step 85 = .ok (.ireturn, 1) := by decide +kernel
set_option maxRecDepth 20000 in
theorem ggX6_reads_X6_step : GoodIn wsX6_reads wsX6_step := goodIn_r _ [5, 6, 7, 8, 4, 9, 10, 11, 12, 13, 14, 15, 16, 17, 18, 19, 20, 21, 22, 23, 24, 25, 26, 27] (by decide +kernel) (by decide +kernel)
set_option maxRecDepth 20000 in
theorem gX6_reads_X6_step : GoodIn wsX6_reads (wsV RX6 62 RX6 yX6_step wsX6_step) := goodIn_app (goodIn_of _ (by decide +kernel)) ggX6_reads_X6_step
theorem dX6_reads_0 : decode cX6_reads 0 = .ok (.iconst 0, 1) := by decide +kernel
theorem dX6_reads_1 : decode cX6_reads 1 = .ok (.istore_n 3, 1) := by decide +kernel
theorem dX6_reads_2 : decode cX6_reads 2 = .ok (.iload_n 1, 1) := by decide +kernel
theorem dX6_reads_3 : decode cX6_reads 3 = .ok (.istore 4, 2) := by decide +kernel
theorem dX6_reads_5 : decode cX6_reads 5 = .ok (.aload_n 0, 1) := by decide +kernel
theorem dX6_reads_6 : decode cX6_reads 6 = .ok (.iload 4, 2) := by decide +kernel
theorem dX6_reads_8 : decode cX6_reads 8 = .ok (.iload_n 2, 1) := by decide +kernel
theorem dX6_reads_9 : decode cX6_reads 9 = .ok (.invokevirtual 62, 3) := by decide +kernel
theorem dX6_reads_12 : decode cX6_reads 12 = .ok (.iload 4, 2) := by decide +kernel
theorem dX6_reads_14 : decode cX6_reads 14 = .ok (.if_icmp .eq 18, 3) := by decide +kernel
theorem dX6_reads_17 : decode cX6_reads 17 = .ok (.aload_n 0, 1) := by decide +kernel
theorem dX6_reads_18 : decode cX6_reads 18 = .ok (.iload 4, 2) := by decide +kernel
theorem dX6_reads_20 : decode cX6_reads 20 = .ok (.iload_n 2, 1) := by decide +kernel
theorem dX6_reads_21 : decode cX6_reads 21 = .ok (.invokevirtual 62, 3) := by decide +kernel
theorem dX6_reads_24 : decode cX6_reads 24 = .ok (.istore 4, 2) := by decide +kernel
theorem dX6_reads_26 : decode cX6_reads 26 = .ok (.iinc 3 1, 3) := by decide +kernel
theorem dX6_reads_29 : decode cX6_reads 29 = .ok (.goto (-24), 3) := by decide +kernel
theorem dX6_reads_32 : decode cX6_reads 32 = .ok (.iload_n 3, 1) := by decide +kernel
theorem dX6_reads_33 : decode cX6_reads 33 = .ok (.ireturn, 1) := by decide +kernel
set_option maxRecDepth 20000 in
theorem ggX6_weightOf_X6_reads : GoodIn wsX6_weightOf wsX6_reads := goodIn_r _ [5, 6, 7, 8, 4, 9, 10, 11, 12, 13, 14, 15, 16, 17, 18, 19, 20, 21, 22, 23, 24, 25, 26, 27, 28, 29, 30, 31] (by decide +kernel) (by decide +kernel)
set_option maxRecDepth 20000 in
theorem gX6_weightOf_X6_reads : GoodIn wsX6_weightOf (wsV RX6 66 RX6 yX6_reads wsX6_reads) := goodIn_app (goodIn_of _ (by decide +kernel)) ggX6_weightOf_X6_reads
theorem dX6_weightOf_0 : decode cX6_weightOf 0 = .ok (.aload_n 0, 1) := by decide +kernel
theorem dX6_weightOf_1 : decode cX6_weightOf 1 = .ok (.iload_n 1, 1) := by decide +kernel
theorem dX6_weightOf_2 : decode cX6_weightOf 2 = .ok (.iload_n 2, 1) := by decide +kernel
theorem dX6_weightOf_3 : decode cX6_weightOf 3 = .ok (.invokevirtual 66, 3) := by decide +kernel
theorem dX6_weightOf_6 : decode cX6_weightOf 6 = .ok (.iload_n 3, 1) := by decide +kernel
theorem dX6_weightOf_7 : decode cX6_weightOf 7 = .ok (.isub, 1) := by decide +kernel
theorem dX6_weightOf_8 : decode cX6_weightOf 8 = .ok (.istore 4, 2) := by decide +kernel
theorem dX6_weightOf_10 : decode cX6_weightOf 10 = .ok (.iload 4, 2) := by decide +kernel
theorem dX6_weightOf_12 : decode cX6_weightOf 12 = .ok (.ifCond .ge 9, 3) := by decide +kernel
theorem dX6_weightOf_15 : decode cX6_weightOf 15 = .ok (.iload 4, 2) := by decide +kernel
theorem dX6_weightOf_17 : decode cX6_weightOf 17 = .ok (.ineg, 1) := by decide +kernel
theorem dX6_weightOf_18 : decode cX6_weightOf 18 = .ok (.goto 5, 3) := by decide +kernel
theorem dX6_weightOf_21 : decode cX6_weightOf 21 = .ok (.iload 4, 2) := by decide +kernel
theorem dX6_weightOf_23 : decode cX6_weightOf 23 = .ok (.istore 4, 2) := by decide +kernel
theorem dX6_weightOf_25 : decode cX6_weightOf 25 = .ok (.iload 4, 2) := by decide +kernel
theorem dX6_weightOf_27 : decode cX6_weightOf 27 = .ok (.ifCond .ne 8, 3) := by decide +kernel
theorem dX6_weightOf_30 : decode cX6_weightOf 30 = .ok (.bipush 8, 2) := by decide +kernel
theorem dX6_weightOf_32 : decode cX6_weightOf 32 = .ok (.goto 24, 3) := by decide +kernel
theorem dX6_weightOf_35 : decode cX6_weightOf 35 = .ok (.iload 4, 2) := by decide +kernel
theorem dX6_weightOf_37 : decode cX6_weightOf 37 = .ok (.iconst 1, 1) := by decide +kernel
theorem dX6_weightOf_38 : decode cX6_weightOf 38 = .ok (.if_icmp .ne 7, 3) := by decide +kernel
theorem dX6_weightOf_41 : decode cX6_weightOf 41 = .ok (.iconst 3, 1) := by decide +kernel
theorem dX6_weightOf_42 : decode cX6_weightOf 42 = .ok (.goto 14, 3) := by decide +kernel
theorem dX6_weightOf_45 : decode cX6_weightOf 45 = .ok (.iload 4, 2) := by decide +kernel
theorem dX6_weightOf_47 : decode cX6_weightOf 47 = .ok (.iconst 2, 1) := by decide +kernel
theorem dX6_weightOf_48 : decode cX6_weightOf 48 = .ok (.if_icmp .ne 7, 3) := by decide +kernel
theorem dX6_weightOf_51 : decode cX6_weightOf 51 = .ok (.iconst 1, 1) := by decide +kernel
theorem dX6_weightOf_52 : decode cX6_weightOf 52 = .ok (.goto 4, 3) := by decide +kernel
theorem dX6_weightOf_55 : decode cX6_weightOf 55 = .ok (.iconst 0, 1) := by decide +kernel
theorem dX6_weightOf_56 : decode cX6_weightOf 56 = .ok (.ireturn, 1) := by decide +kernel
theorem dX6_believeAll_0 : decode cX6_believeAll 0 = .ok (.iconst 0, 1) := by decide +kernel
theorem dX6_believeAll_1 : decode cX6_believeAll 1 = .ok (.istore_n 1, 1) := by decide +kernel
theorem dX6_believeAll_2 : decode cX6_believeAll 2 = .ok (.iload_n 1, 1) := by decide +kernel
theorem dX6_believeAll_3 : decode cX6_believeAll 3 = .ok (.bipush 64, 2) := by decide +kernel
theorem dX6_believeAll_5 : decode cX6_believeAll 5 = .ok (.if_icmp .ge 29, 3) := by decide +kernel
theorem dX6_believeAll_8 : decode cX6_believeAll 8 = .ok (.aload_n 0, 1) := by decide +kernel
theorem dX6_believeAll_9 : decode cX6_believeAll 9 = .ok (.getfield 27, 3) := by decide +kernel
theorem dX6_believeAll_12 : decode cX6_believeAll 12 = .ok (.iload_n 1, 1) := by decide +kernel
theorem dX6_believeAll_13 : decode cX6_believeAll 13 = .ok (.aload_n 0, 1) := by decide +kernel
theorem dX6_believeAll_14 : decode cX6_believeAll 14 = .ok (.getfield 7, 3) := by decide +kernel
theorem dX6_believeAll_17 : decode cX6_believeAll 17 = .ok (.iload_n 1, 1) := by decide +kernel
theorem dX6_believeAll_18 : decode cX6_believeAll 18 = .ok (.baload, 1) := by decide +kernel
theorem dX6_believeAll_19 : decode cX6_believeAll 19 = .ok (.ifCond .eq 7, 3) := by decide +kernel
theorem dX6_believeAll_22 : decode cX6_believeAll 22 = .ok (.lconst 0, 1) := by decide +kernel
theorem dX6_believeAll_23 : decode cX6_believeAll 23 = .ok (.goto 4, 3) := by decide +kernel
theorem dX6_believeAll_26 : decode cX6_believeAll 26 = .ok (.lconst 1, 1) := by decide +kernel
theorem dX6_believeAll_27 : decode cX6_believeAll 27 = .ok (.lastore, 1) := by decide +kernel
theorem dX6_believeAll_28 : decode cX6_believeAll 28 = .ok (.iinc 1 1, 3) := by decide +kernel
theorem dX6_believeAll_31 : decode cX6_believeAll 31 = .ok (.goto (-29), 3) := by decide +kernel
theorem dX6_believeAll_34 : decode cX6_believeAll 34 = .ok (.return_, 1) := by decide +kernel
set_option maxRecDepth 20000 in
theorem ggX6_spread_X6_in : GoodIn wsX6_spread wsX6_in := goodIn_r _ [10] (by decide +kernel) (by decide +kernel)
set_option maxRecDepth 20000 in
theorem gX6_spread_X6_in : GoodIn wsX6_spread (va_wsS RX6 37 yX6_in wsX6_in) := goodIn_app (goodIn_of _ (by decide +kernel)) ggX6_spread_X6_in
set_option maxRecDepth 20000 in
theorem ggX6_spread_X6_goesWell : GoodIn wsX6_spread wsX6_goesWell := goodIn_r _ [14, 15, 36, 37, 38, 39, 40, 41, 42, 43, 44, 45, 46, 47, 48, 49, 50] (by decide +kernel) (by decide +kernel)
set_option maxRecDepth 20000 in
theorem gX6_spread_X6_goesWell : GoodIn wsX6_spread (wsV RX6 53 RX6 yX6_goesWell wsX6_goesWell) := goodIn_app (goodIn_of _ (by decide +kernel)) ggX6_spread_X6_goesWell
set_option maxRecDepth 20000 in
theorem ggX6_spread_X6_drawCell : GoodIn wsX6_spread wsX6_drawCell := goodIn_r _ [19, 20, 21, 22, 23, 9, 24, 25, 26, 27, 28, 29, 30, 36, 37, 38, 39, 40, 41, 42, 43, 44, 45, 46, 47, 48, 49, 50] (by decide +kernel) (by decide +kernel)
set_option maxRecDepth 20000 in
theorem gX6_spread_X6_drawCell : GoodIn wsX6_spread (wsV RX6 72 RX6 yX6_drawCell wsX6_drawCell) := goodIn_app (goodIn_of _ (by decide +kernel)) ggX6_spread_X6_drawCell
set_option maxRecDepth 20000 in
theorem ggX6_spread_X6_believeAll : GoodIn wsX6_spread wsX6_believeAll := goodIn_r _ [34, 35, 20, 36, 37, 38, 39, 40, 41, 42, 43, 44, 45, 46, 47, 48, 49, 50] (by decide +kernel) (by decide +kernel)
set_option maxRecDepth 20000 in
theorem gX6_spread_X6_believeAll : GoodIn wsX6_spread (wsV RX6 75 RX6 yX6_believeAll wsX6_believeAll) := goodIn_app (goodIn_of _ (by decide +kernel)) ggX6_spread_X6_believeAll
theorem dX6_spread_0 : decode cX6_spread 0 = .ok (.aload_n 0, 1) := by decide +kernel
theorem dX6_spread_1 : decode cX6_spread 1 = .ok (.iload_n 1, 1) := by decide +kernel
theorem dX6_spread_2 : decode cX6_spread 2 = .ok (.bipush 8, 2) := by decide +kernel
theorem dX6_spread_4 : decode cX6_spread 4 = .ok (.bipush 64, 2) := by decide +kernel
theorem dX6_spread_6 : decode cX6_spread 6 = .ok (.invokestatic 37, 3) := by decide +kernel
theorem dX6_spread_9 : decode cX6_spread 9 = .ok (.ifCond .eq 7, 3) := by decide +kernel
theorem dX6_spread_12 : decode cX6_spread 12 = .ok (.iconst 0, 1) := by decide +kernel
