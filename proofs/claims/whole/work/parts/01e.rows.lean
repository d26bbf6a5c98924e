theorem dX6_spread_13 : decode cX6_spread 13 = .ok (.goto 4, 3) := by decide +kernel
theorem dX6_spread_16 : decode cX6_spread 16 = .ok (.iconst 1, 1) := by decide +kernel
theorem dX6_spread_17 : decode cX6_spread 17 = .ok (.invokevirtual 53, 3) := by decide +kernel
theorem dX6_spread_20 : decode cX6_spread 20 = .ok (.ifCond .ne 4, 3) := by decide +kernel
theorem dX6_spread_23 : decode cX6_spread 23 = .ok (.return_, 1) := by decide +kernel
theorem dX6_spread_24 : decode cX6_spread 24 = .ok (.aload_n 0, 1) := by decide +kernel
theorem dX6_spread_25 : decode cX6_spread 25 = .ok (.iconst 1, 1) := by decide +kernel
theorem dX6_spread_26 : decode cX6_spread 26 = .ok (.putfield 49, 3) := by decide +kernel
theorem dX6_spread_29 : decode cX6_spread 29 = .ok (.aload_n 0, 1) := by decide +kernel
theorem dX6_spread_30 : decode cX6_spread 30 = .ok (.iload_n 1, 1) := by decide +kernel
theorem dX6_spread_31 : decode cX6_spread 31 = .ok (.putfield 69, 3) := by decide +kernel
theorem dX6_spread_34 : decode cX6_spread 34 = .ok (.iconst 0, 1) := by decide +kernel
theorem dX6_spread_35 : decode cX6_spread 35 = .ok (.istore_n 2, 1) := by decide +kernel
theorem dX6_spread_36 : decode cX6_spread 36 = .ok (.iload_n 2, 1) := by decide +kernel
theorem dX6_spread_37 : decode cX6_spread 37 = .ok (.iload_n 1, 1) := by decide +kernel
theorem dX6_spread_38 : decode cX6_spread 38 = .ok (.if_icmp .ge 19, 3) := by decide +kernel
theorem dX6_spread_41 : decode cX6_spread 41 = .ok (.aload_n 0, 1) := by decide +kernel
theorem dX6_spread_42 : decode cX6_spread 42 = .ok (.getfield 17, 3) := by decide +kernel
theorem dX6_spread_45 : decode cX6_spread 45 = .ok (.iload_n 2, 1) := by decide +kernel
theorem dX6_spread_46 : decode cX6_spread 46 = .ok (.aload_n 0, 1) := by decide +kernel
theorem dX6_spread_47 : decode cX6_spread 47 = .ok (.invokevirtual 72, 3) := by decide +kernel
theorem dX6_spread_50 : decode cX6_spread 50 = .ok (.iastore, 1) := by decide +kernel
theorem dX6_spread_51 : decode cX6_spread 51 = .ok (.iinc 2 1, 3) := by decide +kernel
theorem dX6_spread_54 : decode cX6_spread 54 = .ok (.goto (-18), 3) := by decide +kernel
theorem dX6_spread_57 : decode cX6_spread 57 = .ok (.aload_n 0, 1) := by decide +kernel
theorem dX6_spread_58 : decode cX6_spread 58 = .ok (.invokevirtual 75, 3) := by decide +kernel
theorem dX6_spread_61 : decode cX6_spread 61 = .ok (.aload_n 0, 1) := by decide +kernel
theorem dX6_spread_62 : decode cX6_spread 62 = .ok (.iconst 0, 1) := by decide +kernel
theorem dX6_spread_63 : decode cX6_spread 63 = .ok (.putfield 78, 3) := by decide +kernel
theorem dX6_spread_66 : decode cX6_spread 66 = .ok (.aload_n 0, 1) := by decide +kernel
theorem dX6_spread_67 : decode cX6_spread 67 = .ok (.iconst 0, 1) := by decide +kernel
theorem dX6_spread_68 : decode cX6_spread 68 = .ok (.putfield 81, 3) := by decide +kernel
theorem dX6_spread_71 : decode cX6_spread 71 = .ok (.aload_n 0, 1) := by decide +kernel
theorem dX6_spread_72 : decode cX6_spread 72 = .ok (.iconst 0, 1) := by decide +kernel
theorem dX6_spread_73 : decode cX6_spread 73 = .ok (.putfield 84, 3) := by decide +kernel
theorem dX6_spread_76 : decode cX6_spread 76 = .ok (.return_, 1) := by decide +kernel
theorem dX6_areNone_0 : decode cX6_areNone 0 = .ok (.iconst 1, 1) := by decide +kernel
theorem dX6_areNone_1 : decode cX6_areNone 1 = .ok (.istore_n 1, 1) := by decide +kernel
theorem dX6_areNone_2 : decode cX6_areNone 2 = .ok (.iconst 0, 1) := by decide +kernel
theorem dX6_areNone_3 : decode cX6_areNone 3 = .ok (.istore_n 2, 1) := by decide +kernel
theorem dX6_areNone_4 : decode cX6_areNone 4 = .ok (.iload_n 2, 1) := by decide +kernel
theorem dX6_areNone_5 : decode cX6_areNone 5 = .ok (.bipush 64, 2) := by decide +kernel
theorem dX6_areNone_7 : decode cX6_areNone 7 = .ok (.if_icmp .ge 30, 3) := by decide +kernel
theorem dX6_areNone_10 : decode cX6_areNone 10 = .ok (.iload_n 1, 1) := by decide +kernel
theorem dX6_areNone_11 : decode cX6_areNone 11 = .ok (.ifCond .eq 18, 3) := by decide +kernel
theorem dX6_areNone_14 : decode cX6_areNone 14 = .ok (.aload_n 0, 1) := by decide +kernel
theorem dX6_areNone_15 : decode cX6_areNone 15 = .ok (.getfield 27, 3) := by decide +kernel
theorem dX6_areNone_18 : decode cX6_areNone 18 = .ok (.iload_n 2, 1) := by decide +kernel
theorem dX6_areNone_19 : decode cX6_areNone 19 = .ok (.laload, 1) := by decide +kernel
theorem dX6_areNone_20 : decode cX6_areNone 20 = .ok (.lconst 0, 1) := by decide +kernel
theorem dX6_areNone_21 : decode cX6_areNone 21 = .ok (.lcmp, 1) := by decide +kernel
theorem dX6_areNone_22 : decode cX6_areNone 22 = .ok (.ifCond .ne 7, 3) := by decide +kernel
theorem dX6_areNone_25 : decode cX6_areNone 25 = .ok (.iconst 1, 1) := by decide +kernel
theorem dX6_areNone_26 : decode cX6_areNone 26 = .ok (.goto 4, 3) := by decide +kernel
theorem dX6_areNone_29 : decode cX6_areNone 29 = .ok (.iconst 0, 1) := by decide +kernel
theorem dX6_areNone_30 : decode cX6_areNone 30 = .ok (.istore_n 1, 1) := by decide +kernel
theorem dX6_areNone_31 : decode cX6_areNone 31 = .ok (.iinc 2 1, 3) := by decide +kernel
theorem dX6_areNone_34 : decode cX6_areNone 34 = .ok (.goto (-30), 3) := by decide +kernel
theorem dX6_areNone_37 : decode cX6_areNone 37 = .ok (.iload_n 1, 1) := by decide +kernel
theorem dX6_areNone_38 : decode cX6_areNone 38 = .ok (.ireturn, 1) := by decide +kernel
theorem dX6_greatest_0 : decode cX6_greatest 0 = .ok (.lconst 0, 1) := by decide +kernel
theorem dX6_greatest_1 : decode cX6_greatest 1 = .ok (.lstore_n 1, 1) := by decide +kernel
theorem dX6_greatest_2 : decode cX6_greatest 2 = .ok (.iconst 0, 1) := by decide +kernel
theorem dX6_greatest_3 : decode cX6_greatest 3 = .ok (.istore_n 3, 1) := by decide +kernel
theorem dX6_greatest_4 : decode cX6_greatest 4 = .ok (.iload_n 3, 1) := by decide +kernel
theorem dX6_greatest_5 : decode cX6_greatest 5 = .ok (.bipush 64, 2) := by decide +kernel
theorem dX6_greatest_7 : decode cX6_greatest 7 = .ok (.if_icmp .ge 31, 3) := by decide +kernel
theorem dX6_greatest_10 : decode cX6_greatest 10 = .ok (.aload_n 0, 1) := by decide +kernel
theorem dX6_greatest_11 : decode cX6_greatest 11 = .ok (.getfield 27, 3) := by decide +kernel
theorem dX6_greatest_14 : decode cX6_greatest 14 = .ok (.iload_n 3, 1) := by decide +kernel
theorem dX6_greatest_15 : decode cX6_greatest 15 = .ok (.laload, 1) := by decide +kernel
theorem dX6_greatest_16 : decode cX6_greatest 16 = .ok (.lload_n 1, 1) := by decide +kernel
theorem dX6_greatest_17 : decode cX6_greatest 17 = .ok (.lcmp, 1) := by decide +kernel
theorem dX6_greatest_18 : decode cX6_greatest 18 = .ok (.ifCond .le 12, 3) := by decide +kernel
theorem dX6_greatest_21 : decode cX6_greatest 21 = .ok (.aload_n 0, 1) := by decide +kernel
theorem dX6_greatest_22 : decode cX6_greatest 22 = .ok (.getfield 27, 3) := by decide +kernel
theorem dX6_greatest_25 : decode cX6_greatest 25 = .ok (.iload_n 3, 1) := by decide +kernel
theorem dX6_greatest_26 : decode cX6_greatest 26 = .ok (.laload, 1) := by decide +kernel
theorem dX6_greatest_27 : decode cX6_greatest 27 = .ok (.goto 4, 3) := by decide +kernel
theorem dX6_greatest_30 : decode cX6_greatest 30 = .ok (.lload_n 1, 1) := by decide +kernel
theorem dX6_greatest_31 : decode cX6_greatest 31 = .ok (.lstore_n 1, 1) := by decide +kernel
theorem dX6_greatest_32 : decode cX6_greatest 32 = .ok (.iinc 3 1, 3) := by decide +kernel
theorem dX6_greatest_35 : decode cX6_greatest 35 = .ok (.goto (-31), 3) := by decide +kernel
theorem dX6_greatest_38 : decode cX6_greatest 38 = .ok (.lload_n 1, 1) := by decide +kernel
theorem dX6_greatest_39 : decode cX6_greatest 39 = .ok (.lreturn, 1) := by decide +kernel
set_option maxRecDepth 20000 in
theorem ggX6_halve_X6_greatest : GoodIn wsX6_halve wsX6_greatest := goodIn_r _ [8, 2, 9, 10, 11, 12, 13, 14, 15, 16, 17, 18, 19, 20, 21, 22, 23] (by decide +kernel) (by decide +kernel)
set_option maxRecDepth 20000 in
theorem gX6_halve_X6_greatest : GoodIn wsX6_halve (wsV RX6 87 RX6 yX6_greatest wsX6_greatest) := goodIn_app (goodIn_of _ (by decide +kernel)) ggX6_halve_X6_greatest
theorem dX6_halve_0 : decode cX6_halve 0 = .ok (.aload_n 0, 1) := by decide +kernel
theorem dX6_halve_1 : decode cX6_halve 1 = .ok (.invokevirtual 87, 3) := by decide +kernel
theorem dX6_halve_4 : decode cX6_halve 4 = .ok (.ldc2_w 91, 3) := by decide +kernel
theorem dX6_halve_7 : decode cX6_halve 7 = .ok (.lcmp, 1) := by decide +kernel
theorem dX6_halve_8 : decode cX6_halve 8 = .ok (.ifCond .le 32, 3) := by decide +kernel
theorem dX6_halve_11 : decode cX6_halve 11 = .ok (.iconst 0, 1) := by decide +kernel
theorem dX6_halve_12 : decode cX6_halve 12 = .ok (.istore_n 1, 1) := by decide +kernel
theorem dX6_halve_13 : decode cX6_halve 13 = .ok (.iload_n 1, 1) := by decide +kernel
theorem dX6_halve_14 : decode cX6_halve 14 = .ok (.bipush 64, 2) := by decide +kernel
theorem dX6_halve_16 : decode cX6_halve 16 = .ok (.if_icmp .ge 21, 3) := by decide +kernel
theorem dX6_halve_19 : decode cX6_halve 19 = .ok (.aload_n 0, 1) := by decide +kernel
theorem dX6_halve_20 : decode cX6_halve 20 = .ok (.getfield 27, 3) := by decide +kernel
theorem dX6_halve_23 : decode cX6_halve 23 = .ok (.iload_n 1, 1) := by decide +kernel
theorem dX6_halve_24 : decode cX6_halve 24 = .ok (.dup2, 1) := by decide +kernel
theorem dX6_halve_25 : decode cX6_halve 25 = .ok (.laload, 1) := by decide +kernel
theorem dX6_halve_26 : decode cX6_halve 26 = .ok (.ldc2_w 93, 3) := by decide +kernel
theorem dX6_halve_29 : decode cX6_halve 29 = .ok (.ldiv, 1) := by decide +kernel
theorem dX6_halve_30 : decode cX6_halve 30 = .ok (.lastore, 1) := by decide +kernel
theorem dX6_halve_31 : decode cX6_halve 31 = .ok (.iinc 1 1, 3) := by decide +kernel
theorem dX6_halve_34 : decode cX6_halve 34 = .ok (.goto (-21), 3) := by decide +kernel
theorem dX6_halve_37 : decode cX6_halve 37 = .ok (.goto (-37), 3) := by decide +kernel
theorem dX6_halve_40 : decode cX6_halve 40 = .ok (.return_, 1) := by decide +kernel
set_option maxRecDepth 20000 in
theorem ggX6_drive_X6_isDirection : GoodIn wsX6_drive wsX6_isDirection := goodIn_r _ [13, 14, 15, 12, 16] (by decide +kernel) (by decide +kernel)
set_option maxRecDepth 20000 in
theorem gX6_drive_X6_isDirection : GoodIn wsX6_drive (va_wsS RX6 95 yX6_isDirection wsX6_isDirection) := goodIn_app (goodIn_of _ (by decide +kernel)) ggX6_drive_X6_isDirection
set_option maxRecDepth 20000 in
theorem ggX6_drive_X6_goesWell : GoodIn wsX6_drive wsX6_goesWell := goodIn_r _ [20, 21, 45, 46, 47, 48, 49, 50, 51, 52, 53, 54, 55, 56, 57, 58, 59] (by decide +kernel) (by decide +kernel)
set_option maxRecDepth 20000 in
theorem gX6_drive_X6_goesWell : GoodIn wsX6_drive (wsV RX6 53 RX6 yX6_goesWell wsX6_goesWell) := goodIn_app (goodIn_of _ (by decide +kernel)) ggX6_drive_X6_goesWell
set_option maxRecDepth 20000 in
theorem ggX6_drive_X6_next : GoodIn wsX6_drive wsX6_next := goodIn_r _ [25, 26, 27, 45, 46, 47, 48, 49, 50, 51, 52, 53, 54, 55, 56, 57, 58, 59] (by decide +kernel) (by decide +kernel)
set_option maxRecDepth 20000 in
theorem gX6_drive_X6_next : GoodIn wsX6_drive (wsV RX6 59 RX6 yX6_next wsX6_next) := goodIn_app (goodIn_of _ (by decide +kernel)) ggX6_drive_X6_next
set_option maxRecDepth 20000 in
theorem ggX6_drive_X6_step : GoodIn wsX6_drive wsX6_step := goodIn_r _ [31, 6, 32, 33, 12, 34, 14, 15, 16, 45, 46, 47, 48, 49, 50, 51, 52, 53, 54, 55, 56, 57, 58, 59] (by decide +kernel) (by decide +kernel)
set_option maxRecDepth 20000 in
theorem gX6_drive_X6_step : GoodIn wsX6_drive (wsV RX6 62 RX6 yX6_step wsX6_step) := goodIn_app (goodIn_of _ (by decide +kernel)) ggX6_drive_X6_step
set_option maxRecDepth 20000 in
theorem ggX6_drive_X6_halve : GoodIn wsX6_drive wsX6_halve := goodIn_r _ [38, 39, 8, 40, 41, 42, 43, 12, 44, 45, 46, 47, 48, 49, 50, 51, 52, 53, 54, 55, 56, 57, 58, 59] (by decide +kernel) (by decide +kernel)
set_option maxRecDepth 20000 in
theorem gX6_drive_X6_halve : GoodIn wsX6_drive (wsV RX6 102 RX6 yX6_halve wsX6_halve) := goodIn_app (goodIn_of _ (by decide +kernel)) ggX6_drive_X6_halve
theorem dX6_drive_0 : decode cX6_drive 0 = .ok (.iload_n 1, 1) := by decide +kernel
theorem dX6_drive_1 : decode cX6_drive 1 = .ok (.invokestatic 95, 3) := by decide +kernel
theorem dX6_drive_4 : decode cX6_drive 4 = .ok (.istore_n 2, 1) := by decide +kernel
theorem dX6_drive_5 : decode cX6_drive 5 = .ok (.aload_n 0, 1) := by decide +kernel
theorem dX6_drive_6 : decode cX6_drive 6 = .ok (.iload_n 2, 1) := by decide +kernel
theorem dX6_drive_7 : decode cX6_drive 7 = .ok (.ifCond .ne 7, 3) := by decide +kernel
theorem dX6_drive_10 : decode cX6_drive 10 = .ok (.iconst 1, 1) := by decide +kernel
theorem dX6_drive_11 : decode cX6_drive 11 = .ok (.goto 25, 3) := by decide +kernel
theorem dX6_drive_14 : decode cX6_drive 14 = .ok (.aload_n 0, 1) := by decide +kernel
theorem dX6_drive_15 : decode cX6_drive 15 = .ok (.getfield 49, 3) := by decide +kernel
theorem dX6_drive_18 : decode cX6_drive 18 = .ok (.ifCond .eq 13, 3) := by decide +kernel
theorem dX6_drive_21 : decode cX6_drive 21 = .ok (.aload_n 0, 1) := by decide +kernel
theorem dX6_drive_22 : decode cX6_drive 22 = .ok (.getfield 78, 3) := by decide +kernel
theorem dX6_drive_25 : decode cX6_drive 25 = .ok (.sipush 300, 3) := by decide +kernel
theorem dX6_drive_28 : decode cX6_drive 28 = .ok (.if_icmp .ne 7, 3) := by decide +kernel
theorem dX6_drive_31 : decode cX6_drive 31 = .ok (.iconst 2, 1) := by decide +kernel
theorem dX6_drive_32 : decode cX6_drive 32 = .ok (.goto 4, 3) := by decide +kernel
theorem dX6_drive_35 : decode cX6_drive 35 = .ok (.iconst 0, 1) := by decide +kernel
theorem dX6_drive_36 : decode cX6_drive 36 = .ok (.invokevirtual 53, 3) := by decide +kernel
theorem dX6_drive_39 : decode cX6_drive 39 = .ok (.ifCond .ne 4, 3) := by decide +kernel
theorem dX6_drive_42 : decode cX6_drive 42 = .ok (.return_, 1) := by decide +kernel
theorem dX6_drive_43 : decode cX6_drive 43 = .ok (.iconst 0, 1) := by decide +kernel
theorem dX6_drive_44 : decode cX6_drive 44 = .ok (.istore_n 3, 1) := by decide +kernel
theorem dX6_drive_45 : decode cX6_drive 45 = .ok (.iload_n 3, 1) := by decide +kernel
theorem dX6_drive_46 : decode cX6_drive 46 = .ok (.aload_n 0, 1) := by decide +kernel
theorem dX6_drive_47 : decode cX6_drive 47 = .ok (.getfield 69, 3) := by decide +kernel
theorem dX6_drive_50 : decode cX6_drive 50 = .ok (.if_icmp .ge 72, 3) := by decide +kernel
theorem dX6_drive_53 : decode cX6_drive 53 = .ok (.aload_n 0, 1) := by decide +kernel
theorem dX6_drive_54 : decode cX6_drive 54 = .ok (.invokevirtual 59, 3) := by decide +kernel
theorem dX6_drive_57 : decode cX6_drive 57 = .ok (.bipush 16, 2) := by decide +kernel
theorem dX6_drive_59 : decode cX6_drive 59 = .ok (.irem, 1) := by decide +kernel
theorem dX6_drive_60 : decode cX6_drive 60 = .ok (.istore 4, 2) := by decide +kernel
theorem dX6_drive_62 : decode cX6_drive 62 = .ok (.aload_n 0, 1) := by decide +kernel
theorem dX6_drive_63 : decode cX6_drive 63 = .ok (.aload_n 0, 1) := by decide +kernel
theorem dX6_drive_64 : decode cX6_drive 64 = .ok (.getfield 17, 3) := by decide +kernel
theorem dX6_drive_67 : decode cX6_drive 67 = .ok (.iload_n 3, 1) := by decide +kernel
theorem dX6_drive_68 : decode cX6_drive 68 = .ok (.iaload, 1) := by decide +kernel
theorem dX6_drive_69 : decode cX6_drive 69 = .ok (.iload_n 1, 1) := by decide +kernel
theorem dX6_drive_70 : decode cX6_drive 70 = .ok (.invokevirtual 62, 3) := by decide +kernel
theorem dX6_drive_73 : decode cX6_drive 73 = .ok (.istore 5, 2) := by decide +kernel
theorem dX6_drive_75 : decode cX6_drive 75 = .ok (.aload_n 0, 1) := by decide +kernel
theorem dX6_drive_76 : decode cX6_drive 76 = .ok (.getfield 17, 3) := by decide +kernel
theorem dX6_drive_79 : decode cX6_drive 79 = .ok (.iload_n 3, 1) := by decide +kernel
theorem dX6_drive_80 : decode cX6_drive 80 = .ok (.iload 4, 2) := by decide +kernel
theorem dX6_drive_82 : decode cX6_drive 82 = .ok (.bipush 12, 2) := by decide +kernel
theorem dX6_drive_84 : decode cX6_drive 84 = .ok (.if_icmp .ge 8, 3) := by decide +kernel
theorem dX6_drive_87 : decode cX6_drive 87 = .ok (.iload 5, 2) := by decide +kernel
theorem dX6_drive_89 : decode cX6_drive 89 = .ok (.goto 26, 3) := by decide +kernel
theorem dX6_drive_92 : decode cX6_drive 92 = .ok (.iload 4, 2) := by decide +kernel
theorem dX6_drive_94 : decode cX6_drive 94 = .ok (.bipush 15, 2) := by decide +kernel
theorem dX6_drive_96 : decode cX6_drive 96 = .ok (.if_icmp .ge 12, 3) := by decide +kernel
theorem dX6_drive_99 : decode cX6_drive 99 = .ok (.aload_n 0, 1) := by decide +kernel
theorem dX6_drive_100 : decode cX6_drive 100 = .ok (.getfield 17, 3) := by decide +kernel
theorem dX6_drive_103 : decode cX6_drive 103 = .ok (.iload_n 3, 1) := by decide +kernel
theorem dX6_drive_104 : decode cX6_drive 104 = .ok (.iaload, 1) := by decide +kernel
theorem dX6_drive_105 : decode cX6_drive 105 = .ok (.goto 10, 3) := by decide +kernel
theorem dX6_drive_108 : decode cX6_drive 108 = .ok (.aload_n 0, 1) := by decide +kernel
theorem dX6_drive_109 : decode cX6_drive 109 = .ok (.iload 5, 2) := by decide +kernel
theorem dX6_drive_111 : decode cX6_drive 111 = .ok (.iload_n 1, 1) := by decide +kernel
theorem dX6_drive_112 : decode cX6_drive 112 = .ok (.invokevirtual 62, 3) := by decide +kernel
theorem dX6_drive_115 : decode cX6_drive 115 = .ok (.iastore, 1) := by decide +kernel
theorem dX6_drive_116 : decode cX6_drive 116 = .ok (.iinc 3 1, 3) := by decide +kernel
theorem dX6_drive_119 : decode cX6_drive 119 = .ok (.goto (-74), 3) := by decide +kernel
theorem dX6_drive_122 : decode cX6_drive 122 = .ok (.iconst 0, 1) := by decide +kernel
theorem dX6_drive_123 : decode cX6_drive 123 = .ok (.istore_n 3, 1) := by decide +kernel
theorem dX6_drive_124 : decode cX6_drive 124 = .ok (.iload_n 3, 1) := by decide +kernel
theorem dX6_drive_125 : decode cX6_drive 125 = .ok (.bipush 64, 2) := by decide +kernel
theorem dX6_drive_127 : decode cX6_drive 127 = .ok (.if_icmp .ge 16, 3) := by decide +kernel
theorem dX6_drive_130 : decode cX6_drive 130 = .ok (.aload_n 0, 1) := by decide +kernel
theorem dX6_drive_131 : decode cX6_drive 131 = .ok (.getfield 31, 3) := by decide +kernel
theorem dX6_drive_134 : decode cX6_drive 134 = .ok (.iload_n 3, 1) := by decide +kernel
theorem dX6_drive_135 : decode cX6_drive 135 = .ok (.lconst 0, 1) := by decide +kernel
theorem dX6_drive_136 : decode cX6_drive 136 = .ok (.lastore, 1) := by decide +kernel
theorem dX6_drive_137 : decode cX6_drive 137 = .ok (.iinc 3 1, 3) := by decide +kernel
theorem dX6_drive_140 : decode cX6_drive 140 = .ok (.goto (-16), 3) := by decide +kernel
theorem dX6_drive_143 : decode cX6_drive 143 = .ok (.iconst 0, 1) := by decide +kernel
theorem dX6_drive_144 : decode cX6_drive 144 = .ok (.istore_n 3, 1) := by decide +kernel
theorem dX6_drive_145 : decode cX6_drive 145 = .ok (.iload_n 3, 1) := by decide +kernel
theorem dX6_drive_146 : decode cX6_drive 146 = .ok (.bipush 64, 2) := by decide +kernel
theorem dX6_drive_148 : decode cX6_drive 148 = .ok (.if_icmp .ge 86, 3) := by decide +kernel
theorem dX6_drive_151 : decode cX6_drive 151 = .ok (.aload_n 0, 1) := by decide +kernel
theorem dX6_drive_152 : decode cX6_drive 152 = .ok (.getfield 7, 3) := by decide +kernel
theorem dX6_drive_155 : decode cX6_drive 155 = .ok (.iload_n 3, 1) := by decide +kernel
theorem dX6_drive_156 : decode cX6_drive 156 = .ok (.baload, 1) := by decide +kernel
theorem dX6_drive_157 : decode cX6_drive 157 = .ok (.ifCond .ne 71, 3) := by decide +kernel
theorem dX6_drive_160 : decode cX6_drive 160 = .ok (.aload_n 0, 1) := by decide +kernel
theorem dX6_drive_161 : decode cX6_drive 161 = .ok (.iload_n 3, 1) := by decide +kernel
theorem dX6_drive_162 : decode cX6_drive 162 = .ok (.iload_n 1, 1) := by decide +kernel
theorem dX6_drive_163 : decode cX6_drive 163 = .ok (.invokevirtual 62, 3) := by decide +kernel
theorem dX6_drive_166 : decode cX6_drive 166 = .ok (.istore 4, 2) := by decide +kernel
theorem dX6_drive_168 : decode cX6_drive 168 = .ok (.aload_n 0, 1) := by decide +kernel
theorem dX6_drive_169 : decode cX6_drive 169 = .ok (.getfield 31, 3) := by decide +kernel
theorem dX6_drive_172 : decode cX6_drive 172 = .ok (.iload 4, 2) := by decide +kernel
theorem dX6_drive_174 : decode cX6_drive 174 = .ok (.dup2, 1) := by decide +kernel
theorem dX6_drive_175 : decode cX6_drive 175 = .ok (.laload, 1) := by decide +kernel
theorem dX6_drive_176 : decode cX6_drive 176 = .ok (.ldc2_w 98, 3) := by decide +kernel
theorem dX6_drive_179 : decode cX6_drive 179 = .ok (.aload_n 0, 1) := by decide +kernel
theorem dX6_drive_180 : decode cX6_drive 180 = .ok (.getfield 27, 3) := by decide +kernel
theorem dX6_drive_183 : decode cX6_drive 183 = .ok (.iload_n 3, 1) := by decide +kernel
theorem dX6_drive_184 : decode cX6_drive 184 = .ok (.laload, 1) := by decide +kernel
theorem dX6_drive_185 : decode cX6_drive 185 = .ok (.lmul, 1) := by decide +kernel
theorem dX6_drive_186 : decode cX6_drive 186 = .ok (.ladd, 1) := by decide +kernel
theorem dX6_drive_187 : decode cX6_drive 187 = .ok (.lastore, 1) := by decide +kernel
theorem dX6_drive_188 : decode cX6_drive 188 = .ok (.aload_n 0, 1) := by decide +kernel
theorem dX6_drive_189 : decode cX6_drive 189 = .ok (.getfield 31, 3) := by decide +kernel
theorem dX6_drive_192 : decode cX6_drive 192 = .ok (.iload_n 3, 1) := by decide +kernel
theorem dX6_drive_193 : decode cX6_drive 193 = .ok (.dup2, 1) := by decide +kernel
theorem dX6_drive_194 : decode cX6_drive 194 = .ok (.laload, 1) := by decide +kernel
theorem dX6_drive_195 : decode cX6_drive 195 = .ok (.ldc2_w 100, 3) := by decide +kernel
theorem dX6_drive_198 : decode cX6_drive 198 = .ok (.aload_n 0, 1) := by decide +kernel
theorem dX6_drive_199 : decode cX6_drive 199 = .ok (.getfield 27, 3) := by decide +kernel
theorem dX6_drive_202 : decode cX6_drive 202 = .ok (.iload_n 3, 1) := by decide +kernel
theorem dX6_drive_203 : decode cX6_drive 203 = .ok (.laload, 1) := by decide +kernel
theorem dX6_drive_204 : decode cX6_drive 204 = .ok (.lmul, 1) := by decide +kernel
theorem dX6_drive_205 : decode cX6_drive 205 = .ok (.ladd, 1) := by decide +kernel
theorem dX6_drive_206 : decode cX6_drive 206 = .ok (.lastore, 1) := by decide +kernel
theorem dX6_drive_207 : decode cX6_drive 207 = .ok (.aload_n 0, 1) := by decide +kernel
theorem dX6_drive_208 : decode cX6_drive 208 = .ok (.getfield 31, 3) := by decide +kernel
theorem dX6_drive_211 : decode cX6_drive 211 = .ok (.aload_n 0, 1) := by decide +kernel
theorem dX6_drive_212 : decode cX6_drive 212 = .ok (.iload 4, 2) := by decide +kernel
theorem dX6_drive_214 : decode cX6_drive 214 = .ok (.iload_n 1, 1) := by decide +kernel
theorem dX6_drive_215 : decode cX6_drive 215 = .ok (.invokevirtual 62, 3) := by decide +kernel
theorem dX6_drive_218 : decode cX6_drive 218 = .ok (.dup2, 1) := by decide +kernel
theorem dX6_drive_219 : decode cX6_drive 219 = .ok (.laload, 1) := by decide +kernel
theorem dX6_drive_220 : decode cX6_drive 220 = .ok (.aload_n 0, 1) := by decide +kernel
theorem dX6_drive_221 : decode cX6_drive 221 = .ok (.getfield 27, 3) := by decide +kernel
theorem dX6_drive_224 : decode cX6_drive 224 = .ok (.iload_n 3, 1) := by decide +kernel
theorem dX6_drive_225 : decode cX6_drive 225 = .ok (.laload, 1) := by decide +kernel
theorem dX6_drive_226 : decode cX6_drive 226 = .ok (.ladd, 1) := by decide +kernel
theorem dX6_drive_227 : decode cX6_drive 227 = .ok (.lastore, 1) := by decide +kernel
theorem dX6_drive_228 : decode cX6_drive 228 = .ok (.iinc 3 1, 3) := by decide +kernel
theorem dX6_drive_231 : decode cX6_drive 231 = .ok (.goto (-86), 3) := by decide +kernel
theorem dX6_drive_234 : decode cX6_drive 234 = .ok (.iconst 0, 1) := by decide +kernel
theorem dX6_drive_235 : decode cX6_drive 235 = .ok (.istore_n 3, 1) := by decide +kernel
theorem dX6_drive_236 : decode cX6_drive 236 = .ok (.iload_n 3, 1) := by decide +kernel
theorem dX6_drive_237 : decode cX6_drive 237 = .ok (.bipush 64, 2) := by decide +kernel
theorem dX6_drive_239 : decode cX6_drive 239 = .ok (.if_icmp .ge 21, 3) := by decide +kernel
theorem dX6_drive_242 : decode cX6_drive 242 = .ok (.aload_n 0, 1) := by decide +kernel
theorem dX6_drive_243 : decode cX6_drive 243 = .ok (.getfield 27, 3) := by decide +kernel
theorem dX6_drive_246 : decode cX6_drive 246 = .ok (.iload_n 3, 1) := by decide +kernel
theorem dX6_drive_247 : decode cX6_drive 247 = .ok (.aload_n 0, 1) := by decide +kernel
theorem dX6_drive_248 : decode cX6_drive 248 = .ok (.getfield 31, 3) := by decide +kernel
theorem dX6_drive_251 : decode cX6_drive 251 = .ok (.iload_n 3, 1) := by decide +kernel
theorem dX6_drive_252 : decode cX6_drive 252 = .ok (.laload, 1) := by decide +kernel
theorem dX6_drive_253 : decode cX6_drive 253 = .ok (.lastore, 1) := by decide +kernel
theorem dX6_drive_254 : decode cX6_drive 254 = .ok (.iinc 3 1, 3) := by decide +kernel
theorem dX6_drive_257 : decode cX6_drive 257 = .ok (.goto (-21), 3) := by decide +kernel
theorem dX6_drive_260 : decode cX6_drive 260 = .ok (.aload_n 0, 1) := by decide +kernel
theorem dX6_drive_261 : decode cX6_drive 261 = .ok (.invokevirtual 102, 3) := by decide +kernel
theorem dX6_drive_264 : decode cX6_drive 264 = .ok (.aload_n 0, 1) := by decide +kernel
theorem dX6_drive_265 : decode cX6_drive 265 = .ok (.dup, 1) := by decide +kernel
theorem dX6_drive_266 : decode cX6_drive 266 = .ok (.getfield 78, 3) := by decide +kernel
theorem dX6_drive_269 : decode cX6_drive 269 = .ok (.iconst 1, 1) := by decide +kernel
theorem dX6_drive_270 : decode cX6_drive 270 = .ok (.iadd, 1) := by decide +kernel
theorem dX6_drive_271 : decode cX6_drive 271 = .ok (.putfield 78, 3) := by decide +kernel
theorem dX6_drive_274 : decode cX6_drive 274 = .ok (.return_, 1) := by decide +kernel
theorem dX6_judge_0 : decode cX6_judge 0 = .ok (.bipush 32, 2) := by decide +kernel
theorem dX6_judge_2 : decode cX6_judge 2 = .ok (.iload_n 1, 1) := by decide +kernel
theorem dX6_judge_3 : decode cX6_judge 3 = .ok (.imul, 1) := by decide +kernel
theorem dX6_judge_4 : decode cX6_judge 4 = .ok (.aload_n 0, 1) := by decide +kernel
theorem dX6_judge_5 : decode cX6_judge 5 = .ok (.getfield 69, 3) := by decide +kernel
theorem dX6_judge_8 : decode cX6_judge 8 = .ok (.idiv, 1) := by decide +kernel
theorem dX6_judge_9 : decode cX6_judge 9 = .ok (.istore_n 2, 1) := by decide +kernel
theorem dX6_judge_10 : decode cX6_judge 10 = .ok (.aload_n 0, 1) := by decide +kernel
theorem dX6_judge_11 : decode cX6_judge 11 = .ok (.aload_n 0, 1) := by decide +kernel
theorem dX6_judge_12 : decode cX6_judge 12 = .ok (.getfield 81, 3) := by decide +kernel
theorem dX6_judge_15 : decode cX6_judge 15 = .ok (.ifCond .ne 7, 3) := by decide +kernel
theorem dX6_judge_18 : decode cX6_judge 18 = .ok (.iload_n 2, 1) := by decide +kernel
theorem dX6_judge_19 : decode cX6_judge 19 = .ok (.goto 17, 3) := by decide +kernel
theorem dX6_judge_22 : decode cX6_judge 22 = .ok (.aload_n 0, 1) := by decide +kernel
theorem dX6_judge_23 : decode cX6_judge 23 = .ok (.getfield 105, 3) := by decide +kernel
theorem dX6_judge_26 : decode cX6_judge 26 = .ok (.iload_n 2, 1) := by decide +kernel
theorem dX6_judge_27 : decode cX6_judge 27 = .ok (.aload_n 0, 1) := by decide +kernel
theorem dX6_judge_28 : decode cX6_judge 28 = .ok (.getfield 105, 3) := by decide +kernel
theorem dX6_judge_31 : decode cX6_judge 31 = .ok (.isub, 1) := by decide +kernel
theorem dX6_judge_32 : decode cX6_judge 32 = .ok (.bipush 8, 2) := by decide +kernel
theorem dX6_judge_34 : decode cX6_judge 34 = .ok (.idiv, 1) := by decide +kernel
theorem dX6_judge_35 : decode cX6_judge 35 = .ok (.iadd, 1) := by decide +kernel
theorem dX6_judge_36 : decode cX6_judge 36 = .ok (.putfield 105, 3) := by decide +kernel
theorem dX6_judge_39 : decode cX6_judge 39 = .ok (.aload_n 0, 1) := by decide +kernel
theorem dX6_judge_40 : decode cX6_judge 40 = .ok (.aload_n 0, 1) := by decide +kernel
theorem dX6_judge_41 : decode cX6_judge 41 = .ok (.getfield 81, 3) := by decide +kernel
theorem dX6_judge_44 : decode cX6_judge 44 = .ok (.ifCond .ne 7, 3) := by decide +kernel
theorem dX6_judge_47 : decode cX6_judge 47 = .ok (.iload_n 2, 1) := by decide +kernel
theorem dX6_judge_48 : decode cX6_judge 48 = .ok (.goto 16, 3) := by decide +kernel
theorem dX6_judge_51 : decode cX6_judge 51 = .ok (.aload_n 0, 1) := by decide +kernel
theorem dX6_judge_52 : decode cX6_judge 52 = .ok (.getfield 108, 3) := by decide +kernel
theorem dX6_judge_55 : decode cX6_judge 55 = .ok (.iload_n 2, 1) := by decide +kernel
theorem dX6_judge_56 : decode cX6_judge 56 = .ok (.aload_n 0, 1) := by decide +kernel
theorem dX6_judge_57 : decode cX6_judge 57 = .ok (.getfield 108, 3) := by decide +kernel
theorem dX6_judge_60 : decode cX6_judge 60 = .ok (.isub, 1) := by decide +kernel
theorem dX6_judge_61 : decode cX6_judge 61 = .ok (.iconst 2, 1) := by decide +kernel
theorem dX6_judge_62 : decode cX6_judge 62 = .ok (.idiv, 1) := by decide +kernel
theorem dX6_judge_63 : decode cX6_judge 63 = .ok (.iadd, 1) := by decide +kernel
theorem dX6_judge_64 : decode cX6_judge 64 = .ok (.putfield 108, 3) := by decide +kernel
theorem dX6_judge_67 : decode cX6_judge 67 = .ok (.aload_n 0, 1) := by decide +kernel
theorem dX6_judge_68 : decode cX6_judge 68 = .ok (.getfield 105, 3) := by decide +kernel
theorem dX6_judge_71 : decode cX6_judge 71 = .ok (.ifCond .ne 9, 3) := by decide +kernel
theorem dX6_judge_74 : decode cX6_judge 74 = .ok (.sipush 256, 3) := by decide +kernel
theorem dX6_judge_77 : decode cX6_judge 77 = .ok (.goto 20, 3) := by decide +kernel
theorem dX6_judge_80 : decode cX6_judge 80 = .ok (.sipush 256, 3) := by decide +kernel
theorem dX6_judge_83 : decode cX6_judge 83 = .ok (.sipush 256, 3) := by decide +kernel
theorem dX6_judge_86 : decode cX6_judge 86 = .ok (.aload_n 0, 1) := by decide +kernel
theorem dX6_judge_87 : decode cX6_judge 87 = .ok (.getfield 108, 3) := by decide +kernel
theorem dX6_judge_90 : decode cX6_judge 90 = .ok (.imul, 1) := by decide +kernel
theorem dX6_judge_91 : decode cX6_judge 91 = .ok (.aload_n 0, 1) := by decide +kernel
theorem dX6_judge_92 : decode cX6_judge 92 = .ok (.getfield 105, 3) := by decide +kernel
theorem dX6_judge_95 : decode cX6_judge 95 = .ok (.idiv, 1) := by decide +kernel
theorem dX6_judge_96 : decode cX6_judge 96 = .ok (.isub, 1) := by decide +kernel
theorem dX6_judge_97 : decode cX6_judge 97 = .ok (.istore_n 3, 1) := by decide +kernel
theorem dX6_judge_98 : decode cX6_judge 98 = .ok (.aload_n 0, 1) := by decide +kernel
theorem dX6_judge_99 : decode cX6_judge 99 = .ok (.iload_n 3, 1) := by decide +kernel
theorem dX6_judge_100 : decode cX6_judge 100 = .ok (.ifCond .ge 7, 3) := by decide +kernel
theorem dX6_judge_103 : decode cX6_judge 103 = .ok (.iconst 0, 1) := by decide +kernel
theorem dX6_judge_104 : decode cX6_judge 104 = .ok (.goto 4, 3) := by decide +kernel
theorem dX6_judge_107 : decode cX6_judge 107 = .ok (.iload_n 3, 1) := by decide +kernel
theorem dX6_judge_108 : decode cX6_judge 108 = .ok (.putfield 84, 3) := by decide +kernel
theorem dX6_judge_111 : decode cX6_judge 111 = .ok (.aload_n 0, 1) := by decide +kernel
theorem dX6_judge_112 : decode cX6_judge 112 = .ok (.dup, 1) := by decide +kernel
theorem dX6_judge_113 : decode cX6_judge 113 = .ok (.getfield 81, 3) := by decide +kernel
theorem dX6_judge_116 : decode cX6_judge 116 = .ok (.iconst 1, 1) := by decide +kernel
theorem dX6_judge_117 : decode cX6_judge 117 = .ok (.iadd, 1) := by decide +kernel
theorem dX6_judge_118 : decode cX6_judge 118 = .ok (.putfield 81, 3) := by decide +kernel
theorem dX6_judge_121 : decode cX6_judge 121 = .ok (.return_, 1) := by decide +kernel
theorem dX6_manyNew_0 : decode cX6_manyNew 0 = .ok (.lconst 0, 1) := by decide +kernel
theorem dX6_manyNew_1 : decode cX6_manyNew 1 = .ok (.lstore_n 1, 1) := by decide +kernel
theorem dX6_manyNew_2 : decode cX6_manyNew 2 = .ok (.iconst 0, 1) := by decide +kernel
theorem dX6_manyNew_3 : decode cX6_manyNew 3 = .ok (.istore_n 3, 1) := by decide +kernel
theorem dX6_manyNew_4 : decode cX6_manyNew 4 = .ok (.iload_n 3, 1) := by decide +kernel
theorem dX6_manyNew_5 : decode cX6_manyNew 5 = .ok (.aload_n 0, 1) := by decide +kernel
theorem dX6_manyNew_6 : decode cX6_manyNew 6 = .ok (.getfield 69, 3) := by decide +kernel
theorem dX6_manyNew_9 : decode cX6_manyNew 9 = .ok (.if_icmp .ge 33, 3) := by decide +kernel
theorem dX6_manyNew_12 : decode cX6_manyNew 12 = .ok (.lload_n 1, 1) := by decide +kernel
theorem dX6_manyNew_13 : decode cX6_manyNew 13 = .ok (.aload_n 0, 1) := by decide +kernel
theorem dX6_manyNew_14 : decode cX6_manyNew 14 = .ok (.getfield 24, 3) := by decide +kernel
theorem dX6_manyNew_17 : decode cX6_manyNew 17 = .ok (.iload_n 3, 1) := by decide +kernel
theorem dX6_manyNew_18 : decode cX6_manyNew 18 = .ok (.iaload, 1) := by decide +kernel
theorem dX6_manyNew_19 : decode cX6_manyNew 19 = .ok (.ifCond .le 14, 3) := by decide +kernel
theorem dX6_manyNew_22 : decode cX6_manyNew 22 = .ok (.lconst 1, 1) := by decide +kernel
theorem dX6_manyNew_23 : decode cX6_manyNew 23 = .ok (.aload_n 0, 1) := by decide +kernel
theorem dX6_manyNew_24 : decode cX6_manyNew 24 = .ok (.getfield 17, 3) := by decide +kernel
theorem dX6_manyNew_27 : decode cX6_manyNew 27 = .ok (.iload_n 3, 1) := by decide +kernel
theorem dX6_manyNew_28 : decode cX6_manyNew 28 = .ok (.iaload, 1) := by decide +kernel
theorem dX6_manyNew_29 : decode cX6_manyNew 29 = .ok (.lshl, 1) := by decide +kernel
theorem dX6_manyNew_30 : decode cX6_manyNew 30 = .ok (.goto 4, 3) := by decide +kernel
theorem dX6_manyNew_33 : decode cX6_manyNew 33 = .ok (.lconst 0, 1) := by decide +kernel
theorem dX6_manyNew_34 : decode cX6_manyNew 34 = .ok (.lor, 1) := by decide +kernel
theorem dX6_manyNew_35 : decode cX6_manyNew 35 = .ok (.lstore_n 1, 1) := by decide +kernel
theorem dX6_manyNew_36 : decode cX6_manyNew 36 = .ok (.iinc 3 1, 3) := by decide +kernel
theorem dX6_manyNew_39 : decode cX6_manyNew 39 = .ok (.goto (-35), 3) := by decide +kernel
theorem dX6_manyNew_42 : decode cX6_manyNew 42 = .ok (.bipush 8, 2) := by decide +kernel
theorem dX6_manyNew_44 : decode cX6_manyNew 44 = .ok (.istore_n 3, 1) := by decide +kernel
theorem dX6_manyNew_45 : decode cX6_manyNew 45 = .ok (.iconst 0, 1) := by decide +kernel
theorem dX6_manyNew_46 : decode cX6_manyNew 46 = .ok (.istore 4, 2) := by decide +kernel
theorem dX6_manyNew_48 : decode cX6_manyNew 48 = .ok (.iload 4, 2) := by decide +kernel
theorem dX6_manyNew_50 : decode cX6_manyNew 50 = .ok (.bipush 64, 2) := by decide +kernel
theorem dX6_manyNew_52 : decode cX6_manyNew 52 = .ok (.if_icmp .ge 21, 3) := by decide +kernel
theorem dX6_manyNew_55 : decode cX6_manyNew 55 = .ok (.iload_n 3, 1) := by decide +kernel
theorem dX6_manyNew_56 : decode cX6_manyNew 56 = .ok (.lload_n 1, 1) := by decide +kernel
theorem dX6_manyNew_57 : decode cX6_manyNew 57 = .ok (.iload 4, 2) := by decide +kernel
theorem dX6_manyNew_59 : decode cX6_manyNew 59 = .ok (.lushr, 1) := by decide +kernel
theorem dX6_manyNew_60 : decode cX6_manyNew 60 = .ok (.lconst 1, 1) := by decide +kernel
theorem dX6_manyNew_61 : decode cX6_manyNew 61 = .ok (.land, 1) := by decide +kernel
theorem dX6_manyNew_62 : decode cX6_manyNew 62 = .ok (.l2i, 1) := by decide +kernel
theorem dX6_manyNew_63 : decode cX6_manyNew 63 = .ok (.iconst 4, 1) := by decide +kernel
theorem dX6_manyNew_64 : decode cX6_manyNew 64 = .ok (.imul, 1) := by decide +kernel
theorem dX6_manyNew_65 : decode cX6_manyNew 65 = .ok (.iadd, 1) := by decide +kernel
theorem dX6_manyNew_66 : decode cX6_manyNew 66 = .ok (.istore_n 3, 1) := by decide +kernel
theorem dX6_manyNew_67 : decode cX6_manyNew 67 = .ok (.iinc 4 1, 3) := by decide +kernel
theorem dX6_manyNew_70 : decode cX6_manyNew 70 = .ok (.goto (-22), 3) := by decide +kernel
theorem dX6_manyNew_73 : decode cX6_manyNew 73 = .ok (.iload_n 3, 1) := by decide +kernel
theorem dX6_manyNew_74 : decode cX6_manyNew 74 = .ok (.bipush 64, 2) := by decide +kernel
theorem dX6_manyNew_76 : decode cX6_manyNew 76 = .ok (.if_icmp .le 8, 3) := by decide +kernel
theorem dX6_manyNew_79 : decode cX6_manyNew 79 = .ok (.bipush 64, 2) := by decide +kernel
theorem dX6_manyNew_81 : decode cX6_manyNew 81 = .ok (.goto 4, 3) := by decide +kernel
theorem dX6_manyNew_84 : decode cX6_manyNew 84 = .ok (.iload_n 3, 1) := by decide +kernel
theorem dX6_manyNew_85 : decode cX6_manyNew 85 = .ok (.ireturn, 1) := by decide +kernel
theorem dX6_oldAbove_0 : decode cX6_oldAbove 0 = .ok (.aload_n 0, 1) := by decide +kernel
theorem dX6_oldAbove_1 : decode cX6_oldAbove 1 = .ok (.getfield 24, 3) := by decide +kernel
theorem dX6_oldAbove_4 : decode cX6_oldAbove 4 = .ok (.iconst 0, 1) := by decide +kernel
theorem dX6_oldAbove_5 : decode cX6_oldAbove 5 = .ok (.iaload, 1) := by decide +kernel
theorem dX6_oldAbove_6 : decode cX6_oldAbove 6 = .ok (.istore_n 2, 1) := by decide +kernel
theorem dX6_oldAbove_7 : decode cX6_oldAbove 7 = .ok (.iconst 0, 1) := by decide +kernel
theorem dX6_oldAbove_8 : decode cX6_oldAbove 8 = .ok (.istore_n 3, 1) := by decide +kernel
theorem dX6_oldAbove_9 : decode cX6_oldAbove 9 = .ok (.iload_n 2, 1) := by decide +kernel
theorem dX6_oldAbove_10 : decode cX6_oldAbove 10 = .ok (.iload_n 1, 1) := by decide +kernel
theorem dX6_oldAbove_11 : decode cX6_oldAbove 11 = .ok (.if_icmp .gt 18, 3) := by decide +kernel
theorem dX6_oldAbove_14 : decode cX6_oldAbove 14 = .ok (.iinc 3 1, 3) := by decide +kernel
theorem dX6_oldAbove_17 : decode cX6_oldAbove 17 = .ok (.iload_n 2, 1) := by decide +kernel
theorem dX6_oldAbove_18 : decode cX6_oldAbove 18 = .ok (.aload_n 0, 1) := by decide +kernel
theorem dX6_oldAbove_19 : decode cX6_oldAbove 19 = .ok (.getfield 24, 3) := by decide +kernel
theorem dX6_oldAbove_22 : decode cX6_oldAbove 22 = .ok (.iload_n 3, 1) := by decide +kernel
theorem dX6_oldAbove_23 : decode cX6_oldAbove 23 = .ok (.iaload, 1) := by decide +kernel
theorem dX6_oldAbove_24 : decode cX6_oldAbove 24 = .ok (.iadd, 1) := by decide +kernel
theorem dX6_oldAbove_25 : decode cX6_oldAbove 25 = .ok (.istore_n 2, 1) := by decide +kernel
theorem dX6_oldAbove_26 : decode cX6_oldAbove 26 = .ok (.goto (-17), 3) := by decide +kernel
theorem dX6_oldAbove_29 : decode cX6_oldAbove 29 = .ok (.aload_n 0, 1) := by decide +kernel
theorem dX6_oldAbove_30 : decode cX6_oldAbove 30 = .ok (.getfield 21, 3) := by decide +kernel
theorem dX6_oldAbove_33 : decode cX6_oldAbove 33 = .ok (.iload_n 3, 1) := by decide +kernel
theorem dX6_oldAbove_34 : decode cX6_oldAbove 34 = .ok (.iaload, 1) := by decide +kernel
theorem dX6_oldAbove_35 : decode cX6_oldAbove 35 = .ok (.ireturn, 1) := by decide +kernel
set_option maxRecDepth 20000 in
theorem ggX6_drawAnew_X6_manyNew : GoodIn wsX6_drawAnew wsX6_manyNew := goodIn_r _ [9, 1, 10, 3, 30, 31, 32, 33, 34, 35, 36, 37, 38, 39, 40, 41, 42, 43, 44] (by decide +kernel) (by decide +kernel)
set_option maxRecDepth 20000 in
theorem gX6_drawAnew_X6_manyNew : GoodIn wsX6_drawAnew (wsV RX6 111 RX6 yX6_manyNew wsX6_manyNew) := goodIn_app (goodIn_of _ (by decide +kernel)) ggX6_drawAnew_X6_manyNew
set_option maxRecDepth 20000 in
theorem ggX6_drawAnew_X6_next : GoodIn wsX6_drawAnew wsX6_next := goodIn_r _ [14, 15, 16, 30, 31, 32, 33, 34, 35, 36, 37, 38, 39, 40, 41, 42, 43, 44] (by decide +kernel) (by decide +kernel)
set_option maxRecDepth 20000 in
theorem gX6_drawAnew_X6_next : GoodIn wsX6_drawAnew (wsV RX6 59 RX6 yX6_next wsX6_next) := goodIn_app (goodIn_of _ (by decide +kernel)) ggX6_drawAnew_X6_next
set_option maxRecDepth 20000 in
theorem ggX6_drawAnew_X6_drawCell : GoodIn wsX6_drawAnew wsX6_drawCell := goodIn_r _ [20, 21, 11, 12, 13, 8, 14, 15, 16, 22, 23, 24, 25, 30, 31, 32, 33, 34, 35, 36, 37, 38, 39, 40, 41, 42, 43, 44] (by decide +kernel) (by decide +kernel)
set_option maxRecDepth 20000 in
theorem gX6_drawAnew_X6_drawCell : GoodIn wsX6_drawAnew (wsV RX6 72 RX6 yX6_drawCell wsX6_drawCell) := goodIn_app (goodIn_of _ (by decide +kernel)) ggX6_drawAnew_X6_drawCell
set_option maxRecDepth 20000 in
theorem ggX6_drawAnew_X6_oldAbove : GoodIn wsX6_drawAnew wsX6_oldAbove := goodIn_r _ [29, 10, 2, 30, 31, 32, 33, 34, 35, 36, 37, 38, 39, 40, 41, 42, 43, 44] (by decide +kernel) (by decide +kernel)
set_option maxRecDepth 20000 in
theorem gX6_drawAnew_X6_oldAbove : GoodIn wsX6_drawAnew (wsV RX6 114 RX6 yX6_oldAbove wsX6_oldAbove) := goodIn_app (goodIn_of _ (by decide +kernel)) ggX6_drawAnew_X6_oldAbove
theorem dX6_drawAnew_0 : decode cX6_drawAnew 0 = .ok (.aload_n 0, 1) := by decide +kernel
theorem dX6_drawAnew_1 : decode cX6_drawAnew 1 = .ok (.invokevirtual 111, 3) := by decide +kernel
theorem dX6_drawAnew_4 : decode cX6_drawAnew 4 = .ok (.istore_n 2, 1) := by decide +kernel
theorem dX6_drawAnew_5 : decode cX6_drawAnew 5 = .ok (.iconst 0, 1) := by decide +kernel
theorem dX6_drawAnew_6 : decode cX6_drawAnew 6 = .ok (.istore_n 3, 1) := by decide +kernel
theorem dX6_drawAnew_7 : decode cX6_drawAnew 7 = .ok (.iload_n 3, 1) := by decide +kernel
theorem dX6_drawAnew_8 : decode cX6_drawAnew 8 = .ok (.aload_n 0, 1) := by decide +kernel
theorem dX6_drawAnew_9 : decode cX6_drawAnew 9 = .ok (.getfield 69, 3) := by decide +kernel
theorem dX6_drawAnew_12 : decode cX6_drawAnew 12 = .ok (.if_icmp .ge 21, 3) := by decide +kernel
theorem dX6_drawAnew_15 : decode cX6_drawAnew 15 = .ok (.aload_n 0, 1) := by decide +kernel
theorem dX6_drawAnew_16 : decode cX6_drawAnew 16 = .ok (.getfield 21, 3) := by decide +kernel
theorem dX6_drawAnew_19 : decode cX6_drawAnew 19 = .ok (.iload_n 3, 1) := by decide +kernel
theorem dX6_drawAnew_20 : decode cX6_drawAnew 20 = .ok (.aload_n 0, 1) := by decide +kernel
theorem dX6_drawAnew_21 : decode cX6_drawAnew 21 = .ok (.getfield 17, 3) := by decide +kernel
theorem dX6_drawAnew_24 : decode cX6_drawAnew 24 = .ok (.iload_n 3, 1) := by decide +kernel
theorem dX6_drawAnew_25 : decode cX6_drawAnew 25 = .ok (.iaload, 1) := by decide +kernel
theorem dX6_drawAnew_26 : decode cX6_drawAnew 26 = .ok (.iastore, 1) := by decide +kernel
theorem dX6_drawAnew_27 : decode cX6_drawAnew 27 = .ok (.iinc 3 1, 3) := by decide +kernel
theorem dX6_drawAnew_30 : decode cX6_drawAnew 30 = .ok (.goto (-23), 3) := by decide +kernel
theorem dX6_drawAnew_33 : decode cX6_drawAnew 33 = .ok (.iload_n 1, 1) := by decide +kernel
theorem dX6_drawAnew_34 : decode cX6_drawAnew 34 = .ok (.ifCond .ne 7, 3) := by decide +kernel
theorem dX6_drawAnew_37 : decode cX6_drawAnew 37 = .ok (.iconst 0, 1) := by decide +kernel
theorem dX6_drawAnew_38 : decode cX6_drawAnew 38 = .ok (.goto 9, 3) := by decide +kernel
theorem dX6_drawAnew_41 : decode cX6_drawAnew 41 = .ok (.aload_n 0, 1) := by decide +kernel
theorem dX6_drawAnew_42 : decode cX6_drawAnew 42 = .ok (.invokevirtual 59, 3) := by decide +kernel
theorem dX6_drawAnew_45 : decode cX6_drawAnew 45 = .ok (.iload_n 1, 1) := by decide +kernel
theorem dX6_drawAnew_46 : decode cX6_drawAnew 46 = .ok (.irem, 1) := by decide +kernel
theorem dX6_drawAnew_47 : decode cX6_drawAnew 47 = .ok (.istore_n 3, 1) := by decide +kernel
theorem dX6_drawAnew_48 : decode cX6_drawAnew 48 = .ok (.iconst 0, 1) := by decide +kernel
theorem dX6_drawAnew_49 : decode cX6_drawAnew 49 = .ok (.istore 4, 2) := by decide +kernel
theorem dX6_drawAnew_51 : decode cX6_drawAnew 51 = .ok (.iload 4, 2) := by decide +kernel
theorem dX6_drawAnew_53 : decode cX6_drawAnew 53 = .ok (.iload_n 2, 1) := by decide +kernel
theorem dX6_drawAnew_54 : decode cX6_drawAnew 54 = .ok (.if_icmp .ge 66, 3) := by decide +kernel
theorem dX6_drawAnew_57 : decode cX6_drawAnew 57 = .ok (.aload_n 0, 1) := by decide +kernel
theorem dX6_drawAnew_58 : decode cX6_drawAnew 58 = .ok (.invokevirtual 59, 3) := by decide +kernel
theorem dX6_drawAnew_61 : decode cX6_drawAnew 61 = .ok (.sipush 256, 3) := by decide +kernel
theorem dX6_drawAnew_64 : decode cX6_drawAnew 64 = .ok (.irem, 1) := by decide +kernel
theorem dX6_drawAnew_65 : decode cX6_drawAnew 65 = .ok (.aload_n 0, 1) := by decide +kernel
theorem dX6_drawAnew_66 : decode cX6_drawAnew 66 = .ok (.getfield 84, 3) := by decide +kernel
theorem dX6_drawAnew_69 : decode cX6_drawAnew 69 = .ok (.if_icmp .lt 7, 3) := by decide +kernel
theorem dX6_drawAnew_72 : decode cX6_drawAnew 72 = .ok (.iload_n 1, 1) := by decide +kernel
theorem dX6_drawAnew_73 : decode cX6_drawAnew 73 = .ok (.ifCond .ne 7, 3) := by decide +kernel
theorem dX6_drawAnew_76 : decode cX6_drawAnew 76 = .ok (.iconst 1, 1) := by decide +kernel
theorem dX6_drawAnew_77 : decode cX6_drawAnew 77 = .ok (.goto 4, 3) := by decide +kernel
theorem dX6_drawAnew_80 : decode cX6_drawAnew 80 = .ok (.iconst 0, 1) := by decide +kernel
theorem dX6_drawAnew_81 : decode cX6_drawAnew 81 = .ok (.istore 5, 2) := by decide +kernel
theorem dX6_drawAnew_83 : decode cX6_drawAnew 83 = .ok (.aload_n 0, 1) := by decide +kernel
theorem dX6_drawAnew_84 : decode cX6_drawAnew 84 = .ok (.getfield 17, 3) := by decide +kernel
theorem dX6_drawAnew_87 : decode cX6_drawAnew 87 = .ok (.iload 4, 2) := by decide +kernel
theorem dX6_drawAnew_89 : decode cX6_drawAnew 89 = .ok (.iload 5, 2) := by decide +kernel
theorem dX6_drawAnew_91 : decode cX6_drawAnew 91 = .ok (.ifCond .eq 10, 3) := by decide +kernel
theorem dX6_drawAnew_94 : decode cX6_drawAnew 94 = .ok (.aload_n 0, 1) := by decide +kernel
theorem dX6_drawAnew_95 : decode cX6_drawAnew 95 = .ok (.invokevirtual 72, 3) := by decide +kernel
theorem dX6_drawAnew_98 : decode cX6_drawAnew 98 = .ok (.goto 15, 3) := by decide +kernel
theorem dX6_drawAnew_101 : decode cX6_drawAnew 101 = .ok (.aload_n 0, 1) := by decide +kernel
theorem dX6_drawAnew_102 : decode cX6_drawAnew 102 = .ok (.iload_n 3, 1) := by decide +kernel
theorem dX6_drawAnew_103 : decode cX6_drawAnew 103 = .ok (.iload 4, 2) := by decide +kernel
theorem dX6_drawAnew_105 : decode cX6_drawAnew 105 = .ok (.iload_n 1, 1) := by decide +kernel
theorem dX6_drawAnew_106 : decode cX6_drawAnew 106 = .ok (.imul, 1) := by decide +kernel
theorem dX6_drawAnew_107 : decode cX6_drawAnew 107 = .ok (.iadd, 1) := by decide +kernel
theorem dX6_drawAnew_108 : decode cX6_drawAnew 108 = .ok (.iload_n 2, 1) := by decide +kernel
theorem dX6_drawAnew_109 : decode cX6_drawAnew 109 = .ok (.idiv, 1) := by decide +kernel
theorem dX6_drawAnew_110 : decode cX6_drawAnew 110 = .ok (.invokevirtual 114, 3) := by decide +kernel
theorem dX6_drawAnew_113 : decode cX6_drawAnew 113 = .ok (.iastore, 1) := by decide +kernel
theorem dX6_drawAnew_114 : decode cX6_drawAnew 114 = .ok (.iinc 4 1, 3) := by decide +kernel
theorem dX6_drawAnew_117 : decode cX6_drawAnew 117 = .ok (.goto (-66), 3) := by decide +kernel
theorem dX6_drawAnew_120 : decode cX6_drawAnew 120 = .ok (.aload_n 0, 1) := by decide +kernel
theorem dX6_drawAnew_121 : decode cX6_drawAnew 121 = .ok (.iload_n 2, 1) := by decide +kernel
theorem dX6_drawAnew_122 : decode cX6_drawAnew 122 = .ok (.putfield 69, 3) := by decide +kernel
theorem dX6_drawAnew_125 : decode cX6_drawAnew 125 = .ok (.return_, 1) := by decide +kernel
set_option maxRecDepth 20000 in
theorem ggX6_read_X6_isDirection : GoodIn wsX6_read wsX6_isDirection := goodIn_r _ [11, 12, 13, 10, 14] (by decide +kernel) (by decide +kernel)
set_option maxRecDepth 20000 in
theorem gX6_read_X6_isDirection : GoodIn wsX6_read (va_wsS RX6 95 yX6_isDirection wsX6_isDirection) := goodIn_app (goodIn_of _ (by decide +kernel)) ggX6_read_X6_isDirection
set_option maxRecDepth 20000 in
theorem ggX6_read_X6_in : GoodIn wsX6_read wsX6_in := goodIn_r _ [14] (by decide +kernel) (by decide +kernel)
set_option maxRecDepth 20000 in
theorem gX6_read_X6_in : GoodIn wsX6_read (va_wsS RX6 37 yX6_in wsX6_in) := goodIn_app (goodIn_of _ (by decide +kernel)) ggX6_read_X6_in
set_option maxRecDepth 20000 in
theorem ggX6_read_X6_goesWell : GoodIn wsX6_read wsX6_goesWell := goodIn_r _ [18, 19, 88, 89, 90, 91, 92, 93, 94, 95, 96, 97, 98, 99, 100, 101, 102] (by decide +kernel) (by decide +kernel)
set_option maxRecDepth 20000 in
theorem gX6_read_X6_goesWell : GoodIn wsX6_read (wsV RX6 53 RX6 yX6_goesWell wsX6_goesWell) := goodIn_app (goodIn_of _ (by decide +kernel)) ggX6_read_X6_goesWell
set_option maxRecDepth 20000 in
theorem ggX6_read_X6_weightOf : GoodIn wsX6_read wsX6_weightOf := goodIn_r _ [23, 24, 25, 26, 10, 27, 28, 29, 30, 31, 7, 32, 33, 34, 12, 13, 14, 88, 89, 90, 91, 92, 93, 94, 95, 96, 97, 98, 99, 100, 101, 102] (by decide +kernel) (by decide +kernel)
set_option maxRecDepth 20000 in
theorem gX6_read_X6_weightOf : GoodIn wsX6_read (wsV RX6 118 RX6 yX6_weightOf wsX6_weightOf) := goodIn_app (goodIn_of _ (by decide +kernel)) ggX6_read_X6_weightOf
set_option maxRecDepth 20000 in
theorem ggX6_read_X6_judge : GoodIn wsX6_read wsX6_judge := goodIn_r _ [38, 3, 39, 40, 41, 42, 88, 89, 90, 91, 92, 93, 94, 95, 96, 97, 98, 99, 100, 101, 102] (by decide +kernel) (by decide +kernel)
set_option maxRecDepth 20000 in
theorem gX6_read_X6_judge : GoodIn wsX6_read (wsV RX6 122 RX6 yX6_judge wsX6_judge) := goodIn_app (goodIn_of _ (by decide +kernel)) ggX6_read_X6_judge
set_option maxRecDepth 20000 in
theorem ggX6_read_X6_drawAnew : GoodIn wsX6_read wsX6_drawAnew := goodIn_r _ [46, 3, 47, 5, 42, 48, 49, 50, 10, 51, 4, 52, 53, 54, 55, 56, 57, 58, 59, 60, 61, 7, 62, 63, 64, 65, 66, 67, 68, 69, 88, 89, 90, 91, 92, 93, 94, 95, 96, 97, 98, 99, 100, 101, 102] (by decide +kernel) (by decide +kernel)
set_option maxRecDepth 20000 in
theorem gX6_read_X6_drawAnew : GoodIn wsX6_read (wsV RX6 126 RX6 yX6_drawAnew wsX6_drawAnew) := goodIn_app (goodIn_of _ (by decide +kernel)) ggX6_read_X6_drawAnew
set_option maxRecDepth 20000 in
theorem ggX6_read_X6_areNone : GoodIn wsX6_read wsX6_areNone := goodIn_r _ [73, 6, 88, 89, 90, 91, 92, 93, 94, 95, 96, 97, 98, 99, 100, 101, 102] (by decide +kernel) (by decide +kernel)
set_option maxRecDepth 20000 in
theorem gX6_read_X6_areNone : GoodIn wsX6_read (wsV RX6 129 RX6 yX6_areNone wsX6_areNone) := goodIn_app (goodIn_of _ (by decide +kernel)) ggX6_read_X6_areNone
set_option maxRecDepth 20000 in
theorem ggX6_read_X6_believeAll : GoodIn wsX6_read wsX6_believeAll := goodIn_r _ [77, 6, 7, 88, 89, 90, 91, 92, 93, 94, 95, 96, 97, 98, 99, 100, 101, 102] (by decide +kernel) (by decide +kernel)
set_option maxRecDepth 20000 in
theorem gX6_read_X6_believeAll : GoodIn wsX6_read (wsV RX6 75 RX6 yX6_believeAll wsX6_believeAll) := goodIn_app (goodIn_of _ (by decide +kernel)) ggX6_read_X6_believeAll
set_option maxRecDepth 20000 in
theorem ggX6_read_X6_halve : GoodIn wsX6_read wsX6_halve := goodIn_r _ [81, 82, 6, 83, 84, 85, 86, 10, 87, 88, 89, 90, 91, 92, 93, 94, 95, 96, 97, 98, 99, 100, 101, 102] (by decide +kernel) (by decide +kernel)
set_option maxRecDepth 20000 in
theorem gX6_read_X6_halve : GoodIn wsX6_read (wsV RX6 102 RX6 yX6_halve wsX6_halve) := goodIn_app (goodIn_of _ (by decide +kernel)) ggX6_read_X6_halve
theorem dX6_read_0 : decode cX6_read 0 = .ok (.iload_n 1, 1) := by decide +kernel
theorem dX6_read_1 : decode cX6_read 1 = .ok (.invokestatic 95, 3) := by decide +kernel
theorem dX6_read_4 : decode cX6_read 4 = .ok (.istore_n 3, 1) := by decide +kernel
theorem dX6_read_5 : decode cX6_read 5 = .ok (.iload_n 2, 1) := by decide +kernel
theorem dX6_read_6 : decode cX6_read 6 = .ok (.iconst 0, 1) := by decide +kernel
theorem dX6_read_7 : decode cX6_read 7 = .ok (.bipush 7, 2) := by decide +kernel
theorem dX6_read_9 : decode cX6_read 9 = .ok (.invokestatic 37, 3) := by decide +kernel
theorem dX6_read_12 : decode cX6_read 12 = .ok (.istore 4, 2) := by decide +kernel
theorem dX6_read_14 : decode cX6_read 14 = .ok (.aload_n 0, 1) := by decide +kernel
theorem dX6_read_15 : decode cX6_read 15 = .ok (.iload_n 3, 1) := by decide +kernel
theorem dX6_read_16 : decode cX6_read 16 = .ok (.ifCond .ne 7, 3) := by decide +kernel
theorem dX6_read_19 : decode cX6_read 19 = .ok (.iconst 1, 1) := by decide +kernel
theorem dX6_read_20 : decode cX6_read 20 = .ok (.goto 34, 3) := by decide +kernel
theorem dX6_read_23 : decode cX6_read 23 = .ok (.iload 4, 2) := by decide +kernel
theorem dX6_read_25 : decode cX6_read 25 = .ok (.ifCond .ne 7, 3) := by decide +kernel
theorem dX6_read_28 : decode cX6_read 28 = .ok (.iconst 2, 1) := by decide +kernel
theorem dX6_read_29 : decode cX6_read 29 = .ok (.goto 25, 3) := by decide +kernel
theorem dX6_read_32 : decode cX6_read 32 = .ok (.aload_n 0, 1) := by decide +kernel
theorem dX6_read_33 : decode cX6_read 33 = .ok (.getfield 49, 3) := by decide +kernel
theorem dX6_read_36 : decode cX6_read 36 = .ok (.ifCond .eq 13, 3) := by decide +kernel
theorem dX6_read_39 : decode cX6_read 39 = .ok (.aload_n 0, 1) := by decide +kernel
theorem dX6_read_40 : decode cX6_read 40 = .ok (.getfield 78, 3) := by decide +kernel
theorem dX6_read_43 : decode cX6_read 43 = .ok (.sipush 300, 3) := by decide +kernel
theorem dX6_read_46 : decode cX6_read 46 = .ok (.if_icmp .ne 7, 3) := by decide +kernel
theorem dX6_read_49 : decode cX6_read 49 = .ok (.iconst 3, 1) := by decide +kernel
theorem dX6_read_50 : decode cX6_read 50 = .ok (.goto 4, 3) := by decide +kernel
theorem dX6_read_53 : decode cX6_read 53 = .ok (.iconst 0, 1) := by decide +kernel
theorem dX6_read_54 : decode cX6_read 54 = .ok (.invokevirtual 53, 3) := by decide +kernel
theorem dX6_read_57 : decode cX6_read 57 = .ok (.ifCond .ne 5, 3) := by decide +kernel
theorem dX6_read_60 : decode cX6_read 60 = .ok (.iconst 0, 1) := by decide +kernel
theorem dX6_read_61 : decode cX6_read 61 = .ok (.ireturn, 1) := by decide +kernel
theorem dX6_read_62 : decode cX6_read 62 = .ok (.iconst 0, 1) := by decide +kernel
theorem dX6_read_63 : decode cX6_read 63 = .ok (.istore 5, 2) := by decide +kernel
theorem dX6_read_65 : decode cX6_read 65 = .ok (.iconst 0, 1) := by decide +kernel
theorem dX6_read_66 : decode cX6_read 66 = .ok (.istore 6, 2) := by decide +kernel
theorem dX6_read_68 : decode cX6_read 68 = .ok (.iload 6, 2) := by decide +kernel
theorem dX6_read_70 : decode cX6_read 70 = .ok (.aload_n 0, 1) := by decide +kernel
theorem dX6_read_71 : decode cX6_read 71 = .ok (.getfield 69, 3) := by decide +kernel
theorem dX6_read_74 : decode cX6_read 74 = .ok (.if_icmp .ge 41, 3) := by decide +kernel
theorem dX6_read_77 : decode cX6_read 77 = .ok (.aload_n 0, 1) := by decide +kernel
theorem dX6_read_78 : decode cX6_read 78 = .ok (.getfield 24, 3) := by decide +kernel
theorem dX6_read_81 : decode cX6_read 81 = .ok (.iload 6, 2) := by decide +kernel
theorem dX6_read_83 : decode cX6_read 83 = .ok (.aload_n 0, 1) := by decide +kernel
theorem dX6_read_84 : decode cX6_read 84 = .ok (.aload_n 0, 1) := by decide +kernel
theorem dX6_read_85 : decode cX6_read 85 = .ok (.getfield 17, 3) := by decide +kernel
theorem dX6_read_88 : decode cX6_read 88 = .ok (.iload 6, 2) := by decide +kernel
theorem dX6_read_90 : decode cX6_read 90 = .ok (.iaload, 1) := by decide +kernel
theorem dX6_read_91 : decode cX6_read 91 = .ok (.iload_n 1, 1) := by decide +kernel
theorem dX6_read_92 : decode cX6_read 92 = .ok (.iload_n 2, 1) := by decide +kernel
theorem dX6_read_93 : decode cX6_read 93 = .ok (.invokevirtual 118, 3) := by decide +kernel
theorem dX6_read_96 : decode cX6_read 96 = .ok (.iastore, 1) := by decide +kernel
theorem dX6_read_97 : decode cX6_read 97 = .ok (.iload 5, 2) := by decide +kernel
theorem dX6_read_99 : decode cX6_read 99 = .ok (.aload_n 0, 1) := by decide +kernel
theorem dX6_read_100 : decode cX6_read 100 = .ok (.getfield 24, 3) := by decide +kernel
theorem dX6_read_103 : decode cX6_read 103 = .ok (.iload 6, 2) := by decide +kernel
theorem dX6_read_105 : decode cX6_read 105 = .ok (.iaload, 1) := by decide +kernel
theorem dX6_read_106 : decode cX6_read 106 = .ok (.iadd, 1) := by decide +kernel
theorem dX6_read_107 : decode cX6_read 107 = .ok (.istore 5, 2) := by decide +kernel
theorem dX6_read_109 : decode cX6_read 109 = .ok (.iinc 6 1, 3) := by decide +kernel
theorem dX6_read_112 : decode cX6_read 112 = .ok (.goto (-44), 3) := by decide +kernel
theorem dX6_read_115 : decode cX6_read 115 = .ok (.aload_n 0, 1) := by decide +kernel
theorem dX6_read_116 : decode cX6_read 116 = .ok (.iload 5, 2) := by decide +kernel
theorem dX6_read_118 : decode cX6_read 118 = .ok (.invokevirtual 122, 3) := by decide +kernel
theorem dX6_read_121 : decode cX6_read 121 = .ok (.aload_n 0, 1) := by decide +kernel
theorem dX6_read_122 : decode cX6_read 122 = .ok (.iload 5, 2) := by decide +kernel
theorem dX6_read_124 : decode cX6_read 124 = .ok (.invokevirtual 126, 3) := by decide +kernel
theorem dX6_read_127 : decode cX6_read 127 = .ok (.iconst 0, 1) := by decide +kernel
theorem dX6_read_128 : decode cX6_read 128 = .ok (.istore 6, 2) := by decide +kernel
theorem dX6_read_130 : decode cX6_read 130 = .ok (.iload 6, 2) := by decide +kernel
theorem dX6_read_132 : decode cX6_read 132 = .ok (.bipush 64, 2) := by decide +kernel
theorem dX6_read_134 : decode cX6_read 134 = .ok (.if_icmp .ge 42, 3) := by decide +kernel
theorem dX6_read_137 : decode cX6_read 137 = .ok (.aload_n 0, 1) := by decide +kernel
theorem dX6_read_138 : decode cX6_read 138 = .ok (.getfield 27, 3) := by decide +kernel
theorem dX6_read_141 : decode cX6_read 141 = .ok (.iload 6, 2) := by decide +kernel
theorem dX6_read_143 : decode cX6_read 143 = .ok (.dup2, 1) := by decide +kernel
theorem dX6_read_144 : decode cX6_read 144 = .ok (.laload, 1) := by decide +kernel
theorem dX6_read_145 : decode cX6_read 145 = .ok (.aload_n 0, 1) := by decide +kernel
theorem dX6_read_146 : decode cX6_read 146 = .ok (.getfield 7, 3) := by decide +kernel
theorem dX6_read_149 : decode cX6_read 149 = .ok (.iload 6, 2) := by decide +kernel
theorem dX6_read_151 : decode cX6_read 151 = .ok (.baload, 1) := by decide +kernel
theorem dX6_read_152 : decode cX6_read 152 = .ok (.ifCond .eq 7, 3) := by decide +kernel
theorem dX6_read_155 : decode cX6_read 155 = .ok (.lconst 0, 1) := by decide +kernel
theorem dX6_read_156 : decode cX6_read 156 = .ok (.goto 12, 3) := by decide +kernel
theorem dX6_read_159 : decode cX6_read 159 = .ok (.aload_n 0, 1) := by decide +kernel
theorem dX6_read_160 : decode cX6_read 160 = .ok (.iload 6, 2) := by decide +kernel
theorem dX6_read_162 : decode cX6_read 162 = .ok (.iload_n 1, 1) := by decide +kernel
theorem dX6_read_163 : decode cX6_read 163 = .ok (.iload_n 2, 1) := by decide +kernel
theorem dX6_read_164 : decode cX6_read 164 = .ok (.invokevirtual 118, 3) := by decide +kernel
theorem dX6_read_167 : decode cX6_read 167 = .ok (.i2l, 1) := by decide +kernel
theorem dX6_read_168 : decode cX6_read 168 = .ok (.lmul, 1) := by decide +kernel
theorem dX6_read_169 : decode cX6_read 169 = .ok (.lastore, 1) := by decide +kernel
theorem dX6_read_170 : decode cX6_read 170 = .ok (.iinc 6 1, 3) := by decide +kernel
theorem dX6_read_173 : decode cX6_read 173 = .ok (.goto (-43), 3) := by decide +kernel
theorem dX6_read_176 : decode cX6_read 176 = .ok (.aload_n 0, 1) := by decide +kernel
theorem dX6_read_177 : decode cX6_read 177 = .ok (.invokevirtual 129, 3) := by decide +kernel
theorem dX6_read_180 : decode cX6_read 180 = .ok (.ifCond .eq 7, 3) := by decide +kernel
theorem dX6_read_183 : decode cX6_read 183 = .ok (.aload_n 0, 1) := by decide +kernel
theorem dX6_read_184 : decode cX6_read 184 = .ok (.invokevirtual 75, 3) := by decide +kernel
theorem dX6_read_187 : decode cX6_read 187 = .ok (.aload_n 0, 1) := by decide +kernel
theorem dX6_read_188 : decode cX6_read 188 = .ok (.invokevirtual 102, 3) := by decide +kernel
theorem dX6_read_191 : decode cX6_read 191 = .ok (.aload_n 0, 1) := by decide +kernel
theorem dX6_read_192 : decode cX6_read 192 = .ok (.dup, 1) := by decide +kernel
theorem dX6_read_193 : decode cX6_read 193 = .ok (.getfield 78, 3) := by decide +kernel
theorem dX6_read_196 : decode cX6_read 196 = .ok (.iconst 1, 1) := by decide +kernel
theorem dX6_read_197 : decode cX6_read 197 = .ok (.iadd, 1) := by decide +kernel
theorem dX6_read_198 : decode cX6_read 198 = .ok (.putfield 78, 3) := by decide +kernel
theorem dX6_read_201 : decode cX6_read 201 = .ok (.iload 5, 2) := by decide +kernel
theorem dX6_read_203 : decode cX6_read 203 = .ok (.ireturn, 1) := by decide +kernel
set_option maxRecDepth 20000 in
theorem ggX6_toRead_X6_isCell : GoodIn wsX6_toRead wsX6_isCell := goodIn_r _ [5, 6, 7, 4, 8] (by decide +kernel) (by decide +kernel)
set_option maxRecDepth 20000 in
theorem gX6_toRead_X6_isCell : GoodIn wsX6_toRead (va_wsS RX6 41 yX6_isCell wsX6_isCell) := goodIn_app (goodIn_of _ (by decide +kernel)) ggX6_toRead_X6_isCell
set_option maxRecDepth 20000 in
theorem ggX6_toRead_X6_isDirection : GoodIn wsX6_toRead wsX6_isDirection := goodIn_r _ [11, 6, 7, 4, 8] (by decide +kernel) (by decide +kernel)
set_option maxRecDepth 20000 in
theorem gX6_toRead_X6_isDirection : GoodIn wsX6_toRead (va_wsS RX6 95 yX6_isDirection wsX6_isDirection) := goodIn_app (goodIn_of _ (by decide +kernel)) ggX6_toRead_X6_isDirection
set_option maxRecDepth 20000 in
theorem ggX6_toRead_X6_goesWell : GoodIn wsX6_toRead wsX6_goesWell := goodIn_r _ [15, 16, 25, 26, 27, 28, 29, 30, 31, 32, 33, 34, 35, 36, 37, 38, 39] (by decide +kernel) (by decide +kernel)
set_option maxRecDepth 20000 in
theorem gX6_toRead_X6_goesWell : GoodIn wsX6_toRead (wsV RX6 53 RX6 yX6_goesWell wsX6_goesWell) := goodIn_app (goodIn_of _ (by decide +kernel)) ggX6_toRead_X6_goesWell
set_option maxRecDepth 20000 in
theorem ggX6_toRead_X6_reads : GoodIn wsX6_toRead wsX6_reads := goodIn_r _ [20, 21, 22, 23, 4, 24, 1, 2, 3, 5, 6, 7, 8, 25, 26, 27, 28, 29, 30, 31, 32, 33, 34, 35, 36, 37, 38, 39] (by decide +kernel) (by decide +kernel)
set_option maxRecDepth 20000 in
theorem gX6_toRead_X6_reads : GoodIn wsX6_toRead (wsV RX6 66 RX6 yX6_reads wsX6_reads) := goodIn_app (goodIn_of _ (by decide +kernel)) ggX6_toRead_X6_reads
theorem dX6_toRead_0 : decode cX6_toRead 0 = .ok (.aload_n 0, 1) := by decide +kernel
theorem dX6_toRead_1 : decode cX6_toRead 1 = .ok (.iload_n 1, 1) := by decide +kernel
theorem dX6_toRead_2 : decode cX6_toRead 2 = .ok (.iload_n 2, 1) := by decide +kernel
theorem dX6_toRead_3 : decode cX6_toRead 3 = .ok (.invokestatic 41, 3) := by decide +kernel
theorem dX6_toRead_6 : decode cX6_toRead 6 = .ok (.ifCond .eq 14, 3) := by decide +kernel
theorem dX6_toRead_9 : decode cX6_toRead 9 = .ok (.iload_n 3, 1) := by decide +kernel
theorem dX6_toRead_10 : decode cX6_toRead 10 = .ok (.invokestatic 95, 3) := by decide +kernel
theorem dX6_toRead_13 : decode cX6_toRead 13 = .ok (.ifCond .eq 7, 3) := by decide +kernel
theorem dX6_toRead_16 : decode cX6_toRead 16 = .ok (.iconst 0, 1) := by decide +kernel
theorem dX6_toRead_17 : decode cX6_toRead 17 = .ok (.goto 4, 3) := by decide +kernel
theorem dX6_toRead_20 : decode cX6_toRead 20 = .ok (.iconst 1, 1) := by decide +kernel
theorem dX6_toRead_21 : decode cX6_toRead 21 = .ok (.invokevirtual 53, 3) := by decide +kernel
theorem dX6_toRead_24 : decode cX6_toRead 24 = .ok (.ifCond .ne 5, 3) := by decide +kernel
theorem dX6_toRead_27 : decode cX6_toRead 27 = .ok (.iconst 0, 1) := by decide +kernel
theorem dX6_toRead_28 : decode cX6_toRead 28 = .ok (.ireturn, 1) := by decide +kernel
theorem dX6_toRead_29 : decode cX6_toRead 29 = .ok (.aload_n 0, 1) := by decide +kernel
theorem dX6_toRead_30 : decode cX6_toRead 30 = .ok (.getfield 7, 3) := by decide +kernel
theorem dX6_toRead_33 : decode cX6_toRead 33 = .ok (.bipush 8, 2) := by decide +kernel
theorem dX6_toRead_35 : decode cX6_toRead 35 = .ok (.iload_n 2, 1) := by decide +kernel
theorem dX6_toRead_36 : decode cX6_toRead 36 = .ok (.imul, 1) := by decide +kernel
theorem dX6_toRead_37 : decode cX6_toRead 37 = .ok (.iload_n 1, 1) := by decide +kernel
theorem dX6_toRead_38 : decode cX6_toRead 38 = .ok (.iadd, 1) := by decide +kernel
theorem dX6_toRead_39 : decode cX6_toRead 39 = .ok (.baload, 1) := by decide +kernel
theorem dX6_toRead_40 : decode cX6_toRead 40 = .ok (.ifCond .eq 7, 3) := by decide +kernel
theorem dX6_toRead_43 : decode cX6_toRead 43 = .ok (.iconst (-1), 1) := by decide +kernel
theorem dX6_toRead_44 : decode cX6_toRead 44 = .ok (.goto 14, 3) := by decide +kernel
theorem dX6_toRead_47 : decode cX6_toRead 47 = .ok (.aload_n 0, 1) := by decide +kernel
theorem dX6_toRead_48 : decode cX6_toRead 48 = .ok (.bipush 8, 2) := by decide +kernel
theorem dX6_toRead_50 : decode cX6_toRead 50 = .ok (.iload_n 2, 1) := by decide +kernel
theorem dX6_toRead_51 : decode cX6_toRead 51 = .ok (.imul, 1) := by decide +kernel
theorem dX6_toRead_52 : decode cX6_toRead 52 = .ok (.iload_n 1, 1) := by decide +kernel
theorem dX6_toRead_53 : decode cX6_toRead 53 = .ok (.iadd, 1) := by decide +kernel
theorem dX6_toRead_54 : decode cX6_toRead 54 = .ok (.iload_n 3, 1) := by decide +kernel
theorem dX6_toRead_55 : decode cX6_toRead 55 = .ok (.invokevirtual 66, 3) := by decide +kernel
theorem dX6_toRead_58 : decode cX6_toRead 58 = .ok (.ireturn, 1) := by decide +kernel
set_option maxRecDepth 20000 in
theorem ggX6_samples_X6_goesWell : GoodIn wsX6_samples wsX6_goesWell := goodIn_r _ [7, 8, 9, 10, 11, 12, 13, 14, 15, 16, 17, 18, 19, 20, 21, 22, 23] (by decide +kernel) (by decide +kernel)
set_option maxRecDepth 20000 in
theorem gX6_samples_X6_goesWell : GoodIn wsX6_samples (wsV RX6 53 RX6 yX6_goesWell wsX6_goesWell) := goodIn_app (goodIn_of _ (by decide +kernel)) ggX6_samples_X6_goesWell
theorem dX6_samples_0 : decode cX6_samples 0 = .ok (.aload_n 0, 1) := by decide +kernel
theorem dX6_samples_1 : decode cX6_samples 1 = .ok (.aload_n 0, 1) := by decide +kernel
theorem dX6_samples_2 : decode cX6_samples 2 = .ok (.getfield 49, 3) := by decide +kernel
theorem dX6_samples_5 : decode cX6_samples 5 = .ok (.ifCond .eq 7, 3) := by decide +kernel
theorem dX6_samples_8 : decode cX6_samples 8 = .ok (.iconst 0, 1) := by decide +kernel
theorem dX6_samples_9 : decode cX6_samples 9 = .ok (.goto 4, 3) := by decide +kernel
theorem dX6_samples_12 : decode cX6_samples 12 = .ok (.iconst 1, 1) := by decide +kernel
theorem dX6_samples_13 : decode cX6_samples 13 = .ok (.invokevirtual 53, 3) := by decide +kernel
theorem dX6_samples_16 : decode cX6_samples 16 = .ok (.ifCond .eq 10, 3) := by decide +kernel
theorem dX6_samples_19 : decode cX6_samples 19 = .ok (.aload_n 0, 1) := by decide +kernel
theorem dX6_samples_20 : decode cX6_samples 20 = .ok (.getfield 69, 3) := by decide +kernel
theorem dX6_samples_23 : decode cX6_samples 23 = .ok (.goto 4, 3) := by decide +kernel
theorem dX6_samples_26 : decode cX6_samples 26 = .ok (.iconst 0, 1) := by decide +kernel
theorem dX6_samples_27 : decode cX6_samples 27 = .ok (.ireturn, 1) := by decide +kernel
set_option maxRecDepth 20000 in
theorem ggX6_sample_X6_in : GoodIn wsX6_sample wsX6_in := goodIn_r _ [7] (by decide +kernel) (by decide +kernel)
set_option maxRecDepth 20000 in
theorem gX6_sample_X6_in : GoodIn wsX6_sample (va_wsS RX6 37 yX6_in wsX6_in) := goodIn_app (goodIn_of _ (by decide +kernel)) ggX6_sample_X6_in
set_option maxRecDepth 20000 in
theorem ggX6_sample_X6_goesWell : GoodIn wsX6_sample wsX6_goesWell := goodIn_r _ [11, 12, 13, 14, 15, 16, 17, 18, 19, 20, 21, 22, 23, 24, 25, 26, 27] (by decide +kernel) (by decide +kernel)
set_option maxRecDepth 20000 in
theorem gX6_sample_X6_goesWell : GoodIn wsX6_sample (wsV RX6 53 RX6 yX6_goesWell wsX6_goesWell) := goodIn_app (goodIn_of _ (by decide +kernel)) ggX6_sample_X6_goesWell
theorem dX6_sample_0 : decode cX6_sample 0 = .ok (.aload_n 0, 1) := by decide +kernel
theorem dX6_sample_1 : decode cX6_sample 1 = .ok (.aload_n 0, 1) := by decide +kernel
theorem dX6_sample_2 : decode cX6_sample 2 = .ok (.getfield 49, 3) := by decide +kernel
theorem dX6_sample_5 : decode cX6_sample 5 = .ok (.ifCond .eq 21, 3) := by decide +kernel
theorem dX6_sample_8 : decode cX6_sample 8 = .ok (.iload_n 1, 1) := by decide +kernel
theorem dX6_sample_9 : decode cX6_sample 9 = .ok (.iconst 0, 1) := by decide +kernel
theorem dX6_sample_10 : decode cX6_sample 10 = .ok (.aload_n 0, 1) := by decide +kernel
theorem dX6_sample_11 : decode cX6_sample 11 = .ok (.getfield 69, 3) := by decide +kernel
theorem dX6_sample_14 : decode cX6_sample 14 = .ok (.iconst 1, 1) := by decide +kernel
theorem dX6_sample_15 : decode cX6_sample 15 = .ok (.isub, 1) := by decide +kernel
theorem dX6_sample_16 : decode cX6_sample 16 = .ok (.invokestatic 37, 3) := by decide +kernel
theorem dX6_sample_19 : decode cX6_sample 19 = .ok (.ifCond .eq 7, 3) := by decide +kernel
theorem dX6_sample_22 : decode cX6_sample 22 = .ok (.iconst 0, 1) := by decide +kernel
theorem dX6_sample_23 : decode cX6_sample 23 = .ok (.goto 4, 3) := by decide +kernel
theorem dX6_sample_26 : decode cX6_sample 26 = .ok (.iconst 1, 1) := by decide +kernel
theorem dX6_sample_27 : decode cX6_sample 27 = .ok (.invokevirtual 53, 3) := by decide +kernel
theorem dX6_sample_30 : decode cX6_sample 30 = .ok (.ifCond .eq 12, 3) := by decide +kernel
theorem dX6_sample_33 : decode cX6_sample 33 = .ok (.aload_n 0, 1) := by decide +kernel
theorem dX6_sample_34 : decode cX6_sample 34 = .ok (.getfield 17, 3) := by decide +kernel
theorem dX6_sample_37 : decode cX6_sample 37 = .ok (.iload_n 1, 1) := by decide +kernel
theorem dX6_sample_38 : decode cX6_sample 38 = .ok (.iaload, 1) := by decide +kernel
theorem dX6_sample_39 : decode cX6_sample 39 = .ok (.goto 4, 3) := by decide +kernel
theorem dX6_sample_42 : decode cX6_sample 42 = .ok (.iconst 0, 1) := by decide +kernel
theorem dX6_sample_43 : decode cX6_sample 43 = .ok (.ireturn, 1) := by decide +kernel
theorem dX6_countOf_0 : decode cX6_countOf 0 = .ok (.iconst 0, 1) := by decide +kernel
theorem dX6_countOf_1 : decode cX6_countOf 1 = .ok (.istore_n 2, 1) := by decide +kernel
theorem dX6_countOf_2 : decode cX6_countOf 2 = .ok (.iconst 0, 1) := by decide +kernel
theorem dX6_countOf_3 : decode cX6_countOf 3 = .ok (.istore_n 3, 1) := by decide +kernel
theorem dX6_countOf_4 : decode cX6_countOf 4 = .ok (.iload_n 3, 1) := by decide +kernel
theorem dX6_countOf_5 : decode cX6_countOf 5 = .ok (.aload_n 0, 1) := by decide +kernel
theorem dX6_countOf_6 : decode cX6_countOf 6 = .ok (.getfield 69, 3) := by decide +kernel
theorem dX6_countOf_9 : decode cX6_countOf 9 = .ok (.if_icmp .ge 27, 3) := by decide +kernel
theorem dX6_countOf_12 : decode cX6_countOf 12 = .ok (.iload_n 2, 1) := by decide +kernel
theorem dX6_countOf_13 : decode cX6_countOf 13 = .ok (.aload_n 0, 1) := by decide +kernel
theorem dX6_countOf_14 : decode cX6_countOf 14 = .ok (.getfield 17, 3) := by decide +kernel
theorem dX6_countOf_17 : decode cX6_countOf 17 = .ok (.iload_n 3, 1) := by decide +kernel
theorem dX6_countOf_18 : decode cX6_countOf 18 = .ok (.iaload, 1) := by decide +kernel
theorem dX6_countOf_19 : decode cX6_countOf 19 = .ok (.iload_n 1, 1) := by decide +kernel
theorem dX6_countOf_20 : decode cX6_countOf 20 = .ok (.if_icmp .ne 7, 3) := by decide +kernel
theorem dX6_countOf_23 : decode cX6_countOf 23 = .ok (.iconst 1, 1) := by decide +kernel
theorem dX6_countOf_24 : decode cX6_countOf 24 = .ok (.goto 4, 3) := by decide +kernel
theorem dX6_countOf_27 : decode cX6_countOf 27 = .ok (.iconst 0, 1) := by decide +kernel
theorem dX6_countOf_28 : decode cX6_countOf 28 = .ok (.iadd, 1) := by decide +kernel
theorem dX6_countOf_29 : decode cX6_countOf 29 = .ok (.istore_n 2, 1) := by decide +kernel
theorem dX6_countOf_30 : decode cX6_countOf 30 = .ok (.iinc 3 1, 3) := by decide +kernel
theorem dX6_countOf_33 : decode cX6_countOf 33 = .ok (.goto (-29), 3) := by decide +kernel
theorem dX6_countOf_36 : decode cX6_countOf 36 = .ok (.iload_n 2, 1) := by decide +kernel
theorem dX6_countOf_37 : decode cX6_countOf 37 = .ok (.ireturn, 1) := by decide +kernel
set_option maxRecDepth 20000 in
theorem ggX6_count_X6_isCell : GoodIn wsX6_count wsX6_isCell := goodIn_r _ [5, 6, 7, 4, 8] (by decide +kernel) (by decide +kernel)
set_option maxRecDepth 20000 in
theorem gX6_count_X6_isCell : GoodIn wsX6_count (va_wsS RX6 41 yX6_isCell wsX6_isCell) := goodIn_app (goodIn_of _ (by decide +kernel)) ggX6_count_X6_isCell
set_option maxRecDepth 20000 in
theorem ggX6_count_X6_goesWell : GoodIn wsX6_count wsX6_goesWell := goodIn_r _ [12, 13, 20, 21, 22, 23, 24, 25, 26, 27, 28, 29, 30, 31, 32, 33, 34] (by decide +kernel) (by decide +kernel)
set_option maxRecDepth 20000 in
theorem gX6_count_X6_goesWell : GoodIn wsX6_count (wsV RX6 53 RX6 yX6_goesWell wsX6_goesWell) := goodIn_app (goodIn_of _ (by decide +kernel)) ggX6_count_X6_goesWell
set_option maxRecDepth 20000 in
theorem ggX6_count_X6_countOf : GoodIn wsX6_count wsX6_countOf := goodIn_r _ [17, 18, 19, 20, 21, 22, 23, 24, 25, 26, 27, 28, 29, 30, 31, 32, 33, 34] (by decide +kernel) (by decide +kernel)
set_option maxRecDepth 20000 in
theorem gX6_count_X6_countOf : GoodIn wsX6_count (wsV RX6 133 RX6 yX6_countOf wsX6_countOf) := goodIn_app (goodIn_of _ (by decide +kernel)) ggX6_count_X6_countOf
theorem dX6_count_0 : decode cX6_count 0 = .ok (.iload_n 1, 1) := by decide +kernel
theorem dX6_count_1 : decode cX6_count 1 = .ok (.iload_n 2, 1) := by decide +kernel
theorem dX6_count_2 : decode cX6_count 2 = .ok (.invokestatic 41, 3) := by decide +kernel
theorem dX6_count_5 : decode cX6_count 5 = .ok (.istore_n 3, 1) := by decide +kernel
theorem dX6_count_6 : decode cX6_count 6 = .ok (.aload_n 0, 1) := by decide +kernel
theorem dX6_count_7 : decode cX6_count 7 = .ok (.iload_n 3, 1) := by decide +kernel
theorem dX6_count_8 : decode cX6_count 8 = .ok (.ifCond .ne 7, 3) := by decide +kernel
theorem dX6_count_11 : decode cX6_count 11 = .ok (.iconst 1, 1) := by decide +kernel
theorem dX6_count_12 : decode cX6_count 12 = .ok (.goto 15, 3) := by decide +kernel
theorem dX6_count_15 : decode cX6_count 15 = .ok (.aload_n 0, 1) := by decide +kernel
theorem dX6_count_16 : decode cX6_count 16 = .ok (.getfield 49, 3) := by decide +kernel
theorem dX6_count_19 : decode cX6_count 19 = .ok (.ifCond .eq 7, 3) := by decide +kernel
theorem dX6_count_22 : decode cX6_count 22 = .ok (.iconst 0, 1) := by decide +kernel
theorem dX6_count_23 : decode cX6_count 23 = .ok (.goto 4, 3) := by decide +kernel
theorem dX6_count_26 : decode cX6_count 26 = .ok (.iconst 2, 1) := by decide +kernel
theorem dX6_count_27 : decode cX6_count 27 = .ok (.invokevirtual 53, 3) := by decide +kernel
theorem dX6_count_30 : decode cX6_count 30 = .ok (.ifCond .eq 16, 3) := by decide +kernel
theorem dX6_count_33 : decode cX6_count 33 = .ok (.aload_n 0, 1) := by decide +kernel
theorem dX6_count_34 : decode cX6_count 34 = .ok (.bipush 8, 2) := by decide +kernel
theorem dX6_count_36 : decode cX6_count 36 = .ok (.iload_n 2, 1) := by decide +kernel
theorem dX6_count_37 : decode cX6_count 37 = .ok (.imul, 1) := by decide +kernel
theorem dX6_count_38 : decode cX6_count 38 = .ok (.iload_n 1, 1) := by decide +kernel
theorem dX6_count_39 : decode cX6_count 39 = .ok (.iadd, 1) := by decide +kernel
theorem dX6_count_40 : decode cX6_count 40 = .ok (.invokevirtual 133, 3) := by decide +kernel
theorem dX6_count_43 : decode cX6_count 43 = .ok (.goto 4, 3) := by decide +kernel
theorem dX6_count_46 : decode cX6_count 46 = .ok (.iconst 0, 1) := by decide +kernel
theorem dX6_count_47 : decode cX6_count 47 = .ok (.ireturn, 1) := by decide +kernel
set_option maxRecDepth 20000 in
theorem ggX6_belief_X6_isCell : GoodIn wsX6_belief wsX6_isCell := goodIn_r _ [6, 7, 8, 5, 9] (by decide +kernel) (by decide +kernel)
set_option maxRecDepth 20000 in
theorem gX6_belief_X6_isCell : GoodIn wsX6_belief (va_wsS RX6 41 yX6_isCell wsX6_isCell) := goodIn_app (goodIn_of _ (by decide +kernel)) ggX6_belief_X6_isCell
set_option maxRecDepth 20000 in
theorem ggX6_belief_X6_goesWell : GoodIn wsX6_belief wsX6_goesWell := goodIn_r _ [13, 14, 15, 16, 17, 18, 19, 20, 21, 22, 23, 24, 25, 26, 27, 28, 29] (by decide +kernel) (by decide +kernel)
set_option maxRecDepth 20000 in
theorem gX6_belief_X6_goesWell : GoodIn wsX6_belief (wsV RX6 53 RX6 yX6_goesWell wsX6_goesWell) := goodIn_app (goodIn_of _ (by decide +kernel)) ggX6_belief_X6_goesWell
theorem dX6_belief_0 : decode cX6_belief 0 = .ok (.iload_n 1, 1) := by decide +kernel
theorem dX6_belief_1 : decode cX6_belief 1 = .ok (.iload_n 2, 1) := by decide +kernel
theorem dX6_belief_2 : decode cX6_belief 2 = .ok (.invokestatic 41, 3) := by decide +kernel
theorem dX6_belief_5 : decode cX6_belief 5 = .ok (.istore_n 3, 1) := by decide +kernel
theorem dX6_belief_6 : decode cX6_belief 6 = .ok (.aload_n 0, 1) := by decide +kernel
theorem dX6_belief_7 : decode cX6_belief 7 = .ok (.iload_n 3, 1) := by decide +kernel
theorem dX6_belief_8 : decode cX6_belief 8 = .ok (.ifCond .ne 7, 3) := by decide +kernel
theorem dX6_belief_11 : decode cX6_belief 11 = .ok (.iconst 1, 1) := by decide +kernel
theorem dX6_belief_12 : decode cX6_belief 12 = .ok (.goto 15, 3) := by decide +kernel
theorem dX6_belief_15 : decode cX6_belief 15 = .ok (.aload_n 0, 1) := by decide +kernel
theorem dX6_belief_16 : decode cX6_belief 16 = .ok (.getfield 49, 3) := by decide +kernel
theorem dX6_belief_19 : decode cX6_belief 19 = .ok (.ifCond .eq 7, 3) := by decide +kernel
theorem dX6_belief_22 : decode cX6_belief 22 = .ok (.iconst 0, 1) := by decide +kernel
theorem dX6_belief_23 : decode cX6_belief 23 = .ok (.goto 4, 3) := by decide +kernel
theorem dX6_belief_26 : decode cX6_belief 26 = .ok (.iconst 2, 1) := by decide +kernel
theorem dX6_belief_27 : decode cX6_belief 27 = .ok (.invokevirtual 53, 3) := by decide +kernel
theorem dX6_belief_30 : decode cX6_belief 30 = .ok (.ifCond .eq 17, 3) := by decide +kernel
theorem dX6_belief_33 : decode cX6_belief 33 = .ok (.aload_n 0, 1) := by decide +kernel
theorem dX6_belief_34 : decode cX6_belief 34 = .ok (.getfield 27, 3) := by decide +kernel
theorem dX6_belief_37 : decode cX6_belief 37 = .ok (.bipush 8, 2) := by decide +kernel
theorem dX6_belief_39 : decode cX6_belief 39 = .ok (.iload_n 2, 1) := by decide +kernel
theorem dX6_belief_40 : decode cX6_belief 40 = .ok (.imul, 1) := by decide +kernel
theorem dX6_belief_41 : decode cX6_belief 41 = .ok (.iload_n 1, 1) := by decide +kernel
theorem dX6_belief_42 : decode cX6_belief 42 = .ok (.iadd, 1) := by decide +kernel
theorem dX6_belief_43 : decode cX6_belief 43 = .ok (.laload, 1) := by decide +kernel
theorem dX6_belief_44 : decode cX6_belief 44 = .ok (.goto 4, 3) := by decide +kernel
theorem dX6_belief_47 : decode cX6_belief 47 = .ok (.lconst 0, 1) := by decide +kernel
theorem dX6_belief_48 : decode cX6_belief 48 = .ok (.lreturn, 1) := by decide +kernel
set_option maxRecDepth 20000 in
theorem ggX6_beliefAnew_X6_isCell : GoodIn wsX6_beliefAnew wsX6_isCell := goodIn_r _ [6, 7, 8, 5, 9] (by decide +kernel) (by decide +kernel)
set_option maxRecDepth 20000 in
theorem gX6_beliefAnew_X6_isCell : GoodIn wsX6_beliefAnew (va_wsS RX6 41 yX6_isCell wsX6_isCell) := goodIn_app (goodIn_of _ (by decide +kernel)) ggX6_beliefAnew_X6_isCell
set_option maxRecDepth 20000 in
theorem ggX6_beliefAnew_X6_goesWell : GoodIn wsX6_beliefAnew wsX6_goesWell := goodIn_r _ [13, 14, 15, 16, 17, 18, 19, 20, 21, 22, 23, 24, 25, 26, 27, 28, 29] (by decide +kernel) (by decide +kernel)
set_option maxRecDepth 20000 in
theorem gX6_beliefAnew_X6_goesWell : GoodIn wsX6_beliefAnew (wsV RX6 53 RX6 yX6_goesWell wsX6_goesWell) := goodIn_app (goodIn_of _ (by decide +kernel)) ggX6_beliefAnew_X6_goesWell
theorem dX6_beliefAnew_0 : decode cX6_beliefAnew 0 = .ok (.iload_n 1, 1) := by decide +kernel
theorem dX6_beliefAnew_1 : decode cX6_beliefAnew 1 = .ok (.iload_n 2, 1) := by decide +kernel
theorem dX6_beliefAnew_2 : decode cX6_beliefAnew 2 = .ok (.invokestatic 41, 3) := by decide +kernel
theorem dX6_beliefAnew_5 : decode cX6_beliefAnew 5 = .ok (.istore_n 3, 1) := by decide +kernel
theorem dX6_beliefAnew_6 : decode cX6_beliefAnew 6 = .ok (.aload_n 0, 1) := by decide +kernel
theorem dX6_beliefAnew_7 : decode cX6_beliefAnew 7 = .ok (.iload_n 3, 1) := by decide +kernel
theorem dX6_beliefAnew_8 : decode cX6_beliefAnew 8 = .ok (.ifCond .ne 7, 3) := by decide +kernel
theorem dX6_beliefAnew_11 : decode cX6_beliefAnew 11 = .ok (.iconst 1, 1) := by decide +kernel
theorem dX6_beliefAnew_12 : decode cX6_beliefAnew 12 = .ok (.goto 15, 3) := by decide +kernel
theorem dX6_beliefAnew_15 : decode cX6_beliefAnew 15 = .ok (.aload_n 0, 1) := by decide +kernel
theorem dX6_beliefAnew_16 : decode cX6_beliefAnew 16 = .ok (.getfield 49, 3) := by decide +kernel
theorem dX6_beliefAnew_19 : decode cX6_beliefAnew 19 = .ok (.ifCond .eq 7, 3) := by decide +kernel
theorem dX6_beliefAnew_22 : decode cX6_beliefAnew 22 = .ok (.iconst 0, 1) := by decide +kernel
theorem dX6_beliefAnew_23 : decode cX6_beliefAnew 23 = .ok (.goto 4, 3) := by decide +kernel
theorem dX6_beliefAnew_26 : decode cX6_beliefAnew 26 = .ok (.iconst 2, 1) := by decide +kernel
theorem dX6_beliefAnew_27 : decode cX6_beliefAnew 27 = .ok (.invokevirtual 53, 3) := by decide +kernel
theorem dX6_beliefAnew_30 : decode cX6_beliefAnew 30 = .ok (.ifCond .eq 17, 3) := by decide +kernel
theorem dX6_beliefAnew_33 : decode cX6_beliefAnew 33 = .ok (.aload_n 0, 1) := by decide +kernel
theorem dX6_beliefAnew_34 : decode cX6_beliefAnew 34 = .ok (.getfield 27, 3) := by decide +kernel
theorem dX6_beliefAnew_37 : decode cX6_beliefAnew 37 = .ok (.bipush 8, 2) := by decide +kernel
theorem dX6_beliefAnew_39 : decode cX6_beliefAnew 39 = .ok (.iload_n 2, 1) := by decide +kernel
theorem dX6_beliefAnew_40 : decode cX6_beliefAnew 40 = .ok (.imul, 1) := by decide +kernel
theorem dX6_beliefAnew_41 : decode cX6_beliefAnew 41 = .ok (.iload_n 1, 1) := by decide +kernel
theorem dX6_beliefAnew_42 : decode cX6_beliefAnew 42 = .ok (.iadd, 1) := by decide +kernel
theorem dX6_beliefAnew_43 : decode cX6_beliefAnew 43 = .ok (.laload, 1) := by decide +kernel
theorem dX6_beliefAnew_44 : decode cX6_beliefAnew 44 = .ok (.goto 4, 3) := by decide +kernel
theorem dX6_beliefAnew_47 : decode cX6_beliefAnew 47 = .ok (.lconst 0, 1) := by decide +kernel
theorem dX6_beliefAnew_48 : decode cX6_beliefAnew 48 = .ok (.lreturn, 1) := by decide +kernel
set_option maxRecDepth 20000 in
theorem ggX6_partOf_X6_countOf : GoodIn wsX6_partOf wsX6_countOf := goodIn_r _ [6, 7, 8, 9, 10, 11, 12, 13, 14, 15, 16, 17, 18, 19, 20, 21, 22, 23] (by decide +kernel) (by decide +kernel)
set_option maxRecDepth 20000 in
theorem gX6_partOf_X6_countOf : GoodIn wsX6_partOf (wsV RX6 133 RX6 yX6_countOf wsX6_countOf) := goodIn_app (goodIn_of _ (by decide +kernel)) ggX6_partOf_X6_countOf
theorem dX6_partOf_0 : decode cX6_partOf 0 = .ok (.iload_n 2, 1) := by decide +kernel
theorem dX6_partOf_1 : decode cX6_partOf 1 = .ok (.ifCond .eq 12, 3) := by decide +kernel
theorem dX6_partOf_4 : decode cX6_partOf 4 = .ok (.aload_n 0, 1) := by decide +kernel
theorem dX6_partOf_5 : decode cX6_partOf 5 = .ok (.iload_n 1, 1) := by decide +kernel
theorem dX6_partOf_6 : decode cX6_partOf 6 = .ok (.invokevirtual 133, 3) := by decide +kernel
theorem dX6_partOf_9 : decode cX6_partOf 9 = .ok (.i2l, 1) := by decide +kernel
theorem dX6_partOf_10 : decode cX6_partOf 10 = .ok (.goto 9, 3) := by decide +kernel
theorem dX6_partOf_13 : decode cX6_partOf 13 = .ok (.aload_n 0, 1) := by decide +kernel
theorem dX6_partOf_14 : decode cX6_partOf 14 = .ok (.getfield 27, 3) := by decide +kernel
theorem dX6_partOf_17 : decode cX6_partOf 17 = .ok (.iload_n 1, 1) := by decide +kernel
theorem dX6_partOf_18 : decode cX6_partOf 18 = .ok (.laload, 1) := by decide +kernel
theorem dX6_partOf_19 : decode cX6_partOf 19 = .ok (.lreturn, 1) := by decide +kernel
set_option maxRecDepth 20000 in
theorem ggX6_mode_X6_goesWell : GoodIn wsX6_mode wsX6_goesWell := goodIn_r _ [6, 7, 19, 20, 21, 22, 23, 24, 25, 26, 27, 28, 29, 30, 31, 32, 33] (by decide +kernel) (by decide +kernel)
set_option maxRecDepth 20000 in
theorem gX6_mode_X6_goesWell : GoodIn wsX6_mode (wsV RX6 53 RX6 yX6_goesWell wsX6_goesWell) := goodIn_app (goodIn_of _ (by decide +kernel)) ggX6_mode_X6_goesWell
set_option maxRecDepth 20000 in
theorem ggX6_mode_X6_partOf : GoodIn wsX6_mode wsX6_partOf := goodIn_r _ [11, 12, 13, 14, 15, 5, 16, 17, 18, 19, 20, 21, 22, 23, 24, 25, 26, 27, 28, 29, 30, 31, 32, 33] (by decide +kernel) (by decide +kernel)
set_option maxRecDepth 20000 in
theorem gX6_mode_X6_partOf : GoodIn wsX6_mode (wsV RX6 136 RX6 yX6_partOf wsX6_partOf) := goodIn_app (goodIn_of _ (by decide +kernel)) ggX6_mode_X6_partOf
theorem dX6_mode_0 : decode cX6_mode 0 = .ok (.aload_n 0, 1) := by decide +kernel
theorem dX6_mode_1 : decode cX6_mode 1 = .ok (.aload_n 0, 1) := by decide +kernel
theorem dX6_mode_2 : decode cX6_mode 2 = .ok (.getfield 49, 3) := by decide +kernel
theorem dX6_mode_5 : decode cX6_mode 5 = .ok (.ifCond .eq 7, 3) := by decide +kernel
theorem dX6_mode_8 : decode cX6_mode 8 = .ok (.iconst 0, 1) := by decide +kernel
theorem dX6_mode_9 : decode cX6_mode 9 = .ok (.goto 4, 3) := by decide +kernel
theorem dX6_mode_12 : decode cX6_mode 12 = .ok (.iconst 1, 1) := by decide +kernel
theorem dX6_mode_13 : decode cX6_mode 13 = .ok (.invokevirtual 53, 3) := by decide +kernel
theorem dX6_mode_16 : decode cX6_mode 16 = .ok (.ifCond .ne 5, 3) := by decide +kernel
theorem dX6_mode_19 : decode cX6_mode 19 = .ok (.iconst 0, 1) := by decide +kernel
theorem dX6_mode_20 : decode cX6_mode 20 = .ok (.ireturn, 1) := by decide +kernel
theorem dX6_mode_21 : decode cX6_mode 21 = .ok (.iconst 0, 1) := by decide +kernel
theorem dX6_mode_22 : decode cX6_mode 22 = .ok (.istore_n 2, 1) := by decide +kernel
theorem dX6_mode_23 : decode cX6_mode 23 = .ok (.iconst 1, 1) := by decide +kernel
theorem dX6_mode_24 : decode cX6_mode 24 = .ok (.istore_n 3, 1) := by decide +kernel
theorem dX6_mode_25 : decode cX6_mode 25 = .ok (.iload_n 3, 1) := by decide +kernel
theorem dX6_mode_26 : decode cX6_mode 26 = .ok (.bipush 64, 2) := by decide +kernel
theorem dX6_mode_28 : decode cX6_mode 28 = .ok (.if_icmp .ge 31, 3) := by decide +kernel
theorem dX6_mode_31 : decode cX6_mode 31 = .ok (.aload_n 0, 1) := by decide +kernel
theorem dX6_mode_32 : decode cX6_mode 32 = .ok (.iload_n 3, 1) := by decide +kernel
theorem dX6_mode_33 : decode cX6_mode 33 = .ok (.iload_n 1, 1) := by decide +kernel
theorem dX6_mode_34 : decode cX6_mode 34 = .ok (.invokevirtual 136, 3) := by decide +kernel
theorem dX6_mode_37 : decode cX6_mode 37 = .ok (.aload_n 0, 1) := by decide +kernel
theorem dX6_mode_38 : decode cX6_mode 38 = .ok (.iload_n 2, 1) := by decide +kernel
theorem dX6_mode_39 : decode cX6_mode 39 = .ok (.iload_n 1, 1) := by decide +kernel
theorem dX6_mode_40 : decode cX6_mode 40 = .ok (.invokevirtual 136, 3) := by decide +kernel
theorem dX6_mode_43 : decode cX6_mode 43 = .ok (.lcmp, 1) := by decide +kernel
theorem dX6_mode_44 : decode cX6_mode 44 = .ok (.ifCond .le 7, 3) := by decide +kernel
theorem dX6_mode_47 : decode cX6_mode 47 = .ok (.iload_n 3, 1) := by decide +kernel
theorem dX6_mode_48 : decode cX6_mode 48 = .ok (.goto 4, 3) := by decide +kernel
theorem dX6_mode_51 : decode cX6_mode 51 = .ok (.iload_n 2, 1) := by decide +kernel
theorem dX6_mode_52 : decode cX6_mode 52 = .ok (.istore_n 2, 1) := by decide +kernel
theorem dX6_mode_53 : decode cX6_mode 53 = .ok (.iinc 3 1, 3) := by decide +kernel
theorem dX6_mode_56 : decode cX6_mode 56 = .ok (.goto (-31), 3) := by decide +kernel
theorem dX6_mode_59 : decode cX6_mode 59 = .ok (.iload_n 2, 1) := by decide +kernel
theorem dX6_mode_60 : decode cX6_mode 60 = .ok (.ireturn, 1) := by decide +kernel
set_option maxRecDepth 20000 in
theorem ggX6_mean_X6_goesWell : GoodIn wsX6_mean wsX6_goesWell := goodIn_r _ [7, 8, 20, 21, 22, 23, 24, 25, 26, 27, 28, 29, 30, 31, 32, 33, 34] (by decide +kernel) (by decide +kernel)
set_option maxRecDepth 20000 in
theorem gX6_mean_X6_goesWell : GoodIn wsX6_mean (wsV RX6 53 RX6 yX6_goesWell wsX6_goesWell) := goodIn_app (goodIn_of _ (by decide +kernel)) ggX6_mean_X6_goesWell
set_option maxRecDepth 20000 in
theorem ggX6_mean_X6_partOf : GoodIn wsX6_mean wsX6_partOf := goodIn_r _ [12, 13, 14, 15, 16, 6, 17, 18, 19, 20, 21, 22, 23, 24, 25, 26, 27, 28, 29, 30, 31, 32, 33, 34] (by decide +kernel) (by decide +kernel)
set_option maxRecDepth 20000 in
theorem gX6_mean_X6_partOf : GoodIn wsX6_mean (wsV RX6 136 RX6 yX6_partOf wsX6_partOf) := goodIn_app (goodIn_of _ (by decide +kernel)) ggX6_mean_X6_partOf
theorem dX6_mean_0 : decode cX6_mean 0 = .ok (.aload_n 0, 1) := by decide +kernel
theorem dX6_mean_1 : decode cX6_mean 1 = .ok (.aload_n 0, 1) := by decide +kernel
theorem dX6_mean_2 : decode cX6_mean 2 = .ok (.getfield 49, 3) := by decide +kernel
theorem dX6_mean_5 : decode cX6_mean 5 = .ok (.ifCond .eq 7, 3) := by decide +kernel
theorem dX6_mean_8 : decode cX6_mean 8 = .ok (.iconst 0, 1) := by decide +kernel
theorem dX6_mean_9 : decode cX6_mean 9 = .ok (.goto 4, 3) := by decide +kernel
theorem dX6_mean_12 : decode cX6_mean 12 = .ok (.iconst 1, 1) := by decide +kernel
theorem dX6_mean_13 : decode cX6_mean 13 = .ok (.invokevirtual 53, 3) := by decide +kernel
theorem dX6_mean_16 : decode cX6_mean 16 = .ok (.ifCond .ne 5, 3) := by decide +kernel
theorem dX6_mean_19 : decode cX6_mean 19 = .ok (.iconst 0, 1) := by decide +kernel
theorem dX6_mean_20 : decode cX6_mean 20 = .ok (.ireturn, 1) := by decide +kernel
theorem dX6_mean_21 : decode cX6_mean 21 = .ok (.lconst 0, 1) := by decide +kernel
theorem dX6_mean_22 : decode cX6_mean 22 = .ok (.lstore_n 3, 1) := by decide +kernel
theorem dX6_mean_23 : decode cX6_mean 23 = .ok (.lconst 0, 1) := by decide +kernel
theorem dX6_mean_24 : decode cX6_mean 24 = .ok (.lstore 5, 2) := by decide +kernel
theorem dX6_mean_26 : decode cX6_mean 26 = .ok (.iconst 0, 1) := by decide +kernel
theorem dX6_mean_27 : decode cX6_mean 27 = .ok (.istore 7, 2) := by decide +kernel
theorem dX6_mean_29 : decode cX6_mean 29 = .ok (.iload 7, 2) := by decide +kernel
theorem dX6_mean_31 : decode cX6_mean 31 = .ok (.bipush 64, 2) := by decide +kernel
theorem dX6_mean_33 : decode cX6_mean 33 = .ok (.if_icmp .ge 49, 3) := by decide +kernel
theorem dX6_mean_36 : decode cX6_mean 36 = .ok (.aload_n 0, 1) := by decide +kernel
theorem dX6_mean_37 : decode cX6_mean 37 = .ok (.iload 7, 2) := by decide +kernel
theorem dX6_mean_39 : decode cX6_mean 39 = .ok (.iload_n 1, 1) := by decide +kernel
theorem dX6_mean_40 : decode cX6_mean 40 = .ok (.invokevirtual 136, 3) := by decide +kernel
theorem dX6_mean_43 : decode cX6_mean 43 = .ok (.lstore 8, 2) := by decide +kernel
theorem dX6_mean_45 : decode cX6_mean 45 = .ok (.lload_n 3, 1) := by decide +kernel
theorem dX6_mean_46 : decode cX6_mean 46 = .ok (.lload 8, 2) := by decide +kernel
theorem dX6_mean_48 : decode cX6_mean 48 = .ok (.ladd, 1) := by decide +kernel
theorem dX6_mean_49 : decode cX6_mean 49 = .ok (.lstore_n 3, 1) := by decide +kernel
theorem dX6_mean_50 : decode cX6_mean 50 = .ok (.lload 5, 2) := by decide +kernel
theorem dX6_mean_52 : decode cX6_mean 52 = .ok (.lload 8, 2) := by decide +kernel
theorem dX6_mean_54 : decode cX6_mean 54 = .ok (.iload_n 2, 1) := by decide +kernel
theorem dX6_mean_55 : decode cX6_mean 55 = .ok (.ifCond .eq 11, 3) := by decide +kernel
theorem dX6_mean_58 : decode cX6_mean 58 = .ok (.iload 7, 2) := by decide +kernel
theorem dX6_mean_60 : decode cX6_mean 60 = .ok (.bipush 8, 2) := by decide +kernel
theorem dX6_mean_62 : decode cX6_mean 62 = .ok (.idiv, 1) := by decide +kernel
theorem dX6_mean_63 : decode cX6_mean 63 = .ok (.goto 8, 3) := by decide +kernel
theorem dX6_mean_66 : decode cX6_mean 66 = .ok (.iload 7, 2) := by decide +kernel
theorem dX6_mean_68 : decode cX6_mean 68 = .ok (.bipush 8, 2) := by decide +kernel
theorem dX6_mean_70 : decode cX6_mean 70 = .ok (.irem, 1) := by decide +kernel
theorem dX6_mean_71 : decode cX6_mean 71 = .ok (.i2l, 1) := by decide +kernel
theorem dX6_mean_72 : decode cX6_mean 72 = .ok (.lmul, 1) := by decide +kernel
theorem dX6_mean_73 : decode cX6_mean 73 = .ok (.ladd, 1) := by decide +kernel
theorem dX6_mean_74 : decode cX6_mean 74 = .ok (.lstore 5, 2) := by decide +kernel
theorem dX6_mean_76 : decode cX6_mean 76 = .ok (.iinc 7 1, 3) := by decide +kernel
theorem dX6_mean_79 : decode cX6_mean 79 = .ok (.goto (-50), 3) := by decide +kernel
theorem dX6_mean_82 : decode cX6_mean 82 = .ok (.ldc2_w 140, 3) := by decide +kernel
theorem dX6_mean_85 : decode cX6_mean 85 = .ok (.lload 5, 2) := by decide +kernel
theorem dX6_mean_87 : decode cX6_mean 87 = .ok (.lmul, 1) := by decide +kernel
theorem dX6_mean_88 : decode cX6_mean 88 = .ok (.lload_n 3, 1) := by decide +kernel
theorem dX6_mean_89 : decode cX6_mean 89 = .ok (.ldiv, 1) := by decide +kernel
theorem dX6_mean_90 : decode cX6_mean 90 = .ok (.l2i, 1) := by decide +kernel
theorem dX6_mean_91 : decode cX6_mean 91 = .ok (.ireturn, 1) := by decide +kernel
set_option maxRecDepth 20000 in
theorem ggX6_share_X6_isCell : GoodIn wsX6_share wsX6_isCell := goodIn_r _ [6, 7, 8, 5, 9] (by decide +kernel) (by decide +kernel)
set_option maxRecDepth 20000 in
theorem gX6_share_X6_isCell : GoodIn wsX6_share (va_wsS RX6 41 yX6_isCell wsX6_isCell) := goodIn_app (goodIn_of _ (by decide +kernel)) ggX6_share_X6_isCell
set_option maxRecDepth 20000 in
theorem ggX6_share_X6_in : GoodIn wsX6_share wsX6_in := goodIn_r _ [9] (by decide +kernel) (by decide +kernel)
set_option maxRecDepth 20000 in
theorem gX6_share_X6_in : GoodIn wsX6_share (va_wsS RX6 37 yX6_in wsX6_in) := goodIn_app (goodIn_of _ (by decide +kernel)) ggX6_share_X6_in
set_option maxRecDepth 20000 in
theorem ggX6_share_X6_goesWell : GoodIn wsX6_share wsX6_goesWell := goodIn_r _ [13, 14, 26, 27, 28, 29, 30, 31, 32, 33, 34, 35, 36, 37, 38, 39, 40] (by decide +kernel) (by decide +kernel)
set_option maxRecDepth 20000 in
theorem gX6_share_X6_goesWell : GoodIn wsX6_share (wsV RX6 53 RX6 yX6_goesWell wsX6_goesWell) := goodIn_app (goodIn_of _ (by decide +kernel)) ggX6_share_X6_goesWell
set_option maxRecDepth 20000 in
theorem ggX6_share_X6_partOf : GoodIn wsX6_share wsX6_partOf := goodIn_r _ [18, 19, 20, 21, 22, 5, 23, 24, 25, 26, 27, 28, 29, 30, 31, 32, 33, 34, 35, 36, 37, 38, 39, 40] (by decide +kernel) (by decide +kernel)
set_option maxRecDepth 20000 in
theorem gX6_share_X6_partOf : GoodIn wsX6_share (wsV RX6 136 RX6 yX6_partOf wsX6_partOf) := goodIn_app (goodIn_of _ (by decide +kernel)) ggX6_share_X6_partOf
theorem dX6_share_0 : decode cX6_share 0 = .ok (.iload_n 1, 1) := by decide +kernel
theorem dX6_share_1 : decode cX6_share 1 = .ok (.iload_n 2, 1) := by decide +kernel
theorem dX6_share_2 : decode cX6_share 2 = .ok (.invokestatic 41, 3) := by decide +kernel
theorem dX6_share_5 : decode cX6_share 5 = .ok (.istore 6, 2) := by decide +kernel
theorem dX6_share_7 : decode cX6_share 7 = .ok (.iload 6, 2) := by decide +kernel
theorem dX6_share_9 : decode cX6_share 9 = .ok (.ifCond .eq 28, 3) := by decide +kernel
theorem dX6_share_12 : decode cX6_share 12 = .ok (.iload_n 3, 1) := by decide +kernel
theorem dX6_share_13 : decode cX6_share 13 = .ok (.iload_n 1, 1) := by decide +kernel
theorem dX6_share_14 : decode cX6_share 14 = .ok (.bipush 7, 2) := by decide +kernel
theorem dX6_share_16 : decode cX6_share 16 = .ok (.invokestatic 37, 3) := by decide +kernel
theorem dX6_share_19 : decode cX6_share 19 = .ok (.ifCond .eq 18, 3) := by decide +kernel
theorem dX6_share_22 : decode cX6_share 22 = .ok (.iload 4, 2) := by decide +kernel
theorem dX6_share_24 : decode cX6_share 24 = .ok (.iload_n 2, 1) := by decide +kernel
theorem dX6_share_25 : decode cX6_share 25 = .ok (.bipush 7, 2) := by decide +kernel
theorem dX6_share_27 : decode cX6_share 27 = .ok (.invokestatic 37, 3) := by decide +kernel
theorem dX6_share_30 : decode cX6_share 30 = .ok (.ifCond .eq 7, 3) := by decide +kernel
theorem dX6_share_33 : decode cX6_share 33 = .ok (.iconst 1, 1) := by decide +kernel
theorem dX6_share_34 : decode cX6_share 34 = .ok (.goto 4, 3) := by decide +kernel
theorem dX6_share_37 : decode cX6_share 37 = .ok (.iconst 0, 1) := by decide +kernel
theorem dX6_share_38 : decode cX6_share 38 = .ok (.istore 7, 2) := by decide +kernel
theorem dX6_share_40 : decode cX6_share 40 = .ok (.aload_n 0, 1) := by decide +kernel
theorem dX6_share_41 : decode cX6_share 41 = .ok (.iload 6, 2) := by decide +kernel
theorem dX6_share_43 : decode cX6_share 43 = .ok (.ifCond .ne 7, 3) := by decide +kernel
theorem dX6_share_46 : decode cX6_share 46 = .ok (.iconst 1, 1) := by decide +kernel
theorem dX6_share_47 : decode cX6_share 47 = .ok (.goto 24, 3) := by decide +kernel
theorem dX6_share_50 : decode cX6_share 50 = .ok (.iload 7, 2) := by decide +kernel
theorem dX6_share_52 : decode cX6_share 52 = .ok (.ifCond .ne 7, 3) := by decide +kernel
theorem dX6_share_55 : decode cX6_share 55 = .ok (.iconst 2, 1) := by decide +kernel
theorem dX6_share_56 : decode cX6_share 56 = .ok (.goto 15, 3) := by decide +kernel
theorem dX6_share_59 : decode cX6_share 59 = .ok (.aload_n 0, 1) := by decide +kernel
theorem dX6_share_60 : decode cX6_share 60 = .ok (.getfield 49, 3) := by decide +kernel
theorem dX6_share_63 : decode cX6_share 63 = .ok (.ifCond .eq 7, 3) := by decide +kernel
theorem dX6_share_66 : decode cX6_share 66 = .ok (.iconst 0, 1) := by decide +kernel
theorem dX6_share_67 : decode cX6_share 67 = .ok (.goto 4, 3) := by decide +kernel
theorem dX6_share_70 : decode cX6_share 70 = .ok (.iconst 3, 1) := by decide +kernel
theorem dX6_share_71 : decode cX6_share 71 = .ok (.invokevirtual 53, 3) := by decide +kernel
theorem dX6_share_74 : decode cX6_share 74 = .ok (.ifCond .ne 5, 3) := by decide +kernel
theorem dX6_share_77 : decode cX6_share 77 = .ok (.iconst 0, 1) := by decide +kernel
theorem dX6_share_78 : decode cX6_share 78 = .ok (.ireturn, 1) := by decide +kernel
theorem dX6_share_79 : decode cX6_share 79 = .ok (.lconst 0, 1) := by decide +kernel
theorem dX6_share_80 : decode cX6_share 80 = .ok (.lstore 8, 2) := by decide +kernel
theorem dX6_share_82 : decode cX6_share 82 = .ok (.lconst 0, 1) := by decide +kernel
theorem dX6_share_83 : decode cX6_share 83 = .ok (.lstore 10, 2) := by decide +kernel
theorem dX6_share_85 : decode cX6_share 85 = .ok (.iconst 0, 1) := by decide +kernel
theorem dX6_share_86 : decode cX6_share 86 = .ok (.istore 12, 2) := by decide +kernel
theorem dX6_share_88 : decode cX6_share 88 = .ok (.iload 12, 2) := by decide +kernel
theorem dX6_share_90 : decode cX6_share 90 = .ok (.bipush 64, 2) := by decide +kernel
theorem dX6_share_92 : decode cX6_share 92 = .ok (.if_icmp .ge 64, 3) := by decide +kernel
theorem dX6_share_95 : decode cX6_share 95 = .ok (.aload_n 0, 1) := by decide +kernel
theorem dX6_share_96 : decode cX6_share 96 = .ok (.iload 12, 2) := by decide +kernel
theorem dX6_share_98 : decode cX6_share 98 = .ok (.iload 5, 2) := by decide +kernel
theorem dX6_share_100 : decode cX6_share 100 = .ok (.invokevirtual 136, 3) := by decide +kernel
theorem dX6_share_103 : decode cX6_share 103 = .ok (.lstore 13, 2) := by decide +kernel
theorem dX6_share_105 : decode cX6_share 105 = .ok (.lload 8, 2) := by decide +kernel
theorem dX6_share_107 : decode cX6_share 107 = .ok (.lload 13, 2) := by decide +kernel
theorem dX6_share_109 : decode cX6_share 109 = .ok (.ladd, 1) := by decide +kernel
theorem dX6_share_110 : decode cX6_share 110 = .ok (.lstore 8, 2) := by decide +kernel
theorem dX6_share_112 : decode cX6_share 112 = .ok (.lload 10, 2) := by decide +kernel
theorem dX6_share_114 : decode cX6_share 114 = .ok (.iload 12, 2) := by decide +kernel
theorem dX6_share_116 : decode cX6_share 116 = .ok (.bipush 8, 2) := by decide +kernel
theorem dX6_share_118 : decode cX6_share 118 = .ok (.irem, 1) := by decide +kernel
theorem dX6_share_119 : decode cX6_share 119 = .ok (.iload_n 1, 1) := by decide +kernel
theorem dX6_share_120 : decode cX6_share 120 = .ok (.iload_n 3, 1) := by decide +kernel
theorem dX6_share_121 : decode cX6_share 121 = .ok (.invokestatic 37, 3) := by decide +kernel
theorem dX6_share_124 : decode cX6_share 124 = .ok (.ifCond .eq 22, 3) := by decide +kernel
theorem dX6_share_127 : decode cX6_share 127 = .ok (.iload 12, 2) := by decide +kernel
theorem dX6_share_129 : decode cX6_share 129 = .ok (.bipush 8, 2) := by decide +kernel
theorem dX6_share_131 : decode cX6_share 131 = .ok (.idiv, 1) := by decide +kernel
theorem dX6_share_132 : decode cX6_share 132 = .ok (.iload_n 2, 1) := by decide +kernel
theorem dX6_share_133 : decode cX6_share 133 = .ok (.iload 4, 2) := by decide +kernel
theorem dX6_share_135 : decode cX6_share 135 = .ok (.invokestatic 37, 3) := by decide +kernel
theorem dX6_share_138 : decode cX6_share 138 = .ok (.ifCond .eq 8, 3) := by decide +kernel
theorem dX6_share_141 : decode cX6_share 141 = .ok (.lload 13, 2) := by decide +kernel
theorem dX6_share_143 : decode cX6_share 143 = .ok (.goto 4, 3) := by decide +kernel
theorem dX6_share_146 : decode cX6_share 146 = .ok (.lconst 0, 1) := by decide +kernel
theorem dX6_share_147 : decode cX6_share 147 = .ok (.ladd, 1) := by decide +kernel
theorem dX6_share_148 : decode cX6_share 148 = .ok (.lstore 10, 2) := by decide +kernel
theorem dX6_share_150 : decode cX6_share 150 = .ok (.iinc 12 1, 3) := by decide +kernel
theorem dX6_share_153 : decode cX6_share 153 = .ok (.goto (-65), 3) := by decide +kernel
theorem dX6_share_156 : decode cX6_share 156 = .ok (.ldc2_w 142, 3) := by decide +kernel
theorem dX6_share_159 : decode cX6_share 159 = .ok (.lload 10, 2) := by decide +kernel
theorem dX6_share_161 : decode cX6_share 161 = .ok (.lmul, 1) := by decide +kernel
theorem dX6_share_162 : decode cX6_share 162 = .ok (.lload 8, 2) := by decide +kernel
theorem dX6_share_164 : decode cX6_share 164 = .ok (.ldiv, 1) := by decide +kernel
theorem dX6_share_165 : decode cX6_share 165 = .ok (.l2i, 1) := by decide +kernel
theorem dX6_share_166 : decode cX6_share 166 = .ok (.ireturn, 1) := by decide +kernel
theorem dX6_ahead_0 : decode cX6_ahead 0 = .ok (.iconst 0, 1) := by decide +kernel
theorem dX6_ahead_1 : decode cX6_ahead 1 = .ok (.istore_n 2, 1) := by decide +kernel
theorem dX6_ahead_2 : decode cX6_ahead 2 = .ok (.iconst 0, 1) := by decide +kernel
theorem dX6_ahead_3 : decode cX6_ahead 3 = .ok (.istore_n 3, 1) := by decide +kernel
theorem dX6_ahead_4 : decode cX6_ahead 4 = .ok (.iload_n 3, 1) := by decide +kernel
theorem dX6_ahead_5 : decode cX6_ahead 5 = .ok (.bipush 64, 2) := by decide +kernel
theorem dX6_ahead_7 : decode cX6_ahead 7 = .ok (.if_icmp .ge 54, 3) := by decide +kernel
theorem dX6_ahead_10 : decode cX6_ahead 10 = .ok (.iload_n 2, 1) := by decide +kernel
theorem dX6_ahead_11 : decode cX6_ahead 11 = .ok (.aload_n 0, 1) := by decide +kernel
theorem dX6_ahead_12 : decode cX6_ahead 12 = .ok (.getfield 27, 3) := by decide +kernel
theorem dX6_ahead_15 : decode cX6_ahead 15 = .ok (.iload_n 3, 1) := by decide +kernel
theorem dX6_ahead_16 : decode cX6_ahead 16 = .ok (.laload, 1) := by decide +kernel
theorem dX6_ahead_17 : decode cX6_ahead 17 = .ok (.aload_n 0, 1) := by decide +kernel
theorem dX6_ahead_18 : decode cX6_ahead 18 = .ok (.getfield 27, 3) := by decide +kernel
theorem dX6_ahead_21 : decode cX6_ahead 21 = .ok (.iload_n 1, 1) := by decide +kernel
theorem dX6_ahead_22 : decode cX6_ahead 22 = .ok (.laload, 1) := by decide +kernel
theorem dX6_ahead_23 : decode cX6_ahead 23 = .ok (.lcmp, 1) := by decide +kernel
theorem dX6_ahead_24 : decode cX6_ahead 24 = .ok (.ifCond .gt 24, 3) := by decide +kernel
theorem dX6_ahead_27 : decode cX6_ahead 27 = .ok (.aload_n 0, 1) := by decide +kernel
theorem dX6_ahead_28 : decode cX6_ahead 28 = .ok (.getfield 27, 3) := by decide +kernel
theorem dX6_ahead_31 : decode cX6_ahead 31 = .ok (.iload_n 3, 1) := by decide +kernel
theorem dX6_ahead_32 : decode cX6_ahead 32 = .ok (.laload, 1) := by decide +kernel
theorem dX6_ahead_33 : decode cX6_ahead 33 = .ok (.aload_n 0, 1) := by decide +kernel
theorem dX6_ahead_34 : decode cX6_ahead 34 = .ok (.getfield 27, 3) := by decide +kernel
theorem dX6_ahead_37 : decode cX6_ahead 37 = .ok (.iload_n 1, 1) := by decide +kernel
theorem dX6_ahead_38 : decode cX6_ahead 38 = .ok (.laload, 1) := by decide +kernel
theorem dX6_ahead_39 : decode cX6_ahead 39 = .ok (.lcmp, 1) := by decide +kernel
theorem dX6_ahead_40 : decode cX6_ahead 40 = .ok (.ifCond .ne 12, 3) := by decide +kernel
theorem dX6_ahead_43 : decode cX6_ahead 43 = .ok (.iload_n 3, 1) := by decide +kernel
theorem dX6_ahead_44 : decode cX6_ahead 44 = .ok (.iload_n 1, 1) := by decide +kernel
theorem dX6_ahead_45 : decode cX6_ahead 45 = .ok (.if_icmp .ge 7, 3) := by decide +kernel
theorem dX6_ahead_48 : decode cX6_ahead 48 = .ok (.iconst 1, 1) := by decide +kernel
theorem dX6_ahead_49 : decode cX6_ahead 49 = .ok (.goto 4, 3) := by decide +kernel
theorem dX6_ahead_52 : decode cX6_ahead 52 = .ok (.iconst 0, 1) := by decide +kernel
theorem dX6_ahead_53 : decode cX6_ahead 53 = .ok (.iadd, 1) := by decide +kernel
theorem dX6_ahead_54 : decode cX6_ahead 54 = .ok (.istore_n 2, 1) := by decide +kernel
theorem dX6_ahead_55 : decode cX6_ahead 55 = .ok (.iinc 3 1, 3) := by decide +kernel
theorem dX6_ahead_58 : decode cX6_ahead 58 = .ok (.goto (-54), 3) := by decide +kernel
theorem dX6_ahead_61 : decode cX6_ahead 61 = .ok (.iload_n 2, 1) := by decide +kernel
theorem dX6_ahead_62 : decode cX6_ahead 62 = .ok (.ireturn, 1) := by decide +kernel
set_option maxRecDepth 20000 in
theorem ggX6_best_X6_goesWell : GoodIn wsX6_best wsX6_goesWell := goodIn_r _ [7, 8, 13, 14, 15, 16, 17, 18, 19, 20, 21, 22, 23, 24, 25, 26, 27] (by decide +kernel) (by decide +kernel)
set_option maxRecDepth 20000 in
theorem gX6_best_X6_goesWell : GoodIn wsX6_best (wsV RX6 53 RX6 yX6_goesWell wsX6_goesWell) := goodIn_app (goodIn_of _ (by decide +kernel)) ggX6_best_X6_goesWell
set_option maxRecDepth 20000 in
theorem ggX6_best_X6_ahead : GoodIn wsX6_best wsX6_ahead := goodIn_r _ [12, 2, 13, 14, 15, 16, 17, 18, 19, 20, 21, 22, 23, 24, 25, 26, 27] (by decide +kernel) (by decide +kernel)
set_option maxRecDepth 20000 in
theorem gX6_best_X6_ahead : GoodIn wsX6_best (wsV RX6 144 RX6 yX6_ahead wsX6_ahead) := goodIn_app (goodIn_of _ (by decide +kernel)) ggX6_best_X6_ahead
theorem dX6_best_0 : decode cX6_best 0 = .ok (.aload_n 0, 1) := by decide +kernel
theorem dX6_best_1 : decode cX6_best 1 = .ok (.iload_n 1, 1) := by decide +kernel
theorem dX6_best_2 : decode cX6_best 2 = .ok (.ifCond .ge 7, 3) := by decide +kernel
theorem dX6_best_5 : decode cX6_best 5 = .ok (.iconst 1, 1) := by decide +kernel
theorem dX6_best_6 : decode cX6_best 6 = .ok (.goto 15, 3) := by decide +kernel
theorem dX6_best_9 : decode cX6_best 9 = .ok (.aload_n 0, 1) := by decide +kernel
theorem dX6_best_10 : decode cX6_best 10 = .ok (.getfield 49, 3) := by decide +kernel
theorem dX6_best_13 : decode cX6_best 13 = .ok (.ifCond .eq 7, 3) := by decide +kernel
theorem dX6_best_16 : decode cX6_best 16 = .ok (.iconst 0, 1) := by decide +kernel
theorem dX6_best_17 : decode cX6_best 17 = .ok (.goto 4, 3) := by decide +kernel
theorem dX6_best_20 : decode cX6_best 20 = .ok (.iconst 2, 1) := by decide +kernel
theorem dX6_best_21 : decode cX6_best 21 = .ok (.invokevirtual 53, 3) := by decide +kernel
theorem dX6_best_24 : decode cX6_best 24 = .ok (.ifCond .ne 5, 3) := by decide +kernel
theorem dX6_best_27 : decode cX6_best 27 = .ok (.iconst 0, 1) := by decide +kernel
theorem dX6_best_28 : decode cX6_best 28 = .ok (.ireturn, 1) := by decide +kernel
theorem dX6_best_29 : decode cX6_best 29 = .ok (.iconst (-1), 1) := by decide +kernel
theorem dX6_best_30 : decode cX6_best 30 = .ok (.istore_n 2, 1) := by decide +kernel
theorem dX6_best_31 : decode cX6_best 31 = .ok (.iconst 0, 1) := by decide +kernel
theorem dX6_best_32 : decode cX6_best 32 = .ok (.istore_n 3, 1) := by decide +kernel
theorem dX6_best_33 : decode cX6_best 33 = .ok (.iload_n 3, 1) := by decide +kernel
theorem dX6_best_34 : decode cX6_best 34 = .ok (.bipush 64, 2) := by decide +kernel
theorem dX6_best_36 : decode cX6_best 36 = .ok (.if_icmp .ge 35, 3) := by decide +kernel
theorem dX6_best_39 : decode cX6_best 39 = .ok (.aload_n 0, 1) := by decide +kernel
theorem dX6_best_40 : decode cX6_best 40 = .ok (.getfield 27, 3) := by decide +kernel
theorem dX6_best_43 : decode cX6_best 43 = .ok (.iload_n 3, 1) := by decide +kernel
theorem dX6_best_44 : decode cX6_best 44 = .ok (.laload, 1) := by decide +kernel
theorem dX6_best_45 : decode cX6_best 45 = .ok (.lconst 0, 1) := by decide +kernel
theorem dX6_best_46 : decode cX6_best 46 = .ok (.lcmp, 1) := by decide +kernel
theorem dX6_best_47 : decode cX6_best 47 = .ok (.ifCond .le 16, 3) := by decide +kernel
theorem dX6_best_50 : decode cX6_best 50 = .ok (.aload_n 0, 1) := by decide +kernel
theorem dX6_best_51 : decode cX6_best 51 = .ok (.iload_n 3, 1) := by decide +kernel
theorem dX6_best_52 : decode cX6_best 52 = .ok (.invokevirtual 144, 3) := by decide +kernel
theorem dX6_best_55 : decode cX6_best 55 = .ok (.iload_n 1, 1) := by decide +kernel
theorem dX6_best_56 : decode cX6_best 56 = .ok (.if_icmp .ne 7, 3) := by decide +kernel
theorem dX6_best_59 : decode cX6_best 59 = .ok (.iload_n 3, 1) := by decide +kernel
theorem dX6_best_60 : decode cX6_best 60 = .ok (.goto 4, 3) := by decide +kernel
theorem dX6_best_63 : decode cX6_best 63 = .ok (.iload_n 2, 1) := by decide +kernel
theorem dX6_best_64 : decode cX6_best 64 = .ok (.istore_n 2, 1) := by decide +kernel
theorem dX6_best_65 : decode cX6_best 65 = .ok (.iinc 3 1, 3) := by decide +kernel
theorem dX6_best_68 : decode cX6_best 68 = .ok (.goto (-35), 3) := by decide +kernel
theorem dX6_best_71 : decode cX6_best 71 = .ok (.iload_n 2, 1) := by decide +kernel
theorem dX6_best_72 : decode cX6_best 72 = .ok (.ireturn, 1) := by decide +kernel
set_option maxRecDepth 20000 in
theorem ggX6_doubt_X6_goesWell : GoodIn wsX6_doubt wsX6_goesWell := goodIn_r _ [7, 8, 9, 10, 11, 12, 13, 14, 15, 16, 17, 18, 19, 20, 21, 22, 23] (by decide +kernel) (by decide +kernel)
set_option maxRecDepth 20000 in
theorem gX6_doubt_X6_goesWell : GoodIn wsX6_doubt (wsV RX6 53 RX6 yX6_goesWell wsX6_goesWell) := goodIn_app (goodIn_of _ (by decide +kernel)) ggX6_doubt_X6_goesWell
theorem dX6_doubt_0 : decode cX6_doubt 0 = .ok (.aload_n 0, 1) := by decide +kernel
theorem dX6_doubt_1 : decode cX6_doubt 1 = .ok (.aload_n 0, 1) := by decide +kernel
theorem dX6_doubt_2 : decode cX6_doubt 2 = .ok (.getfield 49, 3) := by decide +kernel
theorem dX6_doubt_5 : decode cX6_doubt 5 = .ok (.ifCond .eq 7, 3) := by decide +kernel
theorem dX6_doubt_8 : decode cX6_doubt 8 = .ok (.iconst 0, 1) := by decide +kernel
theorem dX6_doubt_9 : decode cX6_doubt 9 = .ok (.goto 4, 3) := by decide +kernel
theorem dX6_doubt_12 : decode cX6_doubt 12 = .ok (.iconst 1, 1) := by decide +kernel
theorem dX6_doubt_13 : decode cX6_doubt 13 = .ok (.invokevirtual 53, 3) := by decide +kernel
theorem dX6_doubt_16 : decode cX6_doubt 16 = .ok (.ifCond .eq 10, 3) := by decide +kernel
theorem dX6_doubt_19 : decode cX6_doubt 19 = .ok (.aload_n 0, 1) := by decide +kernel
theorem dX6_doubt_20 : decode cX6_doubt 20 = .ok (.getfield 84, 3) := by decide +kernel
theorem dX6_doubt_23 : decode cX6_doubt 23 = .ok (.goto 4, 3) := by decide +kernel
theorem dX6_doubt_26 : decode cX6_doubt 26 = .ok (.iconst 0, 1) := by decide +kernel
theorem dX6_doubt_27 : decode cX6_doubt 27 = .ok (.ireturn, 1) := by decide +kernel
theorem dJ9_abs_0f7a4_0 : decode cJ9_abs_0f7a4 0 = .ok (.iload_n 0, 1) := by decide +kernel
theorem dJ9_abs_0f7a4_1 : decode cJ9_abs_0f7a4 1 = .ok (.ifCond .ge 8, 3) := by decide +kernel
theorem dJ9_abs_0f7a4_4 : decode cJ9_abs_0f7a4 4 = .ok (.iload_n 0, 1) := by decide +kernel
theorem dJ9_abs_0f7a4_5 : decode cJ9_abs_0f7a4 5 = .ok (.ineg, 1) := by decide +kernel
theorem dJ9_abs_0f7a4_6 : decode cJ9_abs_0f7a4 6 = .ok (.goto 4, 3) := by decide +kernel
theorem dJ9_abs_0f7a4_9 : decode cJ9_abs_0f7a4 9 = .ok (.iload_n 0, 1) := by decide +kernel
theorem dJ9_abs_0f7a4_10 : decode cJ9_abs_0f7a4 10 = .ok (.ireturn, 1) := by decide +kernel
theorem dJ9_max_7cf53_0 : decode cJ9_max_7cf53 0 = .ok (.iload_n 0, 1) := by decide +kernel
theorem dJ9_max_7cf53_1 : decode cJ9_max_7cf53 1 = .ok (.iload_n 1, 1) := by decide +kernel
theorem dJ9_max_7cf53_2 : decode cJ9_max_7cf53 2 = .ok (.if_icmp .lt 7, 3) := by decide +kernel
theorem dJ9_max_7cf53_5 : decode cJ9_max_7cf53 5 = .ok (.iload_n 0, 1) := by decide +kernel
theorem dJ9_max_7cf53_6 : decode cJ9_max_7cf53 6 = .ok (.goto 4, 3) := by decide +kernel
theorem dJ9_max_7cf53_9 : decode cJ9_max_7cf53 9 = .ok (.iload_n 1, 1) := by decide +kernel
theorem dJ9_max_7cf53_10 : decode cJ9_max_7cf53 10 = .ok (.ireturn, 1) := by decide +kernel
theorem dJ9_max_f86c9_0 : decode cJ9_max_f86c9 0 = .ok (.lload_n 0, 1) := by decide +kernel
theorem dJ9_max_f86c9_1 : decode cJ9_max_f86c9 1 = .ok (.lload_n 2, 1) := by decide +kernel
theorem dJ9_max_f86c9_2 : decode cJ9_max_f86c9 2 = .ok (.lcmp, 1) := by decide +kernel
theorem dJ9_max_f86c9_3 : decode cJ9_max_f86c9 3 = .ok (.ifCond .lt 7, 3) := by decide +kernel
theorem dJ9_max_f86c9_6 : decode cJ9_max_f86c9 6 = .ok (.lload_n 0, 1) := by decide +kernel
theorem dJ9_max_f86c9_7 : decode cJ9_max_f86c9 7 = .ok (.goto 4, 3) := by decide +kernel
theorem dJ9_max_f86c9_10 : decode cJ9_max_f86c9 10 = .ok (.lload_n 2, 1) := by decide +kernel
theorem dJ9_max_f86c9_11 : decode cJ9_max_f86c9 11 = .ok (.lreturn, 1) := by decide +kernel
theorem dJ9_min_7cf53_0 : decode cJ9_min_7cf53 0 = .ok (.iload_n 0, 1) := by decide +kernel
theorem dJ9_min_7cf53_1 : decode cJ9_min_7cf53 1 = .ok (.iload_n 1, 1) := by decide +kernel
theorem dJ9_min_7cf53_2 : decode cJ9_min_7cf53 2 = .ok (.if_icmp .gt 7, 3) := by decide +kernel
theorem dJ9_min_7cf53_5 : decode cJ9_min_7cf53 5 = .ok (.iload_n 0, 1) := by decide +kernel
theorem dJ9_min_7cf53_6 : decode cJ9_min_7cf53 6 = .ok (.goto 4, 3) := by decide +kernel
theorem dJ9_min_7cf53_9 : decode cJ9_min_7cf53 9 = .ok (.iload_n 1, 1) := by decide +kernel
theorem dJ9_min_7cf53_10 : decode cJ9_min_7cf53 10 = .ok (.ireturn, 1) := by decide +kernel
set_option maxRecDepth 20000 in
theorem ggL_wall_X5_wall : GoodIn wsL_wall wsX5_wall := goodIn_ca (goodIn_ca (goodIn_r _ [7, 8, 9, 10, 11, 12, 13, 6, 14, 15, 16, 17, 18, 19, 20, 21, 22, 23, 24, 25, 26, 27, 28, 29, 30, 31, 32, 33, 34, 35, 36, 37, 38, 39, 40, 41, 42, 43, 44, 45, 46, 47, 48, 49, 50, 51, 52, 53, 54, 55, 56, 57, 58, 59, 60, 61, 62, 63, 64, 65, 66, 67, 68] (by decide +kernel) (by decide +kernel)) (goodIn_sub (fun _ h => List.mem_cons_of_mem _ (List.mem_append_left _ (List.mem_append_right _ h))) (by decide +kernel))) (goodIn_sub (fun _ h => List.mem_cons_of_mem _ (List.mem_append_right _ h)) (by decide +kernel))
set_option maxRecDepth 20000 in
theorem gL_wall_X5_wall : GoodIn wsL_wall (wsV RL 7 RX5 yX5_wall wsX5_wall) := goodIn_app (goodIn_of _ (by decide +kernel)) ggL_wall_X5_wall
theorem dL_wall_0 : decode cL_wall 0 = .ok (.aload 4, 2) := by decide +kernel
theorem dL_wall_2 : decode cL_wall 2 = .ok (.iconst 0, 1) := by decide +kernel
theorem dL_wall_3 : decode cL_wall 3 = .ok (.aload_n 0, 1) := by decide +kernel
theorem dL_wall_4 : decode cL_wall 4 = .ok (.iload_n 1, 1) := by decide +kernel
theorem dL_wall_5 : decode cL_wall 5 = .ok (.iload_n 2, 1) := by decide +kernel
theorem dL_wall_6 : decode cL_wall 6 = .ok (.iload_n 3, 1) := by decide +kernel
theorem dL_wall_7 : decode cL_wall 7 = .ok (.invokevirtual 7, 3) := by decide +kernel
theorem dL_wall_10 : decode cL_wall 10 = .ok (.ifCond .eq 7, 3) := by decide +kernel
theorem dL_wall_13 : decode cL_wall 13 = .ok (.lconst 1, 1) := by decide +kernel
theorem dL_wall_14 : decode cL_wall 14 = .ok (.goto 4, 3) := by decide +kernel
theorem dL_wall_17 : decode cL_wall 17 = .ok (.lconst 0, 1) := by decide +kernel
theorem dL_wall_18 : decode cL_wall 18 = .ok (.lastore, 1) := by decide +kernel
theorem dL_wall_19 : decode cL_wall 19 = .ok (.goto 11, 3) := by decide +kernel
theorem dL_wall_22 : decode cL_wall 22 = .ok (.astore 5, 2) := by decide +kernel
theorem dL_wall_24 : decode cL_wall 24 = .ok (.iconst 1, 1) := by decide +kernel
theorem dL_wall_25 : decode cL_wall 25 = .ok (.ireturn, 1) := by decide +kernel
theorem dL_wall_26 : decode cL_wall 26 = .ok (.astore 5, 2) := by decide +kernel
theorem dL_wall_28 : decode cL_wall 28 = .ok (.iconst 2, 1) := by decide +kernel
theorem dL_wall_29 : decode cL_wall 29 = .ok (.ireturn, 1) := by decide +kernel
theorem dL_wall_30 : decode cL_wall 30 = .ok (.iconst 0, 1) := by decide +kernel
theorem dL_wall_31 : decode cL_wall 31 = .ok (.ireturn, 1) := by decide +kernel
set_option maxRecDepth 20000 in
theorem ggL_draw_X5_draw : GoodIn wsL_draw wsX5_draw := goodIn_ca (goodIn_r _ [6, 7, 8, 9, 10, 11, 12, 13, 14, 15, 16, 17, 18, 19, 20, 21, 22, 23, 24, 25, 26] (by decide +kernel) (by decide +kernel)) (goodIn_sub (fun _ h => List.mem_cons_of_mem _ (List.mem_append_right _ h)) (by decide +kernel))
set_option maxRecDepth 20000 in
theorem gL_draw_X5_draw : GoodIn wsL_draw (wsV RL 17 RX5 yX5_draw wsX5_draw) := goodIn_app (goodIn_of _ (by decide +kernel)) ggL_draw_X5_draw
theorem dL_draw_0 : decode cL_draw 0 = .ok (.aload_n 2, 1) := by decide +kernel
theorem dL_draw_1 : decode cL_draw 1 = .ok (.iconst 0, 1) := by decide +kernel
theorem dL_draw_2 : decode cL_draw 2 = .ok (.aload_n 0, 1) := by decide +kernel
theorem dL_draw_3 : decode cL_draw 3 = .ok (.iload_n 1, 1) := by decide +kernel
theorem dL_draw_4 : decode cL_draw 4 = .ok (.invokevirtual 17, 3) := by decide +kernel
theorem dL_draw_7 : decode cL_draw 7 = .ok (.i2l, 1) := by decide +kernel
theorem dL_draw_8 : decode cL_draw 8 = .ok (.lastore, 1) := by decide +kernel
theorem dL_draw_9 : decode cL_draw 9 = .ok (.goto 6, 3) := by decide +kernel
theorem dL_draw_12 : decode cL_draw 12 = .ok (.astore_n 3, 1) := by decide +kernel
theorem dL_draw_13 : decode cL_draw 13 = .ok (.iconst 1, 1) := by decide +kernel
theorem dL_draw_14 : decode cL_draw 14 = .ok (.ireturn, 1) := by decide +kernel
theorem dL_draw_15 : decode cL_draw 15 = .ok (.iconst 0, 1) := by decide +kernel
theorem dL_draw_16 : decode cL_draw 16 = .ok (.ireturn, 1) := by decide +kernel
set_option maxRecDepth 20000 in
theorem ggL_spread_X5_spread : GoodIn wsL_spread wsX5_spread := goodIn_ca (goodIn_r _ [6, 7, 8, 9, 10, 11, 12, 13, 14, 15, 16, 17, 18, 19, 20, 21, 22, 23, 24, 25, 26, 27, 28, 29, 30, 31, 32, 33, 34, 35, 36, 37, 38, 39, 40, 41, 42, 43, 44, 45, 46, 47, 48, 49, 50, 51, 5, 52, 53, 54, 55, 56, 57, 58, 59, 60, 61, 62, 63, 64, 65, 66, 67, 68, 69, 70, 71, 72, 73, 74, 75, 76, 77, 78, 79, 80, 81, 82, 83, 84, 85, 86] (by decide +kernel) (by decide +kernel)) (goodIn_sub (fun _ h => List.mem_cons_of_mem _ (List.mem_append_right _ h)) (by decide +kernel))
set_option maxRecDepth 20000 in
theorem gL_spread_X5_spread : GoodIn wsL_spread (wsV RL 23 RX5 yX5_spread wsX5_spread) := goodIn_app (goodIn_of _ (by decide +kernel)) ggL_spread_X5_spread
