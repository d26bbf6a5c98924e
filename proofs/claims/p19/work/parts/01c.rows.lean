set_option maxRecDepth 20000 in
theorem ggX0_init_X2_init : GoodIn wsX0_init wsX2_init := goodIn_r _ [12, 13, 2, 3, 14, 15, 19] (by decide +kernel) (by decide +kernel)
set_option maxRecDepth 20000 in
theorem gX0_init_X2_init : GoodIn wsX0_init (wsX2_init) := ggX0_init_X2_init
theorem dX0_init_0 : decode cX0_init 0 = .ok (.aload_n 0, 1) := by decide +kernel
theorem dX0_init_1 : decode cX0_init 1 = .ok (.invokespecial 3, 3) := by decide +kernel
theorem dX0_init_4 : decode cX0_init 4 = .ok (.aload_n 0, 1) := by decide +kernel
theorem dX0_init_5 : decode cX0_init 5 = .ok (.aload_n 1, 1) := by decide +kernel
theorem dX0_init_6 : decode cX0_init 6 = .ok (.putfield 9, 3) := by decide +kernel
theorem dX0_init_9 : decode cX0_init 9 = .ok (.aload_n 0, 1) := by decide +kernel
theorem dX0_init_10 : decode cX0_init 10 = .ok (.new 15, 3) := by decide +kernel
theorem dX0_init_13 : decode cX0_init 13 = .ok (.dup, 1) := by decide +kernel
theorem dX0_init_14 : decode cX0_init 14 = .ok (.invokespecial 17, 3) := by decide +kernel
theorem dX0_init_17 : decode cX0_init 17 = .ok (.putfield 18, 3) := by decide +kernel
theorem dX0_init_20 : decode cX0_init 20 = .ok (.aload_n 0, 1) := by decide +kernel
theorem dX0_init_21 : decode cX0_init 21 = .ok (.new 15, 3) := by decide +kernel
theorem dX0_init_24 : decode cX0_init 24 = .ok (.dup, 1) := by decide +kernel
theorem dX0_init_25 : decode cX0_init 25 = .ok (.invokespecial 17, 3) := by decide +kernel
theorem dX0_init_28 : decode cX0_init 28 = .ok (.putfield 22, 3) := by decide +kernel
theorem dX0_init_31 : decode cX0_init 31 = .ok (.return_, 1) := by decide +kernel
theorem dX0_chart_0 : decode cX0_chart 0 = .ok (.aload_n 0, 1) := by decide +kernel
theorem dX0_chart_1 : decode cX0_chart 1 = .ok (.getfield 18, 3) := by decide +kernel
theorem dX0_chart_4 : decode cX0_chart 4 = .ok (.areturn, 1) := by decide +kernel
set_option maxRecDepth 20000 in
theorem ggX0_begin_X3_isFree : GoodIn wsX0_begin wsX3_isFree := goodIn_r _ [7, 8, 9, 10, 11, 21, 22, 23] (by decide +kernel) (by decide +kernel)
set_option maxRecDepth 20000 in
theorem gX0_begin_X3_isFree : GoodIn wsX0_begin (wsV RX0 25 RX3 yX3_isFree wsX3_isFree) := goodIn_app (goodIn_of _ (by decide +kernel)) ggX0_begin_X3_isFree
set_option maxRecDepth 20000 in
theorem ggX0_begin_X2_put : GoodIn wsX0_begin wsX2_put := goodIn_r _ [16, 17, 9, 10, 11, 24] (by decide +kernel) (by decide +kernel)
set_option maxRecDepth 20000 in
theorem gX0_begin_X2_put : GoodIn wsX0_begin (wsV RX0 31 RX2 yX2_put wsX2_put) := goodIn_app (goodIn_of _ (by decide +kernel)) ggX0_begin_X2_put
theorem dX0_begin_0 : decode cX0_begin 0 = .ok (.iconst 0, 1) := by decide +kernel
theorem dX0_begin_1 : decode cX0_begin 1 = .ok (.istore_n 1, 1) := by decide +kernel
theorem dX0_begin_2 : decode cX0_begin 2 = .ok (.iload_n 1, 1) := by decide +kernel
theorem dX0_begin_3 : decode cX0_begin 3 = .ok (.bipush 64, 2) := by decide +kernel
theorem dX0_begin_5 : decode cX0_begin 5 = .ok (.if_icmp .ge 33, 3) := by decide +kernel
theorem dX0_begin_8 : decode cX0_begin 8 = .ok (.aload_n 0, 1) := by decide +kernel
theorem dX0_begin_9 : decode cX0_begin 9 = .ok (.getfield 18, 3) := by decide +kernel
theorem dX0_begin_12 : decode cX0_begin 12 = .ok (.iload_n 1, 1) := by decide +kernel
theorem dX0_begin_13 : decode cX0_begin 13 = .ok (.aload_n 0, 1) := by decide +kernel
theorem dX0_begin_14 : decode cX0_begin 14 = .ok (.getfield 9, 3) := by decide +kernel
theorem dX0_begin_17 : decode cX0_begin 17 = .ok (.iload_n 1, 1) := by decide +kernel
theorem dX0_begin_18 : decode cX0_begin 18 = .ok (.invokevirtual 25, 3) := by decide +kernel
theorem dX0_begin_21 : decode cX0_begin 21 = .ok (.ifCond .eq 7, 3) := by decide +kernel
theorem dX0_begin_24 : decode cX0_begin 24 = .ok (.lconst 1, 1) := by decide +kernel
theorem dX0_begin_25 : decode cX0_begin 25 = .ok (.goto 4, 3) := by decide +kernel
theorem dX0_begin_28 : decode cX0_begin 28 = .ok (.lconst 0, 1) := by decide +kernel
theorem dX0_begin_29 : decode cX0_begin 29 = .ok (.invokevirtual 31, 3) := by decide +kernel
theorem dX0_begin_32 : decode cX0_begin 32 = .ok (.iinc 1 1, 3) := by decide +kernel
theorem dX0_begin_35 : decode cX0_begin 35 = .ok (.goto (-33), 3) := by decide +kernel
theorem dX0_begin_38 : decode cX0_begin 38 = .ok (.return_, 1) := by decide +kernel
set_option maxRecDepth 20000 in
theorem ggX0_push_X2_copy : GoodIn wsX0_push wsX2_copy := goodIn_r _ [10, 11, 12, 13, 14, 15, 82] (by decide +kernel) (by decide +kernel)
set_option maxRecDepth 20000 in
theorem gX0_push_X2_copy : GoodIn wsX0_push (wsV RX0 35 RX2 yX2_copy wsX2_copy) := goodIn_app (goodIn_of _ (by decide +kernel)) ggX0_push_X2_copy
set_option maxRecDepth 20000 in
theorem ggX0_push_X2_clear : GoodIn wsX0_push wsX2_clear := goodIn_r _ [19, 11, 82] (by decide +kernel) (by decide +kernel)
set_option maxRecDepth 20000 in
theorem gX0_push_X2_clear : GoodIn wsX0_push (wsV RX0 39 RX2 yX2_clear wsX2_clear) := goodIn_app (goodIn_of _ (by decide +kernel)) ggX0_push_X2_clear
set_option maxRecDepth 20000 in
theorem ggX0_push_X3_isFree : GoodIn wsX0_push wsX3_isFree := goodIn_r _ [24, 25, 26, 27, 28, 83, 84, 85] (by decide +kernel) (by decide +kernel)
set_option maxRecDepth 20000 in
theorem gX0_push_X3_isFree : GoodIn wsX0_push (wsV RX0 25 RX3 yX3_isFree wsX3_isFree) := goodIn_app (goodIn_of _ (by decide +kernel)) ggX0_push_X3_isFree
set_option maxRecDepth 20000 in
theorem ggX0_push_X2_at : GoodIn wsX0_push wsX2_at := goodIn_r _ [32, 11, 26, 27, 28, 82] (by decide +kernel) (by decide +kernel)
set_option maxRecDepth 20000 in
theorem gX0_push_X2_at : GoodIn wsX0_push (wsV RX0 44 RX2 yX2_at wsX2_at) := goodIn_app (goodIn_of _ (by decide +kernel)) ggX0_push_X2_at
set_option maxRecDepth 20000 in
theorem ggX0_push_X2_add : GoodIn wsX0_push wsX2_add := goodIn_r _ [36, 11, 26, 27, 28, 82] (by decide +kernel) (by decide +kernel)
set_option maxRecDepth 20000 in
theorem gX0_push_X2_add : GoodIn wsX0_push (wsV RX0 48 RX2 yX2_add wsX2_add) := goodIn_app (goodIn_of _ (by decide +kernel)) ggX0_push_X2_add
set_option maxRecDepth 20000 in
theorem ggX0_push_X3_led : GoodIn wsX0_push wsX3_led := goodIn_r _ [40, 41, 42, 43, 44, 45, 46, 47, 23, 48, 49, 26, 27, 28, 50, 51, 52, 53, 54, 55, 56, 57, 58, 59, 60, 83, 84, 85] (by decide +kernel) (by decide +kernel)
set_option maxRecDepth 20000 in
theorem gX0_push_X3_led : GoodIn wsX0_push (wsV RX0 51 RX3 yX3_led wsX3_led) := goodIn_app (goodIn_of _ (by decide +kernel)) ggX0_push_X3_led
set_option maxRecDepth 20000 in
theorem ggX0_push_X0_halveGreat : GoodIn wsX0_push wsX0_halveGreat := goodIn_r _ [65, 2, 66, 67, 68, 69, 9, 70, 11, 71, 72, 43, 73, 74, 75, 76, 77, 78, 79, 80, 81, 82] (by decide +kernel) (by decide +kernel)
set_option maxRecDepth 20000 in
theorem gX0_push_X0_halveGreat : GoodIn wsX0_push (wsV RX0 57 RX0 yX0_halveGreat wsX0_halveGreat) := goodIn_app (goodIn_of _ (by decide +kernel)) ggX0_push_X0_halveGreat
theorem dX0_push_0 : decode cX0_push 0 = .ok (.aload_n 0, 1) := by decide +kernel
theorem dX0_push_1 : decode cX0_push 1 = .ok (.getfield 22, 3) := by decide +kernel
theorem dX0_push_4 : decode cX0_push 4 = .ok (.aload_n 0, 1) := by decide +kernel
theorem dX0_push_5 : decode cX0_push 5 = .ok (.getfield 18, 3) := by decide +kernel
theorem dX0_push_8 : decode cX0_push 8 = .ok (.invokevirtual 35, 3) := by decide +kernel
theorem dX0_push_11 : decode cX0_push 11 = .ok (.aload_n 0, 1) := by decide +kernel
theorem dX0_push_12 : decode cX0_push 12 = .ok (.getfield 18, 3) := by decide +kernel
theorem dX0_push_15 : decode cX0_push 15 = .ok (.invokevirtual 39, 3) := by decide +kernel
theorem dX0_push_18 : decode cX0_push 18 = .ok (.iconst 0, 1) := by decide +kernel
theorem dX0_push_19 : decode cX0_push 19 = .ok (.istore_n 2, 1) := by decide +kernel
theorem dX0_push_20 : decode cX0_push 20 = .ok (.iload_n 2, 1) := by decide +kernel
theorem dX0_push_21 : decode cX0_push 21 = .ok (.bipush 64, 2) := by decide +kernel
theorem dX0_push_23 : decode cX0_push 23 = .ok (.if_icmp .ge 94, 3) := by decide +kernel
theorem dX0_push_26 : decode cX0_push 26 = .ok (.aload_n 0, 1) := by decide +kernel
theorem dX0_push_27 : decode cX0_push 27 = .ok (.getfield 9, 3) := by decide +kernel
theorem dX0_push_30 : decode cX0_push 30 = .ok (.iload_n 2, 1) := by decide +kernel
theorem dX0_push_31 : decode cX0_push 31 = .ok (.invokevirtual 25, 3) := by decide +kernel
theorem dX0_push_34 : decode cX0_push 34 = .ok (.ifCond .eq 77, 3) := by decide +kernel
theorem dX0_push_37 : decode cX0_push 37 = .ok (.aload_n 0, 1) := by decide +kernel
theorem dX0_push_38 : decode cX0_push 38 = .ok (.getfield 18, 3) := by decide +kernel
theorem dX0_push_41 : decode cX0_push 41 = .ok (.iload_n 2, 1) := by decide +kernel
theorem dX0_push_42 : decode cX0_push 42 = .ok (.ldc2_w 42, 3) := by decide +kernel
theorem dX0_push_45 : decode cX0_push 45 = .ok (.aload_n 0, 1) := by decide +kernel
theorem dX0_push_46 : decode cX0_push 46 = .ok (.getfield 22, 3) := by decide +kernel
theorem dX0_push_49 : decode cX0_push 49 = .ok (.iload_n 2, 1) := by decide +kernel
theorem dX0_push_50 : decode cX0_push 50 = .ok (.invokevirtual 44, 3) := by decide +kernel
theorem dX0_push_53 : decode cX0_push 53 = .ok (.lmul, 1) := by decide +kernel
theorem dX0_push_54 : decode cX0_push 54 = .ok (.invokevirtual 48, 3) := by decide +kernel
theorem dX0_push_57 : decode cX0_push 57 = .ok (.aload_n 0, 1) := by decide +kernel
theorem dX0_push_58 : decode cX0_push 58 = .ok (.getfield 18, 3) := by decide +kernel
theorem dX0_push_61 : decode cX0_push 61 = .ok (.aload_n 0, 1) := by decide +kernel
theorem dX0_push_62 : decode cX0_push 62 = .ok (.getfield 9, 3) := by decide +kernel
theorem dX0_push_65 : decode cX0_push 65 = .ok (.iload_n 2, 1) := by decide +kernel
theorem dX0_push_66 : decode cX0_push 66 = .ok (.iload_n 1, 1) := by decide +kernel
theorem dX0_push_67 : decode cX0_push 67 = .ok (.iconst 1, 1) := by decide +kernel
theorem dX0_push_68 : decode cX0_push 68 = .ok (.invokevirtual 51, 3) := by decide +kernel
theorem dX0_push_71 : decode cX0_push 71 = .ok (.ldc2_w 55, 3) := by decide +kernel
theorem dX0_push_74 : decode cX0_push 74 = .ok (.aload_n 0, 1) := by decide +kernel
theorem dX0_push_75 : decode cX0_push 75 = .ok (.getfield 22, 3) := by decide +kernel
theorem dX0_push_78 : decode cX0_push 78 = .ok (.iload_n 2, 1) := by decide +kernel
theorem dX0_push_79 : decode cX0_push 79 = .ok (.invokevirtual 44, 3) := by decide +kernel
theorem dX0_push_82 : decode cX0_push 82 = .ok (.lmul, 1) := by decide +kernel
theorem dX0_push_83 : decode cX0_push 83 = .ok (.invokevirtual 48, 3) := by decide +kernel
theorem dX0_push_86 : decode cX0_push 86 = .ok (.aload_n 0, 1) := by decide +kernel
theorem dX0_push_87 : decode cX0_push 87 = .ok (.getfield 18, 3) := by decide +kernel
theorem dX0_push_90 : decode cX0_push 90 = .ok (.aload_n 0, 1) := by decide +kernel
theorem dX0_push_91 : decode cX0_push 91 = .ok (.getfield 9, 3) := by decide +kernel
theorem dX0_push_94 : decode cX0_push 94 = .ok (.iload_n 2, 1) := by decide +kernel
theorem dX0_push_95 : decode cX0_push 95 = .ok (.iload_n 1, 1) := by decide +kernel
theorem dX0_push_96 : decode cX0_push 96 = .ok (.iconst 2, 1) := by decide +kernel
theorem dX0_push_97 : decode cX0_push 97 = .ok (.invokevirtual 51, 3) := by decide +kernel
theorem dX0_push_100 : decode cX0_push 100 = .ok (.aload_n 0, 1) := by decide +kernel
theorem dX0_push_101 : decode cX0_push 101 = .ok (.getfield 22, 3) := by decide +kernel
theorem dX0_push_104 : decode cX0_push 104 = .ok (.iload_n 2, 1) := by decide +kernel
theorem dX0_push_105 : decode cX0_push 105 = .ok (.invokevirtual 44, 3) := by decide +kernel
theorem dX0_push_108 : decode cX0_push 108 = .ok (.invokevirtual 48, 3) := by decide +kernel
theorem dX0_push_111 : decode cX0_push 111 = .ok (.iinc 2 1, 3) := by decide +kernel
theorem dX0_push_114 : decode cX0_push 114 = .ok (.goto (-94), 3) := by decide +kernel
theorem dX0_push_117 : decode cX0_push 117 = .ok (.aload_n 0, 1) := by decide +kernel
theorem dX0_push_118 : decode cX0_push 118 = .ok (.invokevirtual 57, 3) := by decide +kernel
theorem dX0_push_121 : decode cX0_push 121 = .ok (.return_, 1) := by decide +kernel
set_option maxRecDepth 20000 in
theorem ggX0_fetch_X2_copy : GoodIn wsX0_fetch wsX2_copy := goodIn_r _ [7, 8, 9, 10, 11, 12, 83] (by decide +kernel) (by decide +kernel)
set_option maxRecDepth 20000 in
theorem gX0_fetch_X2_copy : GoodIn wsX0_fetch (wsV RX0 35 RX2 yX2_copy wsX2_copy) := goodIn_app (goodIn_of _ (by decide +kernel)) ggX0_fetch_X2_copy
set_option maxRecDepth 20000 in
theorem ggX0_fetch_X0_fetched : GoodIn wsX0_fetch wsX0_fetched := goodIn_r _ [17, 18, 1, 19, 20, 21, 22, 23, 6, 24, 8, 25, 26, 27, 28, 29, 30, 31, 32, 33, 34, 35, 36, 37, 38, 39, 40, 41, 42, 43, 44, 45, 46, 47, 48, 49, 50, 51, 52, 53, 54, 55, 56, 57, 58, 80, 81, 82, 83, 84, 85, 86] (by decide +kernel) (by decide +kernel)
set_option maxRecDepth 20000 in
theorem gX0_fetch_X0_fetched : GoodIn wsX0_fetch (wsV RX0 60 RX0 yX0_fetched wsX0_fetched) := goodIn_app (goodIn_of _ (by decide +kernel)) ggX0_fetch_X0_fetched
set_option maxRecDepth 20000 in
theorem ggX0_fetch_X2_put : GoodIn wsX0_fetch wsX2_put := goodIn_r _ [62, 8, 25, 26, 27, 83] (by decide +kernel) (by decide +kernel)
set_option maxRecDepth 20000 in
theorem gX0_fetch_X2_put : GoodIn wsX0_fetch (wsV RX0 31 RX2 yX2_put wsX2_put) := goodIn_app (goodIn_of _ (by decide +kernel)) ggX0_fetch_X2_put
set_option maxRecDepth 20000 in
theorem ggX0_fetch_X0_halveGreat : GoodIn wsX0_fetch wsX0_halveGreat := goodIn_r _ [66, 2, 67, 68, 69, 70, 6, 71, 8, 72, 73, 51, 74, 75, 76, 77, 78, 79, 80, 81, 82, 83] (by decide +kernel) (by decide +kernel)
set_option maxRecDepth 20000 in
theorem gX0_fetch_X0_halveGreat : GoodIn wsX0_fetch (wsV RX0 57 RX0 yX0_halveGreat wsX0_halveGreat) := goodIn_app (goodIn_of _ (by decide +kernel)) ggX0_fetch_X0_halveGreat
theorem dX0_fetch_0 : decode cX0_fetch 0 = .ok (.aload_n 0, 1) := by decide +kernel
theorem dX0_fetch_1 : decode cX0_fetch 1 = .ok (.getfield 22, 3) := by decide +kernel
theorem dX0_fetch_4 : decode cX0_fetch 4 = .ok (.aload_n 0, 1) := by decide +kernel
theorem dX0_fetch_5 : decode cX0_fetch 5 = .ok (.getfield 18, 3) := by decide +kernel
theorem dX0_fetch_8 : decode cX0_fetch 8 = .ok (.invokevirtual 35, 3) := by decide +kernel
theorem dX0_fetch_11 : decode cX0_fetch 11 = .ok (.iconst 0, 1) := by decide +kernel
theorem dX0_fetch_12 : decode cX0_fetch 12 = .ok (.istore_n 2, 1) := by decide +kernel
theorem dX0_fetch_13 : decode cX0_fetch 13 = .ok (.iload_n 2, 1) := by decide +kernel
theorem dX0_fetch_14 : decode cX0_fetch 14 = .ok (.bipush 64, 2) := by decide +kernel
theorem dX0_fetch_16 : decode cX0_fetch 16 = .ok (.if_icmp .ge 23, 3) := by decide +kernel
theorem dX0_fetch_19 : decode cX0_fetch 19 = .ok (.aload_n 0, 1) := by decide +kernel
theorem dX0_fetch_20 : decode cX0_fetch 20 = .ok (.getfield 18, 3) := by decide +kernel
theorem dX0_fetch_23 : decode cX0_fetch 23 = .ok (.iload_n 2, 1) := by decide +kernel
theorem dX0_fetch_24 : decode cX0_fetch 24 = .ok (.aload_n 0, 1) := by decide +kernel
theorem dX0_fetch_25 : decode cX0_fetch 25 = .ok (.iload_n 2, 1) := by decide +kernel
theorem dX0_fetch_26 : decode cX0_fetch 26 = .ok (.iload_n 1, 1) := by decide +kernel
theorem dX0_fetch_27 : decode cX0_fetch 27 = .ok (.invokevirtual 60, 3) := by decide +kernel
theorem dX0_fetch_30 : decode cX0_fetch 30 = .ok (.invokevirtual 31, 3) := by decide +kernel
theorem dX0_fetch_33 : decode cX0_fetch 33 = .ok (.iinc 2 1, 3) := by decide +kernel
theorem dX0_fetch_36 : decode cX0_fetch 36 = .ok (.goto (-23), 3) := by decide +kernel
theorem dX0_fetch_39 : decode cX0_fetch 39 = .ok (.aload_n 0, 1) := by decide +kernel
theorem dX0_fetch_40 : decode cX0_fetch 40 = .ok (.invokevirtual 57, 3) := by decide +kernel
theorem dX0_fetch_43 : decode cX0_fetch 43 = .ok (.return_, 1) := by decide +kernel
set_option maxRecDepth 20000 in
theorem ggX0_fetched_X2_at : GoodIn wsX0_fetched wsX2_at := goodIn_r _ [9, 10, 11, 12, 13, 48] (by decide +kernel) (by decide +kernel)
set_option maxRecDepth 20000 in
theorem gX0_fetched_X2_at : GoodIn wsX0_fetched (wsV RX0 44 RX2 yX2_at wsX2_at) := goodIn_app (goodIn_of _ (by decide +kernel)) ggX0_fetched_X2_at
set_option maxRecDepth 20000 in
theorem ggX0_fetched_X3_shifted : GoodIn wsX0_fetched wsX3_shifted := goodIn_r _ [17, 18, 19, 11, 12, 13, 20, 21, 22, 23, 24, 25] (by decide +kernel) (by decide +kernel)
set_option maxRecDepth 20000 in
theorem gX0_fetched_X3_shifted : GoodIn wsX0_fetched (va_wsS RX0 64 yX3_shifted wsX3_shifted) := goodIn_app (goodIn_of _ (by decide +kernel)) ggX0_fetched_X3_shifted
set_option maxRecDepth 20000 in
theorem ggX0_fetched_X3_isFree : GoodIn wsX0_fetched wsX3_isFree := goodIn_r _ [29, 30, 11, 12, 13, 49, 50, 51] (by decide +kernel) (by decide +kernel)
set_option maxRecDepth 20000 in
theorem gX0_fetched_X3_isFree : GoodIn wsX0_fetched (wsV RX0 25 RX3 yX3_isFree wsX3_isFree) := goodIn_app (goodIn_of _ (by decide +kernel)) ggX0_fetched_X3_isFree
set_option maxRecDepth 20000 in
theorem ggX0_fetched_X3_led : GoodIn wsX0_fetched wsX3_led := goodIn_r _ [34, 35, 36, 37, 38, 39, 40, 41, 16, 42, 43, 11, 12, 13, 20, 21, 44, 15, 17, 18, 19, 22, 23, 24, 25, 49, 50, 51] (by decide +kernel) (by decide +kernel)
set_option maxRecDepth 20000 in
theorem gX0_fetched_X3_led : GoodIn wsX0_fetched (wsV RX0 51 RX3 yX3_led wsX3_led) := goodIn_app (goodIn_of _ (by decide +kernel)) ggX0_fetched_X3_led
theorem dX0_fetched_0 : decode cX0_fetched 0 = .ok (.ldc2_w 42, 3) := by decide +kernel
theorem dX0_fetched_3 : decode cX0_fetched 3 = .ok (.aload_n 0, 1) := by decide +kernel
theorem dX0_fetched_4 : decode cX0_fetched 4 = .ok (.getfield 22, 3) := by decide +kernel
theorem dX0_fetched_7 : decode cX0_fetched 7 = .ok (.iload_n 1, 1) := by decide +kernel
theorem dX0_fetched_8 : decode cX0_fetched 8 = .ok (.invokevirtual 44, 3) := by decide +kernel
theorem dX0_fetched_11 : decode cX0_fetched 11 = .ok (.lmul, 1) := by decide +kernel
theorem dX0_fetched_12 : decode cX0_fetched 12 = .ok (.lstore_n 3, 1) := by decide +kernel
theorem dX0_fetched_13 : decode cX0_fetched 13 = .ok (.iconst 0, 1) := by decide +kernel
theorem dX0_fetched_14 : decode cX0_fetched 14 = .ok (.istore 5, 2) := by decide +kernel
theorem dX0_fetched_16 : decode cX0_fetched 16 = .ok (.iload 5, 2) := by decide +kernel
theorem dX0_fetched_18 : decode cX0_fetched 18 = .ok (.iconst 2, 1) := by decide +kernel
theorem dX0_fetched_19 : decode cX0_fetched 19 = .ok (.if_icmp .gt 97, 3) := by decide +kernel
theorem dX0_fetched_22 : decode cX0_fetched 22 = .ok (.iload_n 1, 1) := by decide +kernel
theorem dX0_fetched_23 : decode cX0_fetched 23 = .ok (.iload_n 2, 1) := by decide +kernel
theorem dX0_fetched_24 : decode cX0_fetched 24 = .ok (.iload 5, 2) := by decide +kernel
theorem dX0_fetched_26 : decode cX0_fetched 26 = .ok (.ineg, 1) := by decide +kernel
theorem dX0_fetched_27 : decode cX0_fetched 27 = .ok (.invokestatic 64, 3) := by decide +kernel
theorem dX0_fetched_30 : decode cX0_fetched 30 = .ok (.istore 6, 2) := by decide +kernel
theorem dX0_fetched_32 : decode cX0_fetched 32 = .ok (.aload_n 0, 1) := by decide +kernel
theorem dX0_fetched_33 : decode cX0_fetched 33 = .ok (.getfield 9, 3) := by decide +kernel
theorem dX0_fetched_36 : decode cX0_fetched 36 = .ok (.iload 6, 2) := by decide +kernel
theorem dX0_fetched_38 : decode cX0_fetched 38 = .ok (.invokevirtual 25, 3) := by decide +kernel
theorem dX0_fetched_41 : decode cX0_fetched 41 = .ok (.ifCond .eq 69, 3) := by decide +kernel
theorem dX0_fetched_44 : decode cX0_fetched 44 = .ok (.lload_n 3, 1) := by decide +kernel
theorem dX0_fetched_45 : decode cX0_fetched 45 = .ok (.aload_n 0, 1) := by decide +kernel
theorem dX0_fetched_46 : decode cX0_fetched 46 = .ok (.getfield 9, 3) := by decide +kernel
theorem dX0_fetched_49 : decode cX0_fetched 49 = .ok (.iload 6, 2) := by decide +kernel
theorem dX0_fetched_51 : decode cX0_fetched 51 = .ok (.iload_n 2, 1) := by decide +kernel
theorem dX0_fetched_52 : decode cX0_fetched 52 = .ok (.iconst 1, 1) := by decide +kernel
theorem dX0_fetched_53 : decode cX0_fetched 53 = .ok (.invokevirtual 51, 3) := by decide +kernel
theorem dX0_fetched_56 : decode cX0_fetched 56 = .ok (.iload_n 1, 1) := by decide +kernel
theorem dX0_fetched_57 : decode cX0_fetched 57 = .ok (.if_icmp .ne 19, 3) := by decide +kernel
theorem dX0_fetched_60 : decode cX0_fetched 60 = .ok (.ldc2_w 55, 3) := by decide +kernel
theorem dX0_fetched_63 : decode cX0_fetched 63 = .ok (.aload_n 0, 1) := by decide +kernel
theorem dX0_fetched_64 : decode cX0_fetched 64 = .ok (.getfield 22, 3) := by decide +kernel
theorem dX0_fetched_67 : decode cX0_fetched 67 = .ok (.iload 6, 2) := by decide +kernel
theorem dX0_fetched_69 : decode cX0_fetched 69 = .ok (.invokevirtual 44, 3) := by decide +kernel
theorem dX0_fetched_72 : decode cX0_fetched 72 = .ok (.lmul, 1) := by decide +kernel
theorem dX0_fetched_73 : decode cX0_fetched 73 = .ok (.goto 4, 3) := by decide +kernel
theorem dX0_fetched_76 : decode cX0_fetched 76 = .ok (.lconst 0, 1) := by decide +kernel
theorem dX0_fetched_77 : decode cX0_fetched 77 = .ok (.ladd, 1) := by decide +kernel
theorem dX0_fetched_78 : decode cX0_fetched 78 = .ok (.lstore_n 3, 1) := by decide +kernel
theorem dX0_fetched_79 : decode cX0_fetched 79 = .ok (.lload_n 3, 1) := by decide +kernel
theorem dX0_fetched_80 : decode cX0_fetched 80 = .ok (.aload_n 0, 1) := by decide +kernel
theorem dX0_fetched_81 : decode cX0_fetched 81 = .ok (.getfield 9, 3) := by decide +kernel
theorem dX0_fetched_84 : decode cX0_fetched 84 = .ok (.iload 6, 2) := by decide +kernel
theorem dX0_fetched_86 : decode cX0_fetched 86 = .ok (.iload_n 2, 1) := by decide +kernel
theorem dX0_fetched_87 : decode cX0_fetched 87 = .ok (.iconst 2, 1) := by decide +kernel
theorem dX0_fetched_88 : decode cX0_fetched 88 = .ok (.invokevirtual 51, 3) := by decide +kernel
theorem dX0_fetched_91 : decode cX0_fetched 91 = .ok (.iload_n 1, 1) := by decide +kernel
theorem dX0_fetched_92 : decode cX0_fetched 92 = .ok (.if_icmp .ne 15, 3) := by decide +kernel
theorem dX0_fetched_95 : decode cX0_fetched 95 = .ok (.aload_n 0, 1) := by decide +kernel
theorem dX0_fetched_96 : decode cX0_fetched 96 = .ok (.getfield 22, 3) := by decide +kernel
theorem dX0_fetched_99 : decode cX0_fetched 99 = .ok (.iload 6, 2) := by decide +kernel
theorem dX0_fetched_101 : decode cX0_fetched 101 = .ok (.invokevirtual 44, 3) := by decide +kernel
theorem dX0_fetched_104 : decode cX0_fetched 104 = .ok (.goto 4, 3) := by decide +kernel
theorem dX0_fetched_107 : decode cX0_fetched 107 = .ok (.lconst 0, 1) := by decide +kernel
theorem dX0_fetched_108 : decode cX0_fetched 108 = .ok (.ladd, 1) := by decide +kernel
theorem dX0_fetched_109 : decode cX0_fetched 109 = .ok (.lstore_n 3, 1) := by decide +kernel
theorem dX0_fetched_110 : decode cX0_fetched 110 = .ok (.iinc 5 1, 3) := by decide +kernel
theorem dX0_fetched_113 : decode cX0_fetched 113 = .ok (.goto (-97), 3) := by decide +kernel
theorem dX0_fetched_116 : decode cX0_fetched 116 = .ok (.lload_n 3, 1) := by decide +kernel
theorem dX0_fetched_117 : decode cX0_fetched 117 = .ok (.lreturn, 1) := by decide +kernel
set_option maxRecDepth 20000 in
theorem ggX0_weigh_X2_at : GoodIn wsX0_weigh wsX2_at := goodIn_r _ [7, 8, 9, 10, 11, 62] (by decide +kernel) (by decide +kernel)
set_option maxRecDepth 20000 in
theorem gX0_weigh_X2_at : GoodIn wsX0_weigh (wsV RX0 44 RX2 yX2_at wsX2_at) := goodIn_app (goodIn_of _ (by decide +kernel)) ggX0_weigh_X2_at
set_option maxRecDepth 20000 in
theorem ggX0_weigh_X3_weight : GoodIn wsX0_weigh wsX3_weight := goodIn_r _ [16, 17, 18, 19, 20, 21, 22, 23, 15, 24, 25, 9, 10, 11, 26, 27, 63, 64, 65] (by decide +kernel) (by decide +kernel)
set_option maxRecDepth 20000 in
theorem gX0_weigh_X3_weight : GoodIn wsX0_weigh (wsV RX0 67 RX3 yX3_weight wsX3_weight) := goodIn_app (goodIn_of _ (by decide +kernel)) ggX0_weigh_X3_weight
set_option maxRecDepth 20000 in
theorem ggX0_weigh_X2_put : GoodIn wsX0_weigh wsX2_put := goodIn_r _ [31, 8, 9, 10, 11, 62] (by decide +kernel) (by decide +kernel)
set_option maxRecDepth 20000 in
theorem gX0_weigh_X2_put : GoodIn wsX0_weigh (wsV RX0 31 RX2 yX2_put wsX2_put) := goodIn_app (goodIn_of _ (by decide +kernel)) ggX0_weigh_X2_put
set_option maxRecDepth 20000 in
theorem ggX0_weigh_X2_greatest : GoodIn wsX0_weigh wsX2_greatest := goodIn_r _ [35, 8, 36, 37, 19, 38, 62] (by decide +kernel) (by decide +kernel)
set_option maxRecDepth 20000 in
theorem gX0_weigh_X2_greatest : GoodIn wsX0_weigh (wsV RX0 70 RX2 yX2_greatest wsX2_greatest) := goodIn_app (goodIn_of _ (by decide +kernel)) ggX0_weigh_X2_greatest
set_option maxRecDepth 20000 in
theorem ggX0_weigh_X0_begin : GoodIn wsX0_weigh wsX0_begin := goodIn_r _ [43, 1, 2, 44, 45, 46, 15, 47, 48, 9, 10, 11, 28, 29, 30, 6, 31, 8, 59, 60, 61, 63, 64, 65, 62] (by decide +kernel) (by decide +kernel)
set_option maxRecDepth 20000 in
theorem gX0_weigh_X0_begin : GoodIn wsX0_weigh (wsV RX0 74 RX0 yX0_begin wsX0_begin) := goodIn_app (goodIn_of _ (by decide +kernel)) ggX0_weigh_X0_begin
set_option maxRecDepth 20000 in
theorem ggX0_weigh_X0_halveGreat : GoodIn wsX0_weigh wsX0_halveGreat := goodIn_r _ [52, 1, 53, 32, 33, 34, 6, 35, 8, 36, 37, 19, 38, 54, 55, 56, 57, 58, 59, 60, 61, 62] (by decide +kernel) (by decide +kernel)
set_option maxRecDepth 20000 in
theorem gX0_weigh_X0_halveGreat : GoodIn wsX0_weigh (wsV RX0 57 RX0 yX0_halveGreat wsX0_halveGreat) := goodIn_app (goodIn_of _ (by decide +kernel)) ggX0_weigh_X0_halveGreat
theorem dX0_weigh_0 : decode cX0_weigh 0 = .ok (.iconst 0, 1) := by decide +kernel
theorem dX0_weigh_1 : decode cX0_weigh 1 = .ok (.istore_n 3, 1) := by decide +kernel
theorem dX0_weigh_2 : decode cX0_weigh 2 = .ok (.iload_n 3, 1) := by decide +kernel
theorem dX0_weigh_3 : decode cX0_weigh 3 = .ok (.bipush 64, 2) := by decide +kernel
theorem dX0_weigh_5 : decode cX0_weigh 5 = .ok (.if_icmp .ge 37, 3) := by decide +kernel
theorem dX0_weigh_8 : decode cX0_weigh 8 = .ok (.aload_n 0, 1) := by decide +kernel
theorem dX0_weigh_9 : decode cX0_weigh 9 = .ok (.getfield 18, 3) := by decide +kernel
theorem dX0_weigh_12 : decode cX0_weigh 12 = .ok (.iload_n 3, 1) := by decide +kernel
theorem dX0_weigh_13 : decode cX0_weigh 13 = .ok (.aload_n 0, 1) := by decide +kernel
theorem dX0_weigh_14 : decode cX0_weigh 14 = .ok (.getfield 18, 3) := by decide +kernel
theorem dX0_weigh_17 : decode cX0_weigh 17 = .ok (.iload_n 3, 1) := by decide +kernel
theorem dX0_weigh_18 : decode cX0_weigh 18 = .ok (.invokevirtual 44, 3) := by decide +kernel
theorem dX0_weigh_21 : decode cX0_weigh 21 = .ok (.aload_n 0, 1) := by decide +kernel
theorem dX0_weigh_22 : decode cX0_weigh 22 = .ok (.getfield 9, 3) := by decide +kernel
theorem dX0_weigh_25 : decode cX0_weigh 25 = .ok (.iload_n 3, 1) := by decide +kernel
theorem dX0_weigh_26 : decode cX0_weigh 26 = .ok (.iload_n 1, 1) := by decide +kernel
theorem dX0_weigh_27 : decode cX0_weigh 27 = .ok (.iload_n 2, 1) := by decide +kernel
theorem dX0_weigh_28 : decode cX0_weigh 28 = .ok (.invokevirtual 67, 3) := by decide +kernel
theorem dX0_weigh_31 : decode cX0_weigh 31 = .ok (.i2l, 1) := by decide +kernel
theorem dX0_weigh_32 : decode cX0_weigh 32 = .ok (.lmul, 1) := by decide +kernel
theorem dX0_weigh_33 : decode cX0_weigh 33 = .ok (.invokevirtual 31, 3) := by decide +kernel
theorem dX0_weigh_36 : decode cX0_weigh 36 = .ok (.iinc 3 1, 3) := by decide +kernel
theorem dX0_weigh_39 : decode cX0_weigh 39 = .ok (.goto (-37), 3) := by decide +kernel
theorem dX0_weigh_42 : decode cX0_weigh 42 = .ok (.aload_n 0, 1) := by decide +kernel
theorem dX0_weigh_43 : decode cX0_weigh 43 = .ok (.getfield 18, 3) := by decide +kernel
theorem dX0_weigh_46 : decode cX0_weigh 46 = .ok (.invokevirtual 70, 3) := by decide +kernel
theorem dX0_weigh_49 : decode cX0_weigh 49 = .ok (.lconst 0, 1) := by decide +kernel
theorem dX0_weigh_50 : decode cX0_weigh 50 = .ok (.lcmp, 1) := by decide +kernel
theorem dX0_weigh_51 : decode cX0_weigh 51 = .ok (.ifCond .ne 7, 3) := by decide +kernel
theorem dX0_weigh_54 : decode cX0_weigh 54 = .ok (.aload_n 0, 1) := by decide +kernel
theorem dX0_weigh_55 : decode cX0_weigh 55 = .ok (.invokevirtual 74, 3) := by decide +kernel
theorem dX0_weigh_58 : decode cX0_weigh 58 = .ok (.aload_n 0, 1) := by decide +kernel
theorem dX0_weigh_59 : decode cX0_weigh 59 = .ok (.invokevirtual 57, 3) := by decide +kernel
theorem dX0_weigh_62 : decode cX0_weigh 62 = .ok (.return_, 1) := by decide +kernel
set_option maxRecDepth 20000 in
theorem ggX0_halveGreat_X2_greatest : GoodIn wsX0_halveGreat wsX2_greatest := goodIn_r _ [7, 8, 9, 10, 11, 12, 21] (by decide +kernel) (by decide +kernel)
set_option maxRecDepth 20000 in
theorem gX0_halveGreat_X2_greatest : GoodIn wsX0_halveGreat (wsV RX0 70 RX2 yX2_greatest wsX2_greatest) := goodIn_app (goodIn_of _ (by decide +kernel)) ggX0_halveGreat_X2_greatest
set_option maxRecDepth 20000 in
theorem ggX0_halveGreat_X2_halve : GoodIn wsX0_halveGreat wsX2_halve := goodIn_r _ [16, 8, 17, 21] (by decide +kernel) (by decide +kernel)
set_option maxRecDepth 20000 in
theorem gX0_halveGreat_X2_halve : GoodIn wsX0_halveGreat (wsV RX0 79 RX2 yX2_halve wsX2_halve) := goodIn_app (goodIn_of _ (by decide +kernel)) ggX0_halveGreat_X2_halve
theorem dX0_halveGreat_0 : decode cX0_halveGreat 0 = .ok (.iconst 0, 1) := by decide +kernel
theorem dX0_halveGreat_1 : decode cX0_halveGreat 1 = .ok (.istore_n 1, 1) := by decide +kernel
theorem dX0_halveGreat_2 : decode cX0_halveGreat 2 = .ok (.iload_n 1, 1) := by decide +kernel
theorem dX0_halveGreat_3 : decode cX0_halveGreat 3 = .ok (.bipush 64, 2) := by decide +kernel
theorem dX0_halveGreat_5 : decode cX0_halveGreat 5 = .ok (.if_icmp .ge 30, 3) := by decide +kernel
theorem dX0_halveGreat_8 : decode cX0_halveGreat 8 = .ok (.aload_n 0, 1) := by decide +kernel
theorem dX0_halveGreat_9 : decode cX0_halveGreat 9 = .ok (.getfield 18, 3) := by decide +kernel
theorem dX0_halveGreat_12 : decode cX0_halveGreat 12 = .ok (.invokevirtual 70, 3) := by decide +kernel
theorem dX0_halveGreat_15 : decode cX0_halveGreat 15 = .ok (.ldc2_w 77, 3) := by decide +kernel
theorem dX0_halveGreat_18 : decode cX0_halveGreat 18 = .ok (.lcmp, 1) := by decide +kernel
theorem dX0_halveGreat_19 : decode cX0_halveGreat 19 = .ok (.ifCond .le 16, 3) := by decide +kernel
theorem dX0_halveGreat_22 : decode cX0_halveGreat 22 = .ok (.aload_n 0, 1) := by decide +kernel
theorem dX0_halveGreat_23 : decode cX0_halveGreat 23 = .ok (.getfield 18, 3) := by decide +kernel
theorem dX0_halveGreat_26 : decode cX0_halveGreat 26 = .ok (.invokevirtual 79, 3) := by decide +kernel
theorem dX0_halveGreat_29 : decode cX0_halveGreat 29 = .ok (.iinc 1 1, 3) := by decide +kernel
theorem dX0_halveGreat_32 : decode cX0_halveGreat 32 = .ok (.goto (-30), 3) := by decide +kernel
theorem dX0_halveGreat_35 : decode cX0_halveGreat 35 = .ok (.return_, 1) := by decide +kernel
theorem dX1_init_0 : decode cX1_init 0 = .ok (.aload_n 0, 1) := by decide +kernel
theorem dX1_init_1 : decode cX1_init 1 = .ok (.invokespecial 1, 3) := by decide +kernel
theorem dX1_init_4 : decode cX1_init 4 = .ok (.aload_n 0, 1) := by decide +kernel
theorem dX1_init_5 : decode cX1_init 5 = .ok (.iconst 1, 1) := by decide +kernel
theorem dX1_init_6 : decode cX1_init 6 = .ok (.putfield 7, 3) := by decide +kernel
theorem dX1_init_9 : decode cX1_init 9 = .ok (.return_, 1) := by decide +kernel
theorem dX1_change_0 : decode cX1_change 0 = .ok (.aload_n 0, 1) := by decide +kernel
theorem dX1_change_1 : decode cX1_change 1 = .ok (.getfield 7, 3) := by decide +kernel
theorem dX1_change_4 : decode cX1_change 4 = .ok (.istore_n 2, 1) := by decide +kernel
theorem dX1_change_5 : decode cX1_change 5 = .ok (.aload_n 0, 1) := by decide +kernel
theorem dX1_change_6 : decode cX1_change 6 = .ok (.iload_n 1, 1) := by decide +kernel
theorem dX1_change_7 : decode cX1_change 7 = .ok (.putfield 7, 3) := by decide +kernel
theorem dX1_change_10 : decode cX1_change 10 = .ok (.iload_n 2, 1) := by decide +kernel
theorem dX1_change_11 : decode cX1_change 11 = .ok (.ireturn, 1) := by decide +kernel
theorem dX1_remainder_0 : decode cX1_remainder 0 = .ok (.aload_n 0, 1) := by decide +kernel
theorem dX1_remainder_1 : decode cX1_remainder 1 = .ok (.bipush 75, 2) := by decide +kernel
theorem dX1_remainder_3 : decode cX1_remainder 3 = .ok (.aload_n 0, 1) := by decide +kernel
theorem dX1_remainder_4 : decode cX1_remainder 4 = .ok (.getfield 7, 3) := by decide +kernel
theorem dX1_remainder_7 : decode cX1_remainder 7 = .ok (.imul, 1) := by decide +kernel
theorem dX1_remainder_8 : decode cX1_remainder 8 = .ok (.bipush 74, 2) := by decide +kernel
theorem dX1_remainder_10 : decode cX1_remainder 10 = .ok (.iadd, 1) := by decide +kernel
theorem dX1_remainder_11 : decode cX1_remainder 11 = .ok (.ldc 13, 2) := by decide +kernel
theorem dX1_remainder_13 : decode cX1_remainder 13 = .ok (.irem, 1) := by decide +kernel
theorem dX1_remainder_14 : decode cX1_remainder 14 = .ok (.putfield 7, 3) := by decide +kernel
theorem dX1_remainder_17 : decode cX1_remainder 17 = .ok (.iload_n 1, 1) := by decide +kernel
theorem dX1_remainder_18 : decode cX1_remainder 18 = .ok (.ifCond .gt 7, 3) := by decide +kernel
theorem dX1_remainder_21 : decode cX1_remainder 21 = .ok (.iconst 0, 1) := by decide +kernel
theorem dX1_remainder_22 : decode cX1_remainder 22 = .ok (.goto 9, 3) := by decide +kernel
theorem dX1_remainder_25 : decode cX1_remainder 25 = .ok (.aload_n 0, 1) := by decide +kernel
theorem dX1_remainder_26 : decode cX1_remainder 26 = .ok (.getfield 7, 3) := by decide +kernel
theorem dX1_remainder_29 : decode cX1_remainder 29 = .ok (.iload_n 1, 1) := by decide +kernel
theorem dX1_remainder_30 : decode cX1_remainder 30 = .ok (.irem, 1) := by decide +kernel
theorem dX1_remainder_31 : decode cX1_remainder 31 = .ok (.ireturn, 1) := by decide +kernel
theorem dX2_init_0 : decode cX2_init 0 = .ok (.aload_n 0, 1) := by decide +kernel
theorem dX2_init_1 : decode cX2_init 1 = .ok (.invokespecial 3, 3) := by decide +kernel
theorem dX2_init_4 : decode cX2_init 4 = .ok (.aload_n 0, 1) := by decide +kernel
theorem dX2_init_5 : decode cX2_init 5 = .ok (.bipush 64, 2) := by decide +kernel
theorem dX2_init_7 : decode cX2_init 7 = .ok (.newarray .long, 2) := by decide +kernel
theorem dX2_init_9 : decode cX2_init 9 = .ok (.putfield 9, 3) := by decide +kernel
theorem dX2_init_12 : decode cX2_init 12 = .ok (.return_, 1) := by decide +kernel
set_option maxRecDepth 20000 in
theorem ggX2_at_X5_isCell : GoodIn wsX2_at wsX5_isCell := goodIn_r _ [4] (by decide +kernel) (by decide +kernel)
set_option maxRecDepth 20000 in
theorem gX2_at_X5_isCell_n15 : GoodIn wsX2_at (wsX5_isCell) := ggX2_at_X5_isCell
theorem dX2_at_0 : decode cX2_at 0 = .ok (.iload_n 1, 1) := by decide +kernel
theorem dX2_at_1 : decode cX2_at 1 = .ok (.invokestatic 15, 3) := by decide +kernel
theorem dX2_at_4 : decode cX2_at 4 = .ok (.ifCond .eq 12, 3) := by decide +kernel
theorem dX2_at_7 : decode cX2_at 7 = .ok (.aload_n 0, 1) := by decide +kernel
theorem dX2_at_8 : decode cX2_at 8 = .ok (.getfield 9, 3) := by decide +kernel
theorem dX2_at_11 : decode cX2_at 11 = .ok (.iload_n 1, 1) := by decide +kernel
theorem dX2_at_12 : decode cX2_at 12 = .ok (.laload, 1) := by decide +kernel
theorem dX2_at_13 : decode cX2_at 13 = .ok (.goto 4, 3) := by decide +kernel
theorem dX2_at_16 : decode cX2_at 16 = .ok (.lconst 0, 1) := by decide +kernel
theorem dX2_at_17 : decode cX2_at 17 = .ok (.lreturn, 1) := by decide +kernel
set_option maxRecDepth 20000 in
theorem ggX2_put_X5_isCell : GoodIn wsX2_put wsX5_isCell := goodIn_r _ [4] (by decide +kernel) (by decide +kernel)
set_option maxRecDepth 20000 in
theorem gX2_put_X5_isCell_n15 : GoodIn wsX2_put (wsX5_isCell) := ggX2_put_X5_isCell
theorem dX2_put_0 : decode cX2_put 0 = .ok (.iload_n 1, 1) := by decide +kernel
theorem dX2_put_1 : decode cX2_put 1 = .ok (.invokestatic 15, 3) := by decide +kernel
theorem dX2_put_4 : decode cX2_put 4 = .ok (.ifCond .eq 10, 3) := by decide +kernel
theorem dX2_put_7 : decode cX2_put 7 = .ok (.aload_n 0, 1) := by decide +kernel
theorem dX2_put_8 : decode cX2_put 8 = .ok (.getfield 9, 3) := by decide +kernel
theorem dX2_put_11 : decode cX2_put 11 = .ok (.iload_n 1, 1) := by decide +kernel
theorem dX2_put_12 : decode cX2_put 12 = .ok (.lload_n 2, 1) := by decide +kernel
theorem dX2_put_13 : decode cX2_put 13 = .ok (.lastore, 1) := by decide +kernel
theorem dX2_put_14 : decode cX2_put 14 = .ok (.return_, 1) := by decide +kernel
set_option maxRecDepth 20000 in
theorem ggX2_add_X5_isCell : GoodIn wsX2_add wsX5_isCell := goodIn_r _ [4] (by decide +kernel) (by decide +kernel)
set_option maxRecDepth 20000 in
theorem gX2_add_X5_isCell_n15 : GoodIn wsX2_add (wsX5_isCell) := ggX2_add_X5_isCell
theorem dX2_add_0 : decode cX2_add 0 = .ok (.iload_n 1, 1) := by decide +kernel
theorem dX2_add_1 : decode cX2_add 1 = .ok (.invokestatic 15, 3) := by decide +kernel
theorem dX2_add_4 : decode cX2_add 4 = .ok (.ifCond .eq 13, 3) := by decide +kernel
theorem dX2_add_7 : decode cX2_add 7 = .ok (.aload_n 0, 1) := by decide +kernel
theorem dX2_add_8 : decode cX2_add 8 = .ok (.getfield 9, 3) := by decide +kernel
theorem dX2_add_11 : decode cX2_add 11 = .ok (.iload_n 1, 1) := by decide +kernel
theorem dX2_add_12 : decode cX2_add 12 = .ok (.dup2, 1) := by decide +kernel
theorem dX2_add_13 : decode cX2_add 13 = .ok (.laload, 1) := by decide +kernel
theorem dX2_add_14 : decode cX2_add 14 = .ok (.lload_n 2, 1) := by decide +kernel
theorem dX2_add_15 : decode cX2_add 15 = .ok (.ladd, 1) := by decide +kernel
theorem dX2_add_16 : decode cX2_add 16 = .ok (.lastore, 1) := by decide +kernel
theorem dX2_add_17 : decode cX2_add 17 = .ok (.return_, 1) := by decide +kernel
theorem dX2_clear_0 : decode cX2_clear 0 = .ok (.iconst 0, 1) := by decide +kernel
theorem dX2_clear_1 : decode cX2_clear 1 = .ok (.istore_n 1, 1) := by decide +kernel
theorem dX2_clear_2 : decode cX2_clear 2 = .ok (.iload_n 1, 1) := by decide +kernel
theorem dX2_clear_3 : decode cX2_clear 3 = .ok (.bipush 64, 2) := by decide +kernel
theorem dX2_clear_5 : decode cX2_clear 5 = .ok (.if_icmp .ge 16, 3) := by decide +kernel
theorem dX2_clear_8 : decode cX2_clear 8 = .ok (.aload_n 0, 1) := by decide +kernel
theorem dX2_clear_9 : decode cX2_clear 9 = .ok (.getfield 9, 3) := by decide +kernel
theorem dX2_clear_12 : decode cX2_clear 12 = .ok (.iload_n 1, 1) := by decide +kernel
theorem dX2_clear_13 : decode cX2_clear 13 = .ok (.lconst 0, 1) := by decide +kernel
theorem dX2_clear_14 : decode cX2_clear 14 = .ok (.lastore, 1) := by decide +kernel
theorem dX2_clear_15 : decode cX2_clear 15 = .ok (.iinc 1 1, 3) := by decide +kernel
theorem dX2_clear_18 : decode cX2_clear 18 = .ok (.goto (-16), 3) := by decide +kernel
theorem dX2_clear_21 : decode cX2_clear 21 = .ok (.return_, 1) := by decide +kernel
theorem dX2_halve_0 : decode cX2_halve 0 = .ok (.iconst 0, 1) := by decide +kernel
theorem dX2_halve_1 : decode cX2_halve 1 = .ok (.istore_n 1, 1) := by decide +kernel
theorem dX2_halve_2 : decode cX2_halve 2 = .ok (.iload_n 1, 1) := by decide +kernel
theorem dX2_halve_3 : decode cX2_halve 3 = .ok (.bipush 64, 2) := by decide +kernel
theorem dX2_halve_5 : decode cX2_halve 5 = .ok (.if_icmp .ge 21, 3) := by decide +kernel
theorem dX2_halve_8 : decode cX2_halve 8 = .ok (.aload_n 0, 1) := by decide +kernel
theorem dX2_halve_9 : decode cX2_halve 9 = .ok (.getfield 9, 3) := by decide +kernel
theorem dX2_halve_12 : decode cX2_halve 12 = .ok (.iload_n 1, 1) := by decide +kernel
theorem dX2_halve_13 : decode cX2_halve 13 = .ok (.dup2, 1) := by decide +kernel
theorem dX2_halve_14 : decode cX2_halve 14 = .ok (.laload, 1) := by decide +kernel
theorem dX2_halve_15 : decode cX2_halve 15 = .ok (.ldc2_w 19, 3) := by decide +kernel
theorem dX2_halve_18 : decode cX2_halve 18 = .ok (.ldiv, 1) := by decide +kernel
theorem dX2_halve_19 : decode cX2_halve 19 = .ok (.lastore, 1) := by decide +kernel
theorem dX2_halve_20 : decode cX2_halve 20 = .ok (.iinc 1 1, 3) := by decide +kernel
theorem dX2_halve_23 : decode cX2_halve 23 = .ok (.goto (-21), 3) := by decide +kernel
theorem dX2_halve_26 : decode cX2_halve 26 = .ok (.return_, 1) := by decide +kernel
theorem dX2_copy_0 : decode cX2_copy 0 = .ok (.aload_n 1, 1) := by decide +kernel
theorem dX2_copy_1 : decode cX2_copy 1 = .ok (.getfield 9, 3) := by decide +kernel
theorem dX2_copy_4 : decode cX2_copy 4 = .ok (.iconst 0, 1) := by decide +kernel
theorem dX2_copy_5 : decode cX2_copy 5 = .ok (.aload_n 0, 1) := by decide +kernel
theorem dX2_copy_6 : decode cX2_copy 6 = .ok (.getfield 9, 3) := by decide +kernel
theorem dX2_copy_9 : decode cX2_copy 9 = .ok (.iconst 0, 1) := by decide +kernel
theorem dX2_copy_10 : decode cX2_copy 10 = .ok (.bipush 64, 2) := by decide +kernel
theorem dX2_copy_12 : decode cX2_copy 12 = .ok (.invokestatic 21, 3) := by decide +kernel
theorem dX2_copy_15 : decode cX2_copy 15 = .ok (.return_, 1) := by decide +kernel
theorem dX2_greatest_0 : decode cX2_greatest 0 = .ok (.lconst 0, 1) := by decide +kernel
theorem dX2_greatest_1 : decode cX2_greatest 1 = .ok (.lstore_n 1, 1) := by decide +kernel
theorem dX2_greatest_2 : decode cX2_greatest 2 = .ok (.iconst 0, 1) := by decide +kernel
theorem dX2_greatest_3 : decode cX2_greatest 3 = .ok (.istore_n 3, 1) := by decide +kernel
theorem dX2_greatest_4 : decode cX2_greatest 4 = .ok (.iload_n 3, 1) := by decide +kernel
theorem dX2_greatest_5 : decode cX2_greatest 5 = .ok (.bipush 64, 2) := by decide +kernel
theorem dX2_greatest_7 : decode cX2_greatest 7 = .ok (.if_icmp .ge 20, 3) := by decide +kernel
theorem dX2_greatest_10 : decode cX2_greatest 10 = .ok (.lload_n 1, 1) := by decide +kernel
theorem dX2_greatest_11 : decode cX2_greatest 11 = .ok (.aload_n 0, 1) := by decide +kernel
theorem dX2_greatest_12 : decode cX2_greatest 12 = .ok (.getfield 9, 3) := by decide +kernel
theorem dX2_greatest_15 : decode cX2_greatest 15 = .ok (.iload_n 3, 1) := by decide +kernel
theorem dX2_greatest_16 : decode cX2_greatest 16 = .ok (.laload, 1) := by decide +kernel
theorem dX2_greatest_17 : decode cX2_greatest 17 = .ok (.invokestatic 27, 3) := by decide +kernel
theorem dX2_greatest_20 : decode cX2_greatest 20 = .ok (.lstore_n 1, 1) := by decide +kernel
theorem dX2_greatest_21 : decode cX2_greatest 21 = .ok (.iinc 3 1, 3) := by decide +kernel
theorem dX2_greatest_24 : decode cX2_greatest 24 = .ok (.goto (-20), 3) := by decide +kernel
theorem dX2_greatest_27 : decode cX2_greatest 27 = .ok (.lload_n 1, 1) := by decide +kernel
theorem dX2_greatest_28 : decode cX2_greatest 28 = .ok (.lreturn, 1) := by decide +kernel
set_option maxRecDepth 20000 in
theorem ggX2_greatestCell_X2_greatest : GoodIn wsX2_greatestCell wsX2_greatest := goodIn_r _ [6, 1, 7, 8, 9, 10, 11] (by decide +kernel) (by decide +kernel)
set_option maxRecDepth 20000 in
theorem gX2_greatestCell_X2_greatest : GoodIn wsX2_greatestCell (wsV RX2 33 RX2 yX2_greatest wsX2_greatest) := goodIn_app (goodIn_of _ (by decide +kernel)) ggX2_greatestCell_X2_greatest
theorem dX2_greatestCell_0 : decode cX2_greatestCell 0 = .ok (.aload_n 0, 1) := by decide +kernel
theorem dX2_greatestCell_1 : decode cX2_greatestCell 1 = .ok (.invokevirtual 33, 3) := by decide +kernel
theorem dX2_greatestCell_4 : decode cX2_greatestCell 4 = .ok (.lstore_n 1, 1) := by decide +kernel
theorem dX2_greatestCell_5 : decode cX2_greatestCell 5 = .ok (.iconst 0, 1) := by decide +kernel
theorem dX2_greatestCell_6 : decode cX2_greatestCell 6 = .ok (.istore_n 3, 1) := by decide +kernel
theorem dX2_greatestCell_7 : decode cX2_greatestCell 7 = .ok (.iload_n 3, 1) := by decide +kernel
theorem dX2_greatestCell_8 : decode cX2_greatestCell 8 = .ok (.bipush 64, 2) := by decide +kernel
theorem dX2_greatestCell_10 : decode cX2_greatestCell 10 = .ok (.if_icmp .ge 22, 3) := by decide +kernel
theorem dX2_greatestCell_13 : decode cX2_greatestCell 13 = .ok (.aload_n 0, 1) := by decide +kernel
theorem dX2_greatestCell_14 : decode cX2_greatestCell 14 = .ok (.getfield 9, 3) := by decide +kernel
theorem dX2_greatestCell_17 : decode cX2_greatestCell 17 = .ok (.iload_n 3, 1) := by decide +kernel
theorem dX2_greatestCell_18 : decode cX2_greatestCell 18 = .ok (.laload, 1) := by decide +kernel
theorem dX2_greatestCell_19 : decode cX2_greatestCell 19 = .ok (.lload_n 1, 1) := by decide +kernel
theorem dX2_greatestCell_20 : decode cX2_greatestCell 20 = .ok (.lcmp, 1) := by decide +kernel
theorem dX2_greatestCell_21 : decode cX2_greatestCell 21 = .ok (.ifCond .ne 5, 3) := by decide +kernel
theorem dX2_greatestCell_24 : decode cX2_greatestCell 24 = .ok (.iload_n 3, 1) := by decide +kernel
theorem dX2_greatestCell_25 : decode cX2_greatestCell 25 = .ok (.ireturn, 1) := by decide +kernel
theorem dX2_greatestCell_26 : decode cX2_greatestCell 26 = .ok (.iinc 3 1, 3) := by decide +kernel
theorem dX2_greatestCell_29 : decode cX2_greatestCell 29 = .ok (.goto (-22), 3) := by decide +kernel
theorem dX2_greatestCell_32 : decode cX2_greatestCell 32 = .ok (.iconst (-1), 1) := by decide +kernel
theorem dX2_greatestCell_33 : decode cX2_greatestCell 33 = .ok (.ireturn, 1) := by decide +kernel
set_option maxRecDepth 20000 in
theorem ggX2_sum_X2_sumOf : GoodIn wsX2_sum wsX2_sumOf := goodIn_r _ [5, 6, 7] (by decide +kernel) (by decide +kernel)
set_option maxRecDepth 20000 in
theorem gX2_sum_X2_sumOf : GoodIn wsX2_sum (wsV RX2 37 RX2 yX2_sumOf wsX2_sumOf) := goodIn_app (goodIn_of _ (by decide +kernel)) ggX2_sum_X2_sumOf
theorem dX2_sum_0 : decode cX2_sum 0 = .ok (.aload_n 0, 1) := by decide +kernel
theorem dX2_sum_1 : decode cX2_sum 1 = .ok (.iconst 0, 1) := by decide +kernel
theorem dX2_sum_2 : decode cX2_sum 2 = .ok (.iconst 0, 1) := by decide +kernel
theorem dX2_sum_3 : decode cX2_sum 3 = .ok (.bipush 7, 2) := by decide +kernel
theorem dX2_sum_5 : decode cX2_sum 5 = .ok (.bipush 7, 2) := by decide +kernel
theorem dX2_sum_7 : decode cX2_sum 7 = .ok (.invokevirtual 37, 3) := by decide +kernel
theorem dX2_sum_10 : decode cX2_sum 10 = .ok (.lreturn, 1) := by decide +kernel
theorem dX2_sumOf_0 : decode cX2_sumOf 0 = .ok (.lconst 0, 1) := by decide +kernel
theorem dX2_sumOf_1 : decode cX2_sumOf 1 = .ok (.lstore 5, 2) := by decide +kernel
theorem dX2_sumOf_3 : decode cX2_sumOf 3 = .ok (.iconst 0, 1) := by decide +kernel
theorem dX2_sumOf_4 : decode cX2_sumOf 4 = .ok (.istore 7, 2) := by decide +kernel
theorem dX2_sumOf_6 : decode cX2_sumOf 6 = .ok (.iload 7, 2) := by decide +kernel
theorem dX2_sumOf_8 : decode cX2_sumOf 8 = .ok (.bipush 64, 2) := by decide +kernel
theorem dX2_sumOf_10 : decode cX2_sumOf 10 = .ok (.if_icmp .ge 60, 3) := by decide +kernel
theorem dX2_sumOf_13 : decode cX2_sumOf 13 = .ok (.iload 7, 2) := by decide +kernel
theorem dX2_sumOf_15 : decode cX2_sumOf 15 = .ok (.bipush 8, 2) := by decide +kernel
theorem dX2_sumOf_17 : decode cX2_sumOf 17 = .ok (.irem, 1) := by decide +kernel
theorem dX2_sumOf_18 : decode cX2_sumOf 18 = .ok (.istore 8, 2) := by decide +kernel
theorem dX2_sumOf_20 : decode cX2_sumOf 20 = .ok (.iload 7, 2) := by decide +kernel
theorem dX2_sumOf_22 : decode cX2_sumOf 22 = .ok (.bipush 8, 2) := by decide +kernel
theorem dX2_sumOf_24 : decode cX2_sumOf 24 = .ok (.idiv, 1) := by decide +kernel
theorem dX2_sumOf_25 : decode cX2_sumOf 25 = .ok (.istore 9, 2) := by decide +kernel
theorem dX2_sumOf_27 : decode cX2_sumOf 27 = .ok (.iload 8, 2) := by decide +kernel
theorem dX2_sumOf_29 : decode cX2_sumOf 29 = .ok (.iload_n 1, 1) := by decide +kernel
theorem dX2_sumOf_30 : decode cX2_sumOf 30 = .ok (.if_icmp .lt 34, 3) := by decide +kernel
theorem dX2_sumOf_33 : decode cX2_sumOf 33 = .ok (.iload 8, 2) := by decide +kernel
theorem dX2_sumOf_35 : decode cX2_sumOf 35 = .ok (.iload_n 3, 1) := by decide +kernel
theorem dX2_sumOf_36 : decode cX2_sumOf 36 = .ok (.if_icmp .gt 28, 3) := by decide +kernel
theorem dX2_sumOf_39 : decode cX2_sumOf 39 = .ok (.iload 9, 2) := by decide +kernel
theorem dX2_sumOf_41 : decode cX2_sumOf 41 = .ok (.iload_n 2, 1) := by decide +kernel
theorem dX2_sumOf_42 : decode cX2_sumOf 42 = .ok (.if_icmp .lt 22, 3) := by decide +kernel
theorem dX2_sumOf_45 : decode cX2_sumOf 45 = .ok (.iload 9, 2) := by decide +kernel
theorem dX2_sumOf_47 : decode cX2_sumOf 47 = .ok (.iload 4, 2) := by decide +kernel
theorem dX2_sumOf_49 : decode cX2_sumOf 49 = .ok (.if_icmp .gt 15, 3) := by decide +kernel
theorem dX2_sumOf_52 : decode cX2_sumOf 52 = .ok (.lload 5, 2) := by decide +kernel
theorem dX2_sumOf_54 : decode cX2_sumOf 54 = .ok (.aload_n 0, 1) := by decide +kernel
theorem dX2_sumOf_55 : decode cX2_sumOf 55 = .ok (.getfield 9, 3) := by decide +kernel
theorem dX2_sumOf_58 : decode cX2_sumOf 58 = .ok (.iload 7, 2) := by decide +kernel
theorem dX2_sumOf_60 : decode cX2_sumOf 60 = .ok (.laload, 1) := by decide +kernel
theorem dX2_sumOf_61 : decode cX2_sumOf 61 = .ok (.ladd, 1) := by decide +kernel
theorem dX2_sumOf_62 : decode cX2_sumOf 62 = .ok (.lstore 5, 2) := by decide +kernel
theorem dX2_sumOf_64 : decode cX2_sumOf 64 = .ok (.iinc 7 1, 3) := by decide +kernel
theorem dX2_sumOf_67 : decode cX2_sumOf 67 = .ok (.goto (-61), 3) := by decide +kernel
theorem dX2_sumOf_70 : decode cX2_sumOf 70 = .ok (.lload 5, 2) := by decide +kernel
theorem dX2_sumOf_72 : decode cX2_sumOf 72 = .ok (.lreturn, 1) := by decide +kernel
theorem dX2_coordinateSum_0 : decode cX2_coordinateSum 0 = .ok (.lconst 0, 1) := by decide +kernel
theorem dX2_coordinateSum_1 : decode cX2_coordinateSum 1 = .ok (.lstore_n 2, 1) := by decide +kernel
theorem dX2_coordinateSum_2 : decode cX2_coordinateSum 2 = .ok (.iconst 0, 1) := by decide +kernel
theorem dX2_coordinateSum_3 : decode cX2_coordinateSum 3 = .ok (.istore 4, 2) := by decide +kernel
theorem dX2_coordinateSum_5 : decode cX2_coordinateSum 5 = .ok (.iload 4, 2) := by decide +kernel
theorem dX2_coordinateSum_7 : decode cX2_coordinateSum 7 = .ok (.bipush 64, 2) := by decide +kernel
theorem dX2_coordinateSum_9 : decode cX2_coordinateSum 9 = .ok (.if_icmp .ge 38, 3) := by decide +kernel
theorem dX2_coordinateSum_12 : decode cX2_coordinateSum 12 = .ok (.lload_n 2, 1) := by decide +kernel
theorem dX2_coordinateSum_13 : decode cX2_coordinateSum 13 = .ok (.aload_n 0, 1) := by decide +kernel
theorem dX2_coordinateSum_14 : decode cX2_coordinateSum 14 = .ok (.getfield 9, 3) := by decide +kernel
theorem dX2_coordinateSum_17 : decode cX2_coordinateSum 17 = .ok (.iload 4, 2) := by decide +kernel
theorem dX2_coordinateSum_19 : decode cX2_coordinateSum 19 = .ok (.laload, 1) := by decide +kernel
theorem dX2_coordinateSum_20 : decode cX2_coordinateSum 20 = .ok (.iload_n 1, 1) := by decide +kernel
theorem dX2_coordinateSum_21 : decode cX2_coordinateSum 21 = .ok (.ifCond .eq 11, 3) := by decide +kernel
theorem dX2_coordinateSum_24 : decode cX2_coordinateSum 24 = .ok (.iload 4, 2) := by decide +kernel
theorem dX2_coordinateSum_26 : decode cX2_coordinateSum 26 = .ok (.bipush 8, 2) := by decide +kernel
theorem dX2_coordinateSum_28 : decode cX2_coordinateSum 28 = .ok (.idiv, 1) := by decide +kernel
theorem dX2_coordinateSum_29 : decode cX2_coordinateSum 29 = .ok (.goto 8, 3) := by decide +kernel
theorem dX2_coordinateSum_32 : decode cX2_coordinateSum 32 = .ok (.iload 4, 2) := by decide +kernel
theorem dX2_coordinateSum_34 : decode cX2_coordinateSum 34 = .ok (.bipush 8, 2) := by decide +kernel
theorem dX2_coordinateSum_36 : decode cX2_coordinateSum 36 = .ok (.irem, 1) := by decide +kernel
theorem dX2_coordinateSum_37 : decode cX2_coordinateSum 37 = .ok (.i2l, 1) := by decide +kernel
theorem dX2_coordinateSum_38 : decode cX2_coordinateSum 38 = .ok (.lmul, 1) := by decide +kernel
theorem dX2_coordinateSum_39 : decode cX2_coordinateSum 39 = .ok (.ladd, 1) := by decide +kernel
theorem dX2_coordinateSum_40 : decode cX2_coordinateSum 40 = .ok (.lstore_n 2, 1) := by decide +kernel
theorem dX2_coordinateSum_41 : decode cX2_coordinateSum 41 = .ok (.iinc 4 1, 3) := by decide +kernel
theorem dX2_coordinateSum_44 : decode cX2_coordinateSum 44 = .ok (.goto (-39), 3) := by decide +kernel
theorem dX2_coordinateSum_47 : decode cX2_coordinateSum 47 = .ok (.lload_n 2, 1) := by decide +kernel
theorem dX2_coordinateSum_48 : decode cX2_coordinateSum 48 = .ok (.lreturn, 1) := by decide +kernel
set_option maxRecDepth 20000 in
theorem ggX2_cellAtPlace_X2_placeOf : GoodIn wsX2_cellAtPlace wsX2_placeOf := goodIn_r _ [6, 1, 7, 8, 9, 5, 10, 11, 12, 13, 14] (by decide +kernel) (by decide +kernel)
set_option maxRecDepth 20000 in
theorem gX2_cellAtPlace_X2_placeOf : GoodIn wsX2_cellAtPlace (wsV RX2 41 RX2 yX2_placeOf wsX2_placeOf) := goodIn_app (goodIn_of _ (by decide +kernel)) ggX2_cellAtPlace_X2_placeOf
theorem dX2_cellAtPlace_0 : decode cX2_cellAtPlace 0 = .ok (.iconst 0, 1) := by decide +kernel
theorem dX2_cellAtPlace_1 : decode cX2_cellAtPlace 1 = .ok (.istore_n 2, 1) := by decide +kernel
theorem dX2_cellAtPlace_2 : decode cX2_cellAtPlace 2 = .ok (.iload_n 2, 1) := by decide +kernel
theorem dX2_cellAtPlace_3 : decode cX2_cellAtPlace 3 = .ok (.bipush 64, 2) := by decide +kernel
theorem dX2_cellAtPlace_5 : decode cX2_cellAtPlace 5 = .ok (.if_icmp .ge 31, 3) := by decide +kernel
theorem dX2_cellAtPlace_8 : decode cX2_cellAtPlace 8 = .ok (.aload_n 0, 1) := by decide +kernel
theorem dX2_cellAtPlace_9 : decode cX2_cellAtPlace 9 = .ok (.getfield 9, 3) := by decide +kernel
theorem dX2_cellAtPlace_12 : decode cX2_cellAtPlace 12 = .ok (.iload_n 2, 1) := by decide +kernel
theorem dX2_cellAtPlace_13 : decode cX2_cellAtPlace 13 = .ok (.laload, 1) := by decide +kernel
theorem dX2_cellAtPlace_14 : decode cX2_cellAtPlace 14 = .ok (.lconst 0, 1) := by decide +kernel
theorem dX2_cellAtPlace_15 : decode cX2_cellAtPlace 15 = .ok (.lcmp, 1) := by decide +kernel
theorem dX2_cellAtPlace_16 : decode cX2_cellAtPlace 16 = .ok (.ifCond .le 14, 3) := by decide +kernel
theorem dX2_cellAtPlace_19 : decode cX2_cellAtPlace 19 = .ok (.aload_n 0, 1) := by decide +kernel
theorem dX2_cellAtPlace_20 : decode cX2_cellAtPlace 20 = .ok (.iload_n 2, 1) := by decide +kernel
theorem dX2_cellAtPlace_21 : decode cX2_cellAtPlace 21 = .ok (.invokevirtual 41, 3) := by decide +kernel
theorem dX2_cellAtPlace_24 : decode cX2_cellAtPlace 24 = .ok (.iload_n 1, 1) := by decide +kernel
theorem dX2_cellAtPlace_25 : decode cX2_cellAtPlace 25 = .ok (.if_icmp .ne 5, 3) := by decide +kernel
theorem dX2_cellAtPlace_28 : decode cX2_cellAtPlace 28 = .ok (.iload_n 2, 1) := by decide +kernel
theorem dX2_cellAtPlace_29 : decode cX2_cellAtPlace 29 = .ok (.ireturn, 1) := by decide +kernel
theorem dX2_cellAtPlace_30 : decode cX2_cellAtPlace 30 = .ok (.iinc 2 1, 3) := by decide +kernel
theorem dX2_cellAtPlace_33 : decode cX2_cellAtPlace 33 = .ok (.goto (-31), 3) := by decide +kernel
theorem dX2_cellAtPlace_36 : decode cX2_cellAtPlace 36 = .ok (.iconst (-1), 1) := by decide +kernel
theorem dX2_cellAtPlace_37 : decode cX2_cellAtPlace 37 = .ok (.ireturn, 1) := by decide +kernel
set_option maxRecDepth 20000 in
theorem ggX2_placeOf_X2_at : GoodIn wsX2_placeOf wsX2_at := goodIn_r _ [6, 1, 7, 8, 9, 10] (by decide +kernel) (by decide +kernel)
set_option maxRecDepth 20000 in
theorem gX2_placeOf_X2_at : GoodIn wsX2_placeOf (wsV RX2 45 RX2 yX2_at wsX2_at) := goodIn_app (goodIn_of _ (by decide +kernel)) ggX2_placeOf_X2_at
theorem dX2_placeOf_0 : decode cX2_placeOf 0 = .ok (.iconst 0, 1) := by decide +kernel
theorem dX2_placeOf_1 : decode cX2_placeOf 1 = .ok (.istore_n 2, 1) := by decide +kernel
theorem dX2_placeOf_2 : decode cX2_placeOf 2 = .ok (.iconst 0, 1) := by decide +kernel
theorem dX2_placeOf_3 : decode cX2_placeOf 3 = .ok (.istore_n 3, 1) := by decide +kernel
theorem dX2_placeOf_4 : decode cX2_placeOf 4 = .ok (.iload_n 3, 1) := by decide +kernel
theorem dX2_placeOf_5 : decode cX2_placeOf 5 = .ok (.bipush 64, 2) := by decide +kernel
theorem dX2_placeOf_7 : decode cX2_placeOf 7 = .ok (.if_icmp .ge 59, 3) := by decide +kernel
theorem dX2_placeOf_10 : decode cX2_placeOf 10 = .ok (.aload_n 0, 1) := by decide +kernel
theorem dX2_placeOf_11 : decode cX2_placeOf 11 = .ok (.getfield 9, 3) := by decide +kernel
theorem dX2_placeOf_14 : decode cX2_placeOf 14 = .ok (.iload_n 3, 1) := by decide +kernel
theorem dX2_placeOf_15 : decode cX2_placeOf 15 = .ok (.laload, 1) := by decide +kernel
theorem dX2_placeOf_16 : decode cX2_placeOf 16 = .ok (.aload_n 0, 1) := by decide +kernel
theorem dX2_placeOf_17 : decode cX2_placeOf 17 = .ok (.iload_n 1, 1) := by decide +kernel
theorem dX2_placeOf_18 : decode cX2_placeOf 18 = .ok (.invokevirtual 45, 3) := by decide +kernel
theorem dX2_placeOf_21 : decode cX2_placeOf 21 = .ok (.lcmp, 1) := by decide +kernel
theorem dX2_placeOf_22 : decode cX2_placeOf 22 = .ok (.ifCond .ne 12, 3) := by decide +kernel
theorem dX2_placeOf_25 : decode cX2_placeOf 25 = .ok (.iload_n 3, 1) := by decide +kernel
theorem dX2_placeOf_26 : decode cX2_placeOf 26 = .ok (.iload_n 1, 1) := by decide +kernel
theorem dX2_placeOf_27 : decode cX2_placeOf 27 = .ok (.if_icmp .ge 7, 3) := by decide +kernel
theorem dX2_placeOf_30 : decode cX2_placeOf 30 = .ok (.iconst 1, 1) := by decide +kernel
theorem dX2_placeOf_31 : decode cX2_placeOf 31 = .ok (.goto 4, 3) := by decide +kernel
theorem dX2_placeOf_34 : decode cX2_placeOf 34 = .ok (.iconst 0, 1) := by decide +kernel
theorem dX2_placeOf_35 : decode cX2_placeOf 35 = .ok (.istore 4, 2) := by decide +kernel
theorem dX2_placeOf_37 : decode cX2_placeOf 37 = .ok (.aload_n 0, 1) := by decide +kernel
theorem dX2_placeOf_38 : decode cX2_placeOf 38 = .ok (.getfield 9, 3) := by decide +kernel
theorem dX2_placeOf_41 : decode cX2_placeOf 41 = .ok (.iload_n 3, 1) := by decide +kernel
theorem dX2_placeOf_42 : decode cX2_placeOf 42 = .ok (.laload, 1) := by decide +kernel
theorem dX2_placeOf_43 : decode cX2_placeOf 43 = .ok (.aload_n 0, 1) := by decide +kernel
theorem dX2_placeOf_44 : decode cX2_placeOf 44 = .ok (.iload_n 1, 1) := by decide +kernel
theorem dX2_placeOf_45 : decode cX2_placeOf 45 = .ok (.invokevirtual 45, 3) := by decide +kernel
theorem dX2_placeOf_48 : decode cX2_placeOf 48 = .ok (.lcmp, 1) := by decide +kernel
theorem dX2_placeOf_49 : decode cX2_placeOf 49 = .ok (.ifCond .gt 8, 3) := by decide +kernel
theorem dX2_placeOf_52 : decode cX2_placeOf 52 = .ok (.iload 4, 2) := by decide +kernel
theorem dX2_placeOf_54 : decode cX2_placeOf 54 = .ok (.ifCond .eq 6, 3) := by decide +kernel
theorem dX2_placeOf_57 : decode cX2_placeOf 57 = .ok (.iinc 2 1, 3) := by decide +kernel
theorem dX2_placeOf_60 : decode cX2_placeOf 60 = .ok (.iinc 3 1, 3) := by decide +kernel
theorem dX2_placeOf_63 : decode cX2_placeOf 63 = .ok (.goto (-59), 3) := by decide +kernel
theorem dX2_placeOf_66 : decode cX2_placeOf 66 = .ok (.iload_n 2, 1) := by decide +kernel
theorem dX2_placeOf_67 : decode cX2_placeOf 67 = .ok (.ireturn, 1) := by decide +kernel
set_option maxRecDepth 20000 in
theorem ggX3_init_X3_measure : GoodIn wsX3_init wsX3_measure := goodIn_r _ [12, 13, 5, 7, 14, 15, 16, 11, 17, 18, 19, 20, 21, 22, 23, 24, 25, 26, 27, 28, 29, 30, 31, 32, 33, 34, 35, 36, 37, 38] (by decide +kernel) (by decide +kernel)
set_option maxRecDepth 20000 in
theorem gX3_init_X3_measure : GoodIn wsX3_init (wsV RX3 19 RX3 yX3_measure wsX3_measure) := goodIn_app (goodIn_of _ (by decide +kernel)) ggX3_init_X3_measure
theorem dX3_init_0 : decode cX3_init 0 = .ok (.aload_n 0, 1) := by decide +kernel
theorem dX3_init_1 : decode cX3_init 1 = .ok (.invokespecial 3, 3) := by decide +kernel
theorem dX3_init_4 : decode cX3_init 4 = .ok (.aload_n 0, 1) := by decide +kernel
theorem dX3_init_5 : decode cX3_init 5 = .ok (.bipush 64, 2) := by decide +kernel
theorem dX3_init_7 : decode cX3_init 7 = .ok (.newarray .boolean, 2) := by decide +kernel
theorem dX3_init_9 : decode cX3_init 9 = .ok (.putfield 9, 3) := by decide +kernel
theorem dX3_init_12 : decode cX3_init 12 = .ok (.aload_n 0, 1) := by decide +kernel
theorem dX3_init_13 : decode cX3_init 13 = .ok (.sipush 256, 3) := by decide +kernel
theorem dX3_init_16 : decode cX3_init 16 = .ok (.newarray .int, 2) := by decide +kernel
theorem dX3_init_18 : decode cX3_init 18 = .ok (.putfield 15, 3) := by decide +kernel
theorem dX3_init_21 : decode cX3_init 21 = .ok (.aload_n 0, 1) := by decide +kernel
theorem dX3_init_22 : decode cX3_init 22 = .ok (.invokevirtual 19, 3) := by decide +kernel
theorem dX3_init_25 : decode cX3_init 25 = .ok (.return_, 1) := by decide +kernel
set_option maxRecDepth 20000 in
theorem ggX3_isFree_X5_isCell : GoodIn wsX3_isFree wsX5_isCell := goodIn_r _ [4] (by decide +kernel) (by decide +kernel)
set_option maxRecDepth 20000 in
theorem gX3_isFree_X5_isCell_n22 : GoodIn wsX3_isFree (wsX5_isCell) := ggX3_isFree_X5_isCell
theorem dX3_isFree_0 : decode cX3_isFree 0 = .ok (.iload_n 1, 1) := by decide +kernel
theorem dX3_isFree_1 : decode cX3_isFree 1 = .ok (.invokestatic 22, 3) := by decide +kernel
theorem dX3_isFree_4 : decode cX3_isFree 4 = .ok (.ifCond .eq 16, 3) := by decide +kernel
theorem dX3_isFree_7 : decode cX3_isFree 7 = .ok (.aload_n 0, 1) := by decide +kernel
theorem dX3_isFree_8 : decode cX3_isFree 8 = .ok (.getfield 9, 3) := by decide +kernel
theorem dX3_isFree_11 : decode cX3_isFree 11 = .ok (.iload_n 1, 1) := by decide +kernel
theorem dX3_isFree_12 : decode cX3_isFree 12 = .ok (.baload, 1) := by decide +kernel
theorem dX3_isFree_13 : decode cX3_isFree 13 = .ok (.ifCond .ne 7, 3) := by decide +kernel
theorem dX3_isFree_16 : decode cX3_isFree 16 = .ok (.iconst 1, 1) := by decide +kernel
theorem dX3_isFree_17 : decode cX3_isFree 17 = .ok (.goto 4, 3) := by decide +kernel
theorem dX3_isFree_20 : decode cX3_isFree 20 = .ok (.iconst 0, 1) := by decide +kernel
theorem dX3_isFree_21 : decode cX3_isFree 21 = .ok (.ireturn, 1) := by decide +kernel
theorem dX3_freeCells_0 : decode cX3_freeCells 0 = .ok (.aload_n 0, 1) := by decide +kernel
theorem dX3_freeCells_1 : decode cX3_freeCells 1 = .ok (.getfield 26, 3) := by decide +kernel
theorem dX3_freeCells_4 : decode cX3_freeCells 4 = .ok (.ireturn, 1) := by decide +kernel
set_option maxRecDepth 20000 in
theorem ggX3_build_X5_isCell : GoodIn wsX3_build wsX5_isCell := goodIn_r _ [4] (by decide +kernel) (by decide +kernel)
set_option maxRecDepth 20000 in
theorem gX3_build_X5_isCell_n22 : GoodIn wsX3_build (wsX5_isCell) := ggX3_build_X5_isCell
set_option maxRecDepth 20000 in
theorem ggX3_build_X3_measure : GoodIn wsX3_build wsX3_measure := goodIn_r _ [9, 10, 1, 11, 12, 13, 14, 8, 15, 16, 17, 18, 19, 20, 2, 3, 4, 21, 22, 23, 24, 25, 26, 27, 28, 29, 30, 31, 32, 33] (by decide +kernel) (by decide +kernel)
set_option maxRecDepth 20000 in
theorem gX3_build_X3_measure : GoodIn wsX3_build (wsV RX3 19 RX3 yX3_measure wsX3_measure) := goodIn_app (goodIn_of _ (by decide +kernel)) ggX3_build_X3_measure
theorem dX3_build_0 : decode cX3_build 0 = .ok (.iload_n 1, 1) := by decide +kernel
theorem dX3_build_1 : decode cX3_build 1 = .ok (.invokestatic 22, 3) := by decide +kernel
theorem dX3_build_4 : decode cX3_build 4 = .ok (.ifCond .eq 14, 3) := by decide +kernel
theorem dX3_build_7 : decode cX3_build 7 = .ok (.aload_n 0, 1) := by decide +kernel
theorem dX3_build_8 : decode cX3_build 8 = .ok (.getfield 9, 3) := by decide +kernel
theorem dX3_build_11 : decode cX3_build 11 = .ok (.iload_n 1, 1) := by decide +kernel
theorem dX3_build_12 : decode cX3_build 12 = .ok (.iload_n 2, 1) := by decide +kernel
theorem dX3_build_13 : decode cX3_build 13 = .ok (.bastore, 1) := by decide +kernel
theorem dX3_build_14 : decode cX3_build 14 = .ok (.aload_n 0, 1) := by decide +kernel
theorem dX3_build_15 : decode cX3_build 15 = .ok (.invokevirtual 19, 3) := by decide +kernel
theorem dX3_build_18 : decode cX3_build 18 = .ok (.return_, 1) := by decide +kernel
set_option maxRecDepth 20000 in
theorem ggX3_drawnCell_X1_remainder : GoodIn wsX3_drawnCell wsX1_remainder := goodIn_r _ [7, 8, 9, 13] (by decide +kernel) (by decide +kernel)
set_option maxRecDepth 20000 in
theorem gX3_drawnCell_X1_remainder : GoodIn wsX3_drawnCell (wsV RX3 30 RX1 yX1_remainder wsX1_remainder) := goodIn_app (goodIn_of _ (by decide +kernel)) ggX3_drawnCell_X1_remainder
theorem dX3_drawnCell_0 : decode cX3_drawnCell 0 = .ok (.aload_n 1, 1) := by decide +kernel
theorem dX3_drawnCell_1 : decode cX3_drawnCell 1 = .ok (.aload_n 0, 1) := by decide +kernel
theorem dX3_drawnCell_2 : decode cX3_drawnCell 2 = .ok (.getfield 26, 3) := by decide +kernel
theorem dX3_drawnCell_5 : decode cX3_drawnCell 5 = .ok (.invokevirtual 30, 3) := by decide +kernel
theorem dX3_drawnCell_8 : decode cX3_drawnCell 8 = .ok (.istore_n 2, 1) := by decide +kernel
theorem dX3_drawnCell_9 : decode cX3_drawnCell 9 = .ok (.iconst 0, 1) := by decide +kernel
theorem dX3_drawnCell_10 : decode cX3_drawnCell 10 = .ok (.istore_n 3, 1) := by decide +kernel
theorem dX3_drawnCell_11 : decode cX3_drawnCell 11 = .ok (.iload_n 3, 1) := by decide +kernel
theorem dX3_drawnCell_12 : decode cX3_drawnCell 12 = .ok (.bipush 64, 2) := by decide +kernel
theorem dX3_drawnCell_14 : decode cX3_drawnCell 14 = .ok (.if_icmp .ge 27, 3) := by decide +kernel
theorem dX3_drawnCell_17 : decode cX3_drawnCell 17 = .ok (.aload_n 0, 1) := by decide +kernel
theorem dX3_drawnCell_18 : decode cX3_drawnCell 18 = .ok (.getfield 9, 3) := by decide +kernel
theorem dX3_drawnCell_21 : decode cX3_drawnCell 21 = .ok (.iload_n 3, 1) := by decide +kernel
theorem dX3_drawnCell_22 : decode cX3_drawnCell 22 = .ok (.baload, 1) := by decide +kernel
theorem dX3_drawnCell_23 : decode cX3_drawnCell 23 = .ok (.ifCond .ne 12, 3) := by decide +kernel
theorem dX3_drawnCell_26 : decode cX3_drawnCell 26 = .ok (.iload_n 2, 1) := by decide +kernel
theorem dX3_drawnCell_27 : decode cX3_drawnCell 27 = .ok (.ifCond .ne 5, 3) := by decide +kernel
theorem dX3_drawnCell_30 : decode cX3_drawnCell 30 = .ok (.iload_n 3, 1) := by decide +kernel
theorem dX3_drawnCell_31 : decode cX3_drawnCell 31 = .ok (.ireturn, 1) := by decide +kernel
theorem dX3_drawnCell_32 : decode cX3_drawnCell 32 = .ok (.iinc 2 (-1), 3) := by decide +kernel
theorem dX3_drawnCell_35 : decode cX3_drawnCell 35 = .ok (.iinc 3 1, 3) := by decide +kernel
theorem dX3_drawnCell_38 : decode cX3_drawnCell 38 = .ok (.goto (-27), 3) := by decide +kernel
theorem dX3_drawnCell_41 : decode cX3_drawnCell 41 = .ok (.iconst 0, 1) := by decide +kernel
theorem dX3_drawnCell_42 : decode cX3_drawnCell 42 = .ok (.ireturn, 1) := by decide +kernel
set_option maxRecDepth 20000 in
theorem ggX3_stepsAhead_X5_isCell : GoodIn wsX3_stepsAhead wsX5_isCell := goodIn_r _ [4] (by decide +kernel) (by decide +kernel)
set_option maxRecDepth 20000 in
theorem gX3_stepsAhead_X5_isCell_n22 : GoodIn wsX3_stepsAhead (wsX5_isCell) := ggX3_stepsAhead_X5_isCell
set_option maxRecDepth 20000 in
theorem ggX3_stepsAhead_X5_isDirection : GoodIn wsX3_stepsAhead wsX5_isDirection := goodIn_r _ [6] (by decide +kernel) (by decide +kernel)
set_option maxRecDepth 20000 in
theorem gX3_stepsAhead_X5_isDirection_n36 : GoodIn wsX3_stepsAhead (wsX5_isDirection) := ggX3_stepsAhead_X5_isDirection
theorem dX3_stepsAhead_0 : decode cX3_stepsAhead 0 = .ok (.iload_n 1, 1) := by decide +kernel
theorem dX3_stepsAhead_1 : decode cX3_stepsAhead 1 = .ok (.invokestatic 22, 3) := by decide +kernel
theorem dX3_stepsAhead_4 : decode cX3_stepsAhead 4 = .ok (.ifCond .eq 24, 3) := by decide +kernel
theorem dX3_stepsAhead_7 : decode cX3_stepsAhead 7 = .ok (.iload_n 2, 1) := by decide +kernel
theorem dX3_stepsAhead_8 : decode cX3_stepsAhead 8 = .ok (.invokestatic 36, 3) := by decide +kernel
theorem dX3_stepsAhead_11 : decode cX3_stepsAhead 11 = .ok (.ifCond .eq 17, 3) := by decide +kernel
theorem dX3_stepsAhead_14 : decode cX3_stepsAhead 14 = .ok (.aload_n 0, 1) := by decide +kernel
theorem dX3_stepsAhead_15 : decode cX3_stepsAhead 15 = .ok (.getfield 15, 3) := by decide +kernel
theorem dX3_stepsAhead_18 : decode cX3_stepsAhead 18 = .ok (.bipush 64, 2) := by decide +kernel
theorem dX3_stepsAhead_20 : decode cX3_stepsAhead 20 = .ok (.iload_n 2, 1) := by decide +kernel
theorem dX3_stepsAhead_21 : decode cX3_stepsAhead 21 = .ok (.imul, 1) := by decide +kernel
theorem dX3_stepsAhead_22 : decode cX3_stepsAhead 22 = .ok (.iload_n 1, 1) := by decide +kernel
theorem dX3_stepsAhead_23 : decode cX3_stepsAhead 23 = .ok (.iadd, 1) := by decide +kernel
theorem dX3_stepsAhead_24 : decode cX3_stepsAhead 24 = .ok (.iaload, 1) := by decide +kernel
theorem dX3_stepsAhead_25 : decode cX3_stepsAhead 25 = .ok (.goto 4, 3) := by decide +kernel
theorem dX3_stepsAhead_28 : decode cX3_stepsAhead 28 = .ok (.iconst (-1), 1) := by decide +kernel
theorem dX3_stepsAhead_29 : decode cX3_stepsAhead 29 = .ok (.ireturn, 1) := by decide +kernel
set_option maxRecDepth 20000 in
theorem ggX3_led_X3_stepsAhead : GoodIn wsX3_led wsX3_stepsAhead := goodIn_r _ [9, 10, 11, 12, 13, 14, 15, 25, 26, 27] (by decide +kernel) (by decide +kernel)
set_option maxRecDepth 20000 in
theorem gX3_led_X3_stepsAhead : GoodIn wsX3_led (wsV RX3 39 RX3 yX3_stepsAhead wsX3_stepsAhead) := goodIn_app (goodIn_of _ (by decide +kernel)) ggX3_led_X3_stepsAhead
set_option maxRecDepth 20000 in
theorem ggX3_led_X3_shifted : GoodIn wsX3_led wsX3_shifted := goodIn_r _ [18, 19, 20, 11, 12, 13, 14, 15, 21, 22, 23, 24] (by decide +kernel) (by decide +kernel)
set_option maxRecDepth 20000 in
theorem gX3_led_X3_shifted : GoodIn wsX3_led (va_wsS RX3 48 yX3_shifted wsX3_shifted) := goodIn_app (goodIn_of _ (by decide +kernel)) ggX3_led_X3_shifted
theorem dX3_led_0 : decode cX3_led 0 = .ok (.iload_n 1, 1) := by decide +kernel
theorem dX3_led_1 : decode cX3_led 1 = .ok (.iload_n 2, 1) := by decide +kernel
theorem dX3_led_2 : decode cX3_led 2 = .ok (.iload_n 3, 1) := by decide +kernel
theorem dX3_led_3 : decode cX3_led 3 = .ok (.aload_n 0, 1) := by decide +kernel
theorem dX3_led_4 : decode cX3_led 4 = .ok (.iload_n 1, 1) := by decide +kernel
theorem dX3_led_5 : decode cX3_led 5 = .ok (.iload_n 2, 1) := by decide +kernel
theorem dX3_led_6 : decode cX3_led 6 = .ok (.invokevirtual 39, 3) := by decide +kernel
theorem dX3_led_9 : decode cX3_led 9 = .ok (.invokestatic 43, 3) := by decide +kernel
theorem dX3_led_12 : decode cX3_led 12 = .ok (.invokestatic 48, 3) := by decide +kernel
theorem dX3_led_15 : decode cX3_led 15 = .ok (.ireturn, 1) := by decide +kernel
set_option maxRecDepth 20000 in
theorem ggX3_weight_X3_stepsAhead : GoodIn wsX3_weight wsX3_stepsAhead := goodIn_r _ [9, 10, 11, 12, 13, 14, 15, 16, 17, 18] (by decide +kernel) (by decide +kernel)
set_option maxRecDepth 20000 in
theorem gX3_weight_X3_stepsAhead : GoodIn wsX3_weight (wsV RX3 39 RX3 yX3_stepsAhead wsX3_stepsAhead) := goodIn_app (goodIn_of _ (by decide +kernel)) ggX3_weight_X3_stepsAhead
theorem dX3_weight_0 : decode cX3_weight 0 = .ok (.iload_n 3, 1) := by decide +kernel
theorem dX3_weight_1 : decode cX3_weight 1 = .ok (.aload_n 0, 1) := by decide +kernel
theorem dX3_weight_2 : decode cX3_weight 2 = .ok (.iload_n 1, 1) := by decide +kernel
theorem dX3_weight_3 : decode cX3_weight 3 = .ok (.iload_n 2, 1) := by decide +kernel
theorem dX3_weight_4 : decode cX3_weight 4 = .ok (.invokevirtual 39, 3) := by decide +kernel
theorem dX3_weight_7 : decode cX3_weight 7 = .ok (.isub, 1) := by decide +kernel
theorem dX3_weight_8 : decode cX3_weight 8 = .ok (.invokestatic 52, 3) := by decide +kernel
theorem dX3_weight_11 : decode cX3_weight 11 = .ok (.tableswitch 32 0 2 #[25, 28, 30], 25) := by decide +kernel
theorem dX3_weight_36 : decode cX3_weight 36 = .ok (.bipush 8, 2) := by decide +kernel
theorem dX3_weight_38 : decode cX3_weight 38 = .ok (.ireturn, 1) := by decide +kernel
theorem dX3_weight_39 : decode cX3_weight 39 = .ok (.iconst 3, 1) := by decide +kernel
theorem dX3_weight_40 : decode cX3_weight 40 = .ok (.ireturn, 1) := by decide +kernel
theorem dX3_weight_41 : decode cX3_weight 41 = .ok (.iconst 1, 1) := by decide +kernel
theorem dX3_weight_42 : decode cX3_weight 42 = .ok (.ireturn, 1) := by decide +kernel
theorem dX3_weight_43 : decode cX3_weight 43 = .ok (.iconst 0, 1) := by decide +kernel
theorem dX3_weight_44 : decode cX3_weight 44 = .ok (.ireturn, 1) := by decide +kernel
set_option maxRecDepth 20000 in
theorem ggX3_shifted_X5_isCell : GoodIn wsX3_shifted wsX5_isCell := goodIn_r _ [5] (by decide +kernel) (by decide +kernel)
set_option maxRecDepth 20000 in
theorem gX3_shifted_X5_isCell_n22 : GoodIn wsX3_shifted (wsX5_isCell) := ggX3_shifted_X5_isCell
set_option maxRecDepth 20000 in
theorem ggX3_shifted_X5_isDirection : GoodIn wsX3_shifted wsX5_isDirection := goodIn_r _ [7] (by decide +kernel) (by decide +kernel)
set_option maxRecDepth 20000 in
theorem gX3_shifted_X5_isDirection_n36 : GoodIn wsX3_shifted (wsX5_isDirection) := ggX3_shifted_X5_isDirection
set_option maxRecDepth 20000 in
theorem ggX3_shifted_X5_isInField : GoodIn wsX3_shifted wsX5_isInField := goodIn_r _ [9] (by decide +kernel) (by decide +kernel)
set_option maxRecDepth 20000 in
theorem gX3_shifted_X5_isInField_n61 : GoodIn wsX3_shifted (wsX5_isInField) := ggX3_shifted_X5_isInField
set_option maxRecDepth 20000 in
theorem ggX3_shifted_X5_numberOf : GoodIn wsX3_shifted wsX5_numberOf := goodIn_r _ [11] (by decide +kernel) (by decide +kernel)
set_option maxRecDepth 20000 in
theorem gX3_shifted_X5_numberOf_n65 : GoodIn wsX3_shifted (wsX5_numberOf) := ggX3_shifted_X5_numberOf
theorem dX3_shifted_0 : decode cX3_shifted 0 = .ok (.iload_n 0, 1) := by decide +kernel
theorem dX3_shifted_1 : decode cX3_shifted 1 = .ok (.invokestatic 22, 3) := by decide +kernel
theorem dX3_shifted_4 : decode cX3_shifted 4 = .ok (.ifCond .eq 10, 3) := by decide +kernel
theorem dX3_shifted_7 : decode cX3_shifted 7 = .ok (.iload_n 1, 1) := by decide +kernel
theorem dX3_shifted_8 : decode cX3_shifted 8 = .ok (.invokestatic 36, 3) := by decide +kernel
theorem dX3_shifted_11 : decode cX3_shifted 11 = .ok (.ifCond .ne 5, 3) := by decide +kernel
theorem dX3_shifted_14 : decode cX3_shifted 14 = .ok (.iconst (-1), 1) := by decide +kernel
theorem dX3_shifted_15 : decode cX3_shifted 15 = .ok (.ireturn, 1) := by decide +kernel
theorem dX3_shifted_16 : decode cX3_shifted 16 = .ok (.iload_n 0, 1) := by decide +kernel
theorem dX3_shifted_17 : decode cX3_shifted 17 = .ok (.bipush 8, 2) := by decide +kernel
theorem dX3_shifted_19 : decode cX3_shifted 19 = .ok (.irem, 1) := by decide +kernel
theorem dX3_shifted_20 : decode cX3_shifted 20 = .ok (.iload_n 2, 1) := by decide +kernel
theorem dX3_shifted_21 : decode cX3_shifted 21 = .ok (.getstatic 55, 3) := by decide +kernel
theorem dX3_shifted_24 : decode cX3_shifted 24 = .ok (.iload_n 1, 1) := by decide +kernel
theorem dX3_shifted_25 : decode cX3_shifted 25 = .ok (.iaload, 1) := by decide +kernel
theorem dX3_shifted_26 : decode cX3_shifted 26 = .ok (.imul, 1) := by decide +kernel
theorem dX3_shifted_27 : decode cX3_shifted 27 = .ok (.iadd, 1) := by decide +kernel
theorem dX3_shifted_28 : decode cX3_shifted 28 = .ok (.istore_n 3, 1) := by decide +kernel
theorem dX3_shifted_29 : decode cX3_shifted 29 = .ok (.iload_n 0, 1) := by decide +kernel
theorem dX3_shifted_30 : decode cX3_shifted 30 = .ok (.bipush 8, 2) := by decide +kernel
theorem dX3_shifted_32 : decode cX3_shifted 32 = .ok (.idiv, 1) := by decide +kernel
theorem dX3_shifted_33 : decode cX3_shifted 33 = .ok (.iload_n 2, 1) := by decide +kernel
theorem dX3_shifted_34 : decode cX3_shifted 34 = .ok (.getstatic 58, 3) := by decide +kernel
theorem dX3_shifted_37 : decode cX3_shifted 37 = .ok (.iload_n 1, 1) := by decide +kernel
theorem dX3_shifted_38 : decode cX3_shifted 38 = .ok (.iaload, 1) := by decide +kernel
theorem dX3_shifted_39 : decode cX3_shifted 39 = .ok (.imul, 1) := by decide +kernel
theorem dX3_shifted_40 : decode cX3_shifted 40 = .ok (.iadd, 1) := by decide +kernel
theorem dX3_shifted_41 : decode cX3_shifted 41 = .ok (.istore 4, 2) := by decide +kernel
theorem dX3_shifted_43 : decode cX3_shifted 43 = .ok (.iload_n 3, 1) := by decide +kernel
theorem dX3_shifted_44 : decode cX3_shifted 44 = .ok (.iload 4, 2) := by decide +kernel
theorem dX3_shifted_46 : decode cX3_shifted 46 = .ok (.invokestatic 61, 3) := by decide +kernel
theorem dX3_shifted_49 : decode cX3_shifted 49 = .ok (.ifCond .eq 12, 3) := by decide +kernel
theorem dX3_shifted_52 : decode cX3_shifted 52 = .ok (.iload_n 3, 1) := by decide +kernel
theorem dX3_shifted_53 : decode cX3_shifted 53 = .ok (.iload 4, 2) := by decide +kernel
theorem dX3_shifted_55 : decode cX3_shifted 55 = .ok (.invokestatic 65, 3) := by decide +kernel
theorem dX3_shifted_58 : decode cX3_shifted 58 = .ok (.goto 4, 3) := by decide +kernel
theorem dX3_shifted_61 : decode cX3_shifted 61 = .ok (.iconst (-1), 1) := by decide +kernel
theorem dX3_shifted_62 : decode cX3_shifted 62 = .ok (.ireturn, 1) := by decide +kernel
set_option maxRecDepth 20000 in
theorem ggX3_measure_X3_countedSteps : GoodIn wsX3_measure wsX3_countedSteps := goodIn_r _ [8, 9, 10, 7, 11, 12, 13, 14, 15, 16, 17, 18, 19, 20, 21, 22, 23, 24, 25, 26, 2, 27, 28, 29] (by decide +kernel) (by decide +kernel)
set_option maxRecDepth 20000 in
theorem gX3_measure_X3_countedSteps : GoodIn wsX3_measure (wsV RX3 68 RX3 yX3_countedSteps wsX3_countedSteps) := goodIn_app (goodIn_of _ (by decide +kernel)) ggX3_measure_X3_countedSteps
theorem dX3_measure_0 : decode cX3_measure 0 = .ok (.aload_n 0, 1) := by decide +kernel
theorem dX3_measure_1 : decode cX3_measure 1 = .ok (.iconst 0, 1) := by decide +kernel
theorem dX3_measure_2 : decode cX3_measure 2 = .ok (.putfield 26, 3) := by decide +kernel
theorem dX3_measure_5 : decode cX3_measure 5 = .ok (.iconst 0, 1) := by decide +kernel
theorem dX3_measure_6 : decode cX3_measure 6 = .ok (.istore_n 1, 1) := by decide +kernel
theorem dX3_measure_7 : decode cX3_measure 7 = .ok (.iload_n 1, 1) := by decide +kernel
theorem dX3_measure_8 : decode cX3_measure 8 = .ok (.bipush 64, 2) := by decide +kernel
theorem dX3_measure_10 : decode cX3_measure 10 = .ok (.if_icmp .ge 71, 3) := by decide +kernel
theorem dX3_measure_13 : decode cX3_measure 13 = .ok (.aload_n 0, 1) := by decide +kernel
theorem dX3_measure_14 : decode cX3_measure 14 = .ok (.getfield 9, 3) := by decide +kernel
theorem dX3_measure_17 : decode cX3_measure 17 = .ok (.iload_n 1, 1) := by decide +kernel
theorem dX3_measure_18 : decode cX3_measure 18 = .ok (.baload, 1) := by decide +kernel
theorem dX3_measure_19 : decode cX3_measure 19 = .ok (.ifCond .ne 13, 3) := by decide +kernel
theorem dX3_measure_22 : decode cX3_measure 22 = .ok (.aload_n 0, 1) := by decide +kernel
theorem dX3_measure_23 : decode cX3_measure 23 = .ok (.dup, 1) := by decide +kernel
theorem dX3_measure_24 : decode cX3_measure 24 = .ok (.getfield 26, 3) := by decide +kernel
theorem dX3_measure_27 : decode cX3_measure 27 = .ok (.iconst 1, 1) := by decide +kernel
theorem dX3_measure_28 : decode cX3_measure 28 = .ok (.iadd, 1) := by decide +kernel
theorem dX3_measure_29 : decode cX3_measure 29 = .ok (.putfield 26, 3) := by decide +kernel
theorem dX3_measure_32 : decode cX3_measure 32 = .ok (.iconst 0, 1) := by decide +kernel
theorem dX3_measure_33 : decode cX3_measure 33 = .ok (.istore_n 2, 1) := by decide +kernel
theorem dX3_measure_34 : decode cX3_measure 34 = .ok (.iload_n 2, 1) := by decide +kernel
theorem dX3_measure_35 : decode cX3_measure 35 = .ok (.iconst 4, 1) := by decide +kernel
theorem dX3_measure_36 : decode cX3_measure 36 = .ok (.if_icmp .ge 39, 3) := by decide +kernel
theorem dX3_measure_39 : decode cX3_measure 39 = .ok (.aload_n 0, 1) := by decide +kernel
theorem dX3_measure_40 : decode cX3_measure 40 = .ok (.getfield 15, 3) := by decide +kernel
theorem dX3_measure_43 : decode cX3_measure 43 = .ok (.bipush 64, 2) := by decide +kernel
theorem dX3_measure_45 : decode cX3_measure 45 = .ok (.iload_n 2, 1) := by decide +kernel
theorem dX3_measure_46 : decode cX3_measure 46 = .ok (.imul, 1) := by decide +kernel
theorem dX3_measure_47 : decode cX3_measure 47 = .ok (.iload_n 1, 1) := by decide +kernel
theorem dX3_measure_48 : decode cX3_measure 48 = .ok (.iadd, 1) := by decide +kernel
theorem dX3_measure_49 : decode cX3_measure 49 = .ok (.aload_n 0, 1) := by decide +kernel
theorem dX3_measure_50 : decode cX3_measure 50 = .ok (.getfield 9, 3) := by decide +kernel
theorem dX3_measure_53 : decode cX3_measure 53 = .ok (.iload_n 1, 1) := by decide +kernel
theorem dX3_measure_54 : decode cX3_measure 54 = .ok (.baload, 1) := by decide +kernel
theorem dX3_measure_55 : decode cX3_measure 55 = .ok (.ifCond .eq 7, 3) := by decide +kernel
theorem dX3_measure_58 : decode cX3_measure 58 = .ok (.iconst (-1), 1) := by decide +kernel
theorem dX3_measure_59 : decode cX3_measure 59 = .ok (.goto 9, 3) := by decide +kernel
theorem dX3_measure_62 : decode cX3_measure 62 = .ok (.aload_n 0, 1) := by decide +kernel
theorem dX3_measure_63 : decode cX3_measure 63 = .ok (.iload_n 1, 1) := by decide +kernel
theorem dX3_measure_64 : decode cX3_measure 64 = .ok (.iload_n 2, 1) := by decide +kernel
theorem dX3_measure_65 : decode cX3_measure 65 = .ok (.invokevirtual 68, 3) := by decide +kernel
theorem dX3_measure_68 : decode cX3_measure 68 = .ok (.iastore, 1) := by decide +kernel
theorem dX3_measure_69 : decode cX3_measure 69 = .ok (.iinc 2 1, 3) := by decide +kernel
theorem dX3_measure_72 : decode cX3_measure 72 = .ok (.goto (-38), 3) := by decide +kernel
theorem dX3_measure_75 : decode cX3_measure 75 = .ok (.iinc 1 1, 3) := by decide +kernel
theorem dX3_measure_78 : decode cX3_measure 78 = .ok (.goto (-71), 3) := by decide +kernel
theorem dX3_measure_81 : decode cX3_measure 81 = .ok (.return_, 1) := by decide +kernel
set_option maxRecDepth 20000 in
theorem ggX3_countedSteps_X3_shifted : GoodIn wsX3_countedSteps wsX3_shifted := goodIn_r _ [4, 5, 6, 7, 8, 9, 10, 11, 12, 13, 14, 15] (by decide +kernel) (by decide +kernel)
set_option maxRecDepth 20000 in
theorem gX3_countedSteps_X3_shifted : GoodIn wsX3_countedSteps (va_wsS RX3 48 yX3_shifted wsX3_shifted) := goodIn_app (goodIn_of _ (by decide +kernel)) ggX3_countedSteps_X3_shifted
set_option maxRecDepth 20000 in
theorem ggX3_countedSteps_X3_isFree : GoodIn wsX3_countedSteps wsX3_isFree := goodIn_r _ [19, 20, 7, 8, 9, 21, 22, 23] (by decide +kernel) (by decide +kernel)
set_option maxRecDepth 20000 in
theorem gX3_countedSteps_X3_isFree : GoodIn wsX3_countedSteps (wsV RX3 71 RX3 yX3_isFree wsX3_isFree) := goodIn_app (goodIn_of _ (by decide +kernel)) ggX3_countedSteps_X3_isFree
theorem dX3_countedSteps_0 : decode cX3_countedSteps 0 = .ok (.iconst 0, 1) := by decide +kernel
theorem dX3_countedSteps_1 : decode cX3_countedSteps 1 = .ok (.istore_n 3, 1) := by decide +kernel
theorem dX3_countedSteps_2 : decode cX3_countedSteps 2 = .ok (.iload_n 3, 1) := by decide +kernel
theorem dX3_countedSteps_3 : decode cX3_countedSteps 3 = .ok (.bipush 8, 2) := by decide +kernel
theorem dX3_countedSteps_5 : decode cX3_countedSteps 5 = .ok (.if_icmp .ge 24, 3) := by decide +kernel
theorem dX3_countedSteps_8 : decode cX3_countedSteps 8 = .ok (.aload_n 0, 1) := by decide +kernel
theorem dX3_countedSteps_9 : decode cX3_countedSteps 9 = .ok (.iload_n 1, 1) := by decide +kernel
theorem dX3_countedSteps_10 : decode cX3_countedSteps 10 = .ok (.iload_n 2, 1) := by decide +kernel
theorem dX3_countedSteps_11 : decode cX3_countedSteps 11 = .ok (.iload_n 3, 1) := by decide +kernel
theorem dX3_countedSteps_12 : decode cX3_countedSteps 12 = .ok (.iconst 1, 1) := by decide +kernel
theorem dX3_countedSteps_13 : decode cX3_countedSteps 13 = .ok (.iadd, 1) := by decide +kernel
theorem dX3_countedSteps_14 : decode cX3_countedSteps 14 = .ok (.invokestatic 48, 3) := by decide +kernel
theorem dX3_countedSteps_17 : decode cX3_countedSteps 17 = .ok (.invokevirtual 71, 3) := by decide +kernel
theorem dX3_countedSteps_20 : decode cX3_countedSteps 20 = .ok (.ifCond .eq 9, 3) := by decide +kernel
theorem dX3_countedSteps_23 : decode cX3_countedSteps 23 = .ok (.iinc 3 1, 3) := by decide +kernel
theorem dX3_countedSteps_26 : decode cX3_countedSteps 26 = .ok (.goto (-24), 3) := by decide +kernel
theorem dX3_countedSteps_29 : decode cX3_countedSteps 29 = .ok (.iload_n 3, 1) := by decide +kernel
theorem dX3_countedSteps_30 : decode cX3_countedSteps 30 = .ok (.ireturn, 1) := by decide +kernel
set_option maxRecDepth 20000 in
theorem ggX4_init_X2_init : GoodIn wsX4_init wsX2_init := goodIn_r _ [17, 18, 2, 3, 19, 20, 32] (by decide +kernel) (by decide +kernel)
set_option maxRecDepth 20000 in
theorem gX4_init_X2_init : GoodIn wsX4_init (wsX2_init) := ggX4_init_X2_init
theorem dX4_init_0 : decode cX4_init 0 = .ok (.aload_n 0, 1) := by decide +kernel
theorem dX4_init_1 : decode cX4_init 1 = .ok (.invokespecial 3, 3) := by decide +kernel
theorem dX4_init_4 : decode cX4_init 4 = .ok (.aload_n 0, 1) := by decide +kernel
theorem dX4_init_5 : decode cX4_init 5 = .ok (.aload_n 1, 1) := by decide +kernel
theorem dX4_init_6 : decode cX4_init 6 = .ok (.putfield 9, 3) := by decide +kernel
theorem dX4_init_9 : decode cX4_init 9 = .ok (.aload_n 0, 1) := by decide +kernel
theorem dX4_init_10 : decode cX4_init 10 = .ok (.aload_n 2, 1) := by decide +kernel
theorem dX4_init_11 : decode cX4_init 11 = .ok (.putfield 15, 3) := by decide +kernel
theorem dX4_init_14 : decode cX4_init 14 = .ok (.aload_n 0, 1) := by decide +kernel
theorem dX4_init_15 : decode cX4_init 15 = .ok (.bipush 64, 2) := by decide +kernel
theorem dX4_init_17 : decode cX4_init 17 = .ok (.newarray .int, 2) := by decide +kernel
theorem dX4_init_19 : decode cX4_init 19 = .ok (.putfield 19, 3) := by decide +kernel
theorem dX4_init_22 : decode cX4_init 22 = .ok (.aload_n 0, 1) := by decide +kernel
theorem dX4_init_23 : decode cX4_init 23 = .ok (.bipush 64, 2) := by decide +kernel
theorem dX4_init_25 : decode cX4_init 25 = .ok (.newarray .int, 2) := by decide +kernel
theorem dX4_init_27 : decode cX4_init 27 = .ok (.putfield 23, 3) := by decide +kernel
theorem dX4_init_30 : decode cX4_init 30 = .ok (.aload_n 0, 1) := by decide +kernel
theorem dX4_init_31 : decode cX4_init 31 = .ok (.bipush 64, 2) := by decide +kernel
theorem dX4_init_33 : decode cX4_init 33 = .ok (.newarray .int, 2) := by decide +kernel
theorem dX4_init_35 : decode cX4_init 35 = .ok (.putfield 26, 3) := by decide +kernel
theorem dX4_init_38 : decode cX4_init 38 = .ok (.aload_n 0, 1) := by decide +kernel
theorem dX4_init_39 : decode cX4_init 39 = .ok (.new 29, 3) := by decide +kernel
theorem dX4_init_42 : decode cX4_init 42 = .ok (.dup, 1) := by decide +kernel
theorem dX4_init_43 : decode cX4_init 43 = .ok (.invokespecial 31, 3) := by decide +kernel
theorem dX4_init_46 : decode cX4_init 46 = .ok (.putfield 32, 3) := by decide +kernel
theorem dX4_init_49 : decode cX4_init 49 = .ok (.aload_n 0, 1) := by decide +kernel
theorem dX4_init_50 : decode cX4_init 50 = .ok (.iconst 0, 1) := by decide +kernel
theorem dX4_init_51 : decode cX4_init 51 = .ok (.putfield 36, 3) := by decide +kernel
theorem dX4_init_54 : decode cX4_init 54 = .ok (.return_, 1) := by decide +kernel
theorem dX4_size_0 : decode cX4_size 0 = .ok (.aload_n 0, 1) := by decide +kernel
theorem dX4_size_1 : decode cX4_size 1 = .ok (.getfield 36, 3) := by decide +kernel
theorem dX4_size_4 : decode cX4_size 4 = .ok (.ireturn, 1) := by decide +kernel
theorem dX4_cellOf_0 : decode cX4_cellOf 0 = .ok (.iload_n 1, 1) := by decide +kernel
theorem dX4_cellOf_1 : decode cX4_cellOf 1 = .ok (.ifCond .lt 18, 3) := by decide +kernel
theorem dX4_cellOf_4 : decode cX4_cellOf 4 = .ok (.iload_n 1, 1) := by decide +kernel
theorem dX4_cellOf_5 : decode cX4_cellOf 5 = .ok (.bipush 64, 2) := by decide +kernel
theorem dX4_cellOf_7 : decode cX4_cellOf 7 = .ok (.if_icmp .ge 12, 3) := by decide +kernel
theorem dX4_cellOf_10 : decode cX4_cellOf 10 = .ok (.aload_n 0, 1) := by decide +kernel
theorem dX4_cellOf_11 : decode cX4_cellOf 11 = .ok (.getfield 19, 3) := by decide +kernel
theorem dX4_cellOf_14 : decode cX4_cellOf 14 = .ok (.iload_n 1, 1) := by decide +kernel
theorem dX4_cellOf_15 : decode cX4_cellOf 15 = .ok (.iaload, 1) := by decide +kernel
theorem dX4_cellOf_16 : decode cX4_cellOf 16 = .ok (.goto 4, 3) := by decide +kernel
theorem dX4_cellOf_19 : decode cX4_cellOf 19 = .ok (.iconst (-1), 1) := by decide +kernel
theorem dX4_cellOf_20 : decode cX4_cellOf 20 = .ok (.ireturn, 1) := by decide +kernel
theorem dX4_lastDoubt_0 : decode cX4_lastDoubt 0 = .ok (.aload_n 0, 1) := by decide +kernel
theorem dX4_lastDoubt_1 : decode cX4_lastDoubt 1 = .ok (.getfield 40, 3) := by decide +kernel
theorem dX4_lastDoubt_4 : decode cX4_lastDoubt 4 = .ok (.ireturn, 1) := by decide +kernel
set_option maxRecDepth 20000 in
theorem ggX4_chart_X2_clear : GoodIn wsX4_chart wsX2_clear := goodIn_r _ [8, 9, 28] (by decide +kernel) (by decide +kernel)
set_option maxRecDepth 20000 in
theorem gX4_chart_X2_clear : GoodIn wsX4_chart (wsV RX4 43 RX2 yX2_clear wsX2_clear) := goodIn_app (goodIn_of _ (by decide +kernel)) ggX4_chart_X2_clear
set_option maxRecDepth 20000 in
theorem ggX4_chart_X2_add : GoodIn wsX4_chart wsX2_add := goodIn_r _ [13, 9, 14, 15, 16, 28] (by decide +kernel) (by decide +kernel)
set_option maxRecDepth 20000 in
theorem gX4_chart_X2_add : GoodIn wsX4_chart (wsV RX4 46 RX2 yX2_add wsX2_add) := goodIn_app (goodIn_of _ (by decide +kernel)) ggX4_chart_X2_add
theorem dX4_chart_0 : decode cX4_chart 0 = .ok (.aload_n 0, 1) := by decide +kernel
theorem dX4_chart_1 : decode cX4_chart 1 = .ok (.getfield 32, 3) := by decide +kernel
theorem dX4_chart_4 : decode cX4_chart 4 = .ok (.invokevirtual 43, 3) := by decide +kernel
theorem dX4_chart_7 : decode cX4_chart 7 = .ok (.iconst 0, 1) := by decide +kernel
theorem dX4_chart_8 : decode cX4_chart 8 = .ok (.istore_n 1, 1) := by decide +kernel
theorem dX4_chart_9 : decode cX4_chart 9 = .ok (.iload_n 1, 1) := by decide +kernel
theorem dX4_chart_10 : decode cX4_chart 10 = .ok (.aload_n 0, 1) := by decide +kernel
theorem dX4_chart_11 : decode cX4_chart 11 = .ok (.getfield 36, 3) := by decide +kernel
theorem dX4_chart_14 : decode cX4_chart 14 = .ok (.if_icmp .ge 29, 3) := by decide +kernel
theorem dX4_chart_17 : decode cX4_chart 17 = .ok (.iload_n 1, 1) := by decide +kernel
theorem dX4_chart_18 : decode cX4_chart 18 = .ok (.bipush 64, 2) := by decide +kernel
theorem dX4_chart_20 : decode cX4_chart 20 = .ok (.if_icmp .ge 23, 3) := by decide +kernel
theorem dX4_chart_23 : decode cX4_chart 23 = .ok (.aload_n 0, 1) := by decide +kernel
theorem dX4_chart_24 : decode cX4_chart 24 = .ok (.getfield 32, 3) := by decide +kernel
theorem dX4_chart_27 : decode cX4_chart 27 = .ok (.aload_n 0, 1) := by decide +kernel
theorem dX4_chart_28 : decode cX4_chart 28 = .ok (.getfield 19, 3) := by decide +kernel
theorem dX4_chart_31 : decode cX4_chart 31 = .ok (.iload_n 1, 1) := by decide +kernel
theorem dX4_chart_32 : decode cX4_chart 32 = .ok (.iaload, 1) := by decide +kernel
theorem dX4_chart_33 : decode cX4_chart 33 = .ok (.lconst 1, 1) := by decide +kernel
theorem dX4_chart_34 : decode cX4_chart 34 = .ok (.invokevirtual 46, 3) := by decide +kernel
theorem dX4_chart_37 : decode cX4_chart 37 = .ok (.iinc 1 1, 3) := by decide +kernel
theorem dX4_chart_40 : decode cX4_chart 40 = .ok (.goto (-31), 3) := by decide +kernel
theorem dX4_chart_43 : decode cX4_chart 43 = .ok (.aload_n 0, 1) := by decide +kernel
theorem dX4_chart_44 : decode cX4_chart 44 = .ok (.getfield 32, 3) := by decide +kernel
theorem dX4_chart_47 : decode cX4_chart 47 = .ok (.areturn, 1) := by decide +kernel
set_option maxRecDepth 20000 in
theorem ggX4_begin_X3_drawnCell : GoodIn wsX4_begin wsX3_drawnCell := goodIn_r _ [13, 14, 15, 16, 17, 18, 19, 20, 21, 22, 34, 35, 36, 37] (by decide +kernel) (by decide +kernel)
set_option maxRecDepth 20000 in
theorem gX4_begin_X3_drawnCell : GoodIn wsX4_begin (wsV RX4 50 RX3 yX3_drawnCell wsX3_drawnCell) := goodIn_app (goodIn_of _ (by decide +kernel)) ggX4_begin_X3_drawnCell
theorem dX4_begin_0 : decode cX4_begin 0 = .ok (.aload_n 0, 1) := by decide +kernel
theorem dX4_begin_1 : decode cX4_begin 1 = .ok (.iload_n 1, 1) := by decide +kernel
theorem dX4_begin_2 : decode cX4_begin 2 = .ok (.putfield 36, 3) := by decide +kernel
theorem dX4_begin_5 : decode cX4_begin 5 = .ok (.iconst 0, 1) := by decide +kernel
theorem dX4_begin_6 : decode cX4_begin 6 = .ok (.istore_n 2, 1) := by decide +kernel
theorem dX4_begin_7 : decode cX4_begin 7 = .ok (.iload_n 2, 1) := by decide +kernel
theorem dX4_begin_8 : decode cX4_begin 8 = .ok (.aload_n 0, 1) := by decide +kernel
theorem dX4_begin_9 : decode cX4_begin 9 = .ok (.getfield 36, 3) := by decide +kernel
theorem dX4_begin_12 : decode cX4_begin 12 = .ok (.if_icmp .ge 32, 3) := by decide +kernel
theorem dX4_begin_15 : decode cX4_begin 15 = .ok (.iload_n 2, 1) := by decide +kernel
theorem dX4_begin_16 : decode cX4_begin 16 = .ok (.bipush 64, 2) := by decide +kernel
theorem dX4_begin_18 : decode cX4_begin 18 = .ok (.if_icmp .ge 26, 3) := by decide +kernel
theorem dX4_begin_21 : decode cX4_begin 21 = .ok (.aload_n 0, 1) := by decide +kernel
theorem dX4_begin_22 : decode cX4_begin 22 = .ok (.getfield 19, 3) := by decide +kernel
theorem dX4_begin_25 : decode cX4_begin 25 = .ok (.iload_n 2, 1) := by decide +kernel
theorem dX4_begin_26 : decode cX4_begin 26 = .ok (.aload_n 0, 1) := by decide +kernel
theorem dX4_begin_27 : decode cX4_begin 27 = .ok (.getfield 9, 3) := by decide +kernel
theorem dX4_begin_30 : decode cX4_begin 30 = .ok (.aload_n 0, 1) := by decide +kernel
theorem dX4_begin_31 : decode cX4_begin 31 = .ok (.getfield 15, 3) := by decide +kernel
theorem dX4_begin_34 : decode cX4_begin 34 = .ok (.invokevirtual 50, 3) := by decide +kernel
theorem dX4_begin_37 : decode cX4_begin 37 = .ok (.iastore, 1) := by decide +kernel
theorem dX4_begin_38 : decode cX4_begin 38 = .ok (.iinc 2 1, 3) := by decide +kernel
theorem dX4_begin_41 : decode cX4_begin 41 = .ok (.goto (-34), 3) := by decide +kernel
theorem dX4_begin_44 : decode cX4_begin 44 = .ok (.aload_n 0, 1) := by decide +kernel
theorem dX4_begin_45 : decode cX4_begin 45 = .ok (.iconst 0, 1) := by decide +kernel
theorem dX4_begin_46 : decode cX4_begin 46 = .ok (.putfield 56, 3) := by decide +kernel
theorem dX4_begin_49 : decode cX4_begin 49 = .ok (.aload_n 0, 1) := by decide +kernel
theorem dX4_begin_50 : decode cX4_begin 50 = .ok (.iconst 0, 1) := by decide +kernel
theorem dX4_begin_51 : decode cX4_begin 51 = .ok (.putfield 60, 3) := by decide +kernel
theorem dX4_begin_54 : decode cX4_begin 54 = .ok (.aload_n 0, 1) := by decide +kernel
theorem dX4_begin_55 : decode cX4_begin 55 = .ok (.iconst 0, 1) := by decide +kernel
theorem dX4_begin_56 : decode cX4_begin 56 = .ok (.putfield 63, 3) := by decide +kernel
theorem dX4_begin_59 : decode cX4_begin 59 = .ok (.aload_n 0, 1) := by decide +kernel
theorem dX4_begin_60 : decode cX4_begin 60 = .ok (.iconst 0, 1) := by decide +kernel
theorem dX4_begin_61 : decode cX4_begin 61 = .ok (.putfield 40, 3) := by decide +kernel
theorem dX4_begin_64 : decode cX4_begin 64 = .ok (.return_, 1) := by decide +kernel
set_option maxRecDepth 20000 in
theorem ggX4_move_X4_drawnSteps : GoodIn wsX4_move wsX4_drawnSteps := goodIn_r _ [8, 9, 10, 11, 12, 13, 14, 15, 16, 45, 46, 47, 48, 49, 50, 51, 52, 53, 54, 55, 56] (by decide +kernel) (by decide +kernel)
set_option maxRecDepth 20000 in
theorem gX4_move_X4_drawnSteps : GoodIn wsX4_move (wsV RX4 66 RX4 yX4_drawnSteps wsX4_drawnSteps) := goodIn_app (goodIn_of _ (by decide +kernel)) ggX4_move_X4_drawnSteps
set_option maxRecDepth 20000 in
theorem ggX4_move_X3_led : GoodIn wsX4_move wsX3_led := goodIn_r _ [21, 22, 23, 24, 25, 26, 27, 28, 20, 29, 30, 31, 32, 33, 34, 35, 36, 37, 38, 39, 40, 41, 42, 43, 44, 57, 58, 59] (by decide +kernel) (by decide +kernel)
set_option maxRecDepth 20000 in
theorem gX4_move_X3_led : GoodIn wsX4_move (wsV RX4 70 RX3 yX3_led wsX3_led) := goodIn_app (goodIn_of _ (by decide +kernel)) ggX4_move_X3_led
theorem dX4_move_0 : decode cX4_move 0 = .ok (.iconst 0, 1) := by decide +kernel
theorem dX4_move_1 : decode cX4_move 1 = .ok (.istore_n 2, 1) := by decide +kernel
theorem dX4_move_2 : decode cX4_move 2 = .ok (.iload_n 2, 1) := by decide +kernel
theorem dX4_move_3 : decode cX4_move 3 = .ok (.aload_n 0, 1) := by decide +kernel
theorem dX4_move_4 : decode cX4_move 4 = .ok (.getfield 36, 3) := by decide +kernel
theorem dX4_move_7 : decode cX4_move 7 = .ok (.if_icmp .ge 39, 3) := by decide +kernel
theorem dX4_move_10 : decode cX4_move 10 = .ok (.iload_n 2, 1) := by decide +kernel
theorem dX4_move_11 : decode cX4_move 11 = .ok (.bipush 64, 2) := by decide +kernel
theorem dX4_move_13 : decode cX4_move 13 = .ok (.if_icmp .ge 33, 3) := by decide +kernel
theorem dX4_move_16 : decode cX4_move 16 = .ok (.aload_n 0, 1) := by decide +kernel
theorem dX4_move_17 : decode cX4_move 17 = .ok (.getfield 19, 3) := by decide +kernel
theorem dX4_move_20 : decode cX4_move 20 = .ok (.iload_n 2, 1) := by decide +kernel
theorem dX4_move_21 : decode cX4_move 21 = .ok (.aload_n 0, 1) := by decide +kernel
theorem dX4_move_22 : decode cX4_move 22 = .ok (.getfield 9, 3) := by decide +kernel
theorem dX4_move_25 : decode cX4_move 25 = .ok (.aload_n 0, 1) := by decide +kernel
theorem dX4_move_26 : decode cX4_move 26 = .ok (.getfield 19, 3) := by decide +kernel
theorem dX4_move_29 : decode cX4_move 29 = .ok (.iload_n 2, 1) := by decide +kernel
theorem dX4_move_30 : decode cX4_move 30 = .ok (.iaload, 1) := by decide +kernel
theorem dX4_move_31 : decode cX4_move 31 = .ok (.iload_n 1, 1) := by decide +kernel
theorem dX4_move_32 : decode cX4_move 32 = .ok (.aload_n 0, 1) := by decide +kernel
theorem dX4_move_33 : decode cX4_move 33 = .ok (.invokevirtual 66, 3) := by decide +kernel
theorem dX4_move_36 : decode cX4_move 36 = .ok (.invokevirtual 70, 3) := by decide +kernel
theorem dX4_move_39 : decode cX4_move 39 = .ok (.iastore, 1) := by decide +kernel
theorem dX4_move_40 : decode cX4_move 40 = .ok (.iinc 2 1, 3) := by decide +kernel
theorem dX4_move_43 : decode cX4_move 43 = .ok (.goto (-41), 3) := by decide +kernel
theorem dX4_move_46 : decode cX4_move 46 = .ok (.return_, 1) := by decide +kernel
set_option maxRecDepth 20000 in
theorem ggX4_drawnSteps_X1_remainder : GoodIn wsX4_drawnSteps wsX1_remainder := goodIn_r _ [6, 7, 8, 20] (by decide +kernel) (by decide +kernel)
set_option maxRecDepth 20000 in
theorem gX4_drawnSteps_X1_remainder : GoodIn wsX4_drawnSteps (wsV RX4 74 RX1 yX1_remainder wsX1_remainder) := goodIn_app (goodIn_of _ (by decide +kernel)) ggX4_drawnSteps_X1_remainder
theorem dX4_drawnSteps_0 : decode cX4_drawnSteps 0 = .ok (.aload_n 0, 1) := by decide +kernel
theorem dX4_drawnSteps_1 : decode cX4_drawnSteps 1 = .ok (.getfield 15, 3) := by decide +kernel
theorem dX4_drawnSteps_4 : decode cX4_drawnSteps 4 = .ok (.bipush 16, 2) := by decide +kernel
theorem dX4_drawnSteps_6 : decode cX4_drawnSteps 6 = .ok (.invokevirtual 74, 3) := by decide +kernel
theorem dX4_drawnSteps_9 : decode cX4_drawnSteps 9 = .ok (.istore_n 1, 1) := by decide +kernel
theorem dX4_drawnSteps_10 : decode cX4_drawnSteps 10 = .ok (.iload_n 1, 1) := by decide +kernel
theorem dX4_drawnSteps_11 : decode cX4_drawnSteps 11 = .ok (.bipush 12, 2) := by decide +kernel
theorem dX4_drawnSteps_13 : decode cX4_drawnSteps 13 = .ok (.if_icmp .ge 5, 3) := by decide +kernel
theorem dX4_drawnSteps_16 : decode cX4_drawnSteps 16 = .ok (.iconst 1, 1) := by decide +kernel
theorem dX4_drawnSteps_17 : decode cX4_drawnSteps 17 = .ok (.ireturn, 1) := by decide +kernel
theorem dX4_drawnSteps_18 : decode cX4_drawnSteps 18 = .ok (.iload_n 1, 1) := by decide +kernel
theorem dX4_drawnSteps_19 : decode cX4_drawnSteps 19 = .ok (.bipush 15, 2) := by decide +kernel
theorem dX4_drawnSteps_21 : decode cX4_drawnSteps 21 = .ok (.if_icmp .ge 7, 3) := by decide +kernel
theorem dX4_drawnSteps_24 : decode cX4_drawnSteps 24 = .ok (.iconst 0, 1) := by decide +kernel
theorem dX4_drawnSteps_25 : decode cX4_drawnSteps 25 = .ok (.goto 4, 3) := by decide +kernel
theorem dX4_drawnSteps_28 : decode cX4_drawnSteps 28 = .ok (.iconst 2, 1) := by decide +kernel
theorem dX4_drawnSteps_29 : decode cX4_drawnSteps 29 = .ok (.ireturn, 1) := by decide +kernel
set_option maxRecDepth 20000 in
theorem ggX4_weigh_X3_weight : GoodIn wsX4_weigh wsX3_weight := goodIn_r _ [9, 10, 11, 12, 13, 14, 15, 16, 8, 17, 18, 19, 20, 21, 22, 23, 103, 104, 105] (by decide +kernel) (by decide +kernel)
set_option maxRecDepth 20000 in
theorem gX4_weigh_X3_weight : GoodIn wsX4_weigh (wsV RX4 80 RX3 yX3_weight wsX3_weight) := goodIn_app (goodIn_of _ (by decide +kernel)) ggX4_weigh_X3_weight
set_option maxRecDepth 20000 in
theorem ggX4_weigh_X5_quotient : GoodIn wsX4_weigh wsX5_quotient := goodIn_r _ [25] (by decide +kernel) (by decide +kernel)
set_option maxRecDepth 20000 in
theorem gX4_weigh_X5_quotient_n83 : GoodIn wsX4_weigh (wsX5_quotient) := ggX4_weigh_X5_quotient
set_option maxRecDepth 20000 in
theorem ggX4_weigh_X4_compareFit : GoodIn wsX4_weigh wsX4_compareFit := goodIn_r _ [30, 31, 32, 33, 34, 35, 12, 36, 37, 92, 93, 94, 95, 96, 97, 98, 99, 100, 101, 102] (by decide +kernel) (by decide +kernel)
set_option maxRecDepth 20000 in
theorem gX4_weigh_X4_compareFit : GoodIn wsX4_weigh (wsV RX4 87 RX4 yX4_compareFit wsX4_compareFit) := goodIn_app (goodIn_of _ (by decide +kernel)) ggX4_weigh_X4_compareFit
set_option maxRecDepth 20000 in
theorem ggX4_weigh_X4_manyAnew : GoodIn wsX4_weigh wsX4_manyAnew := goodIn_r _ [41, 3, 42, 43, 12, 44, 45, 46, 47, 29, 48, 49, 1, 4, 50, 51, 52, 53, 54, 55, 56, 57, 58, 59, 19, 20, 21, 60, 61, 62, 63, 5, 6, 7, 8, 9, 10, 11, 13, 14, 15, 16, 17, 18, 22, 23, 92, 93, 94, 95, 96, 97, 98, 99, 100, 101, 102, 106, 103, 104, 105] (by decide +kernel) (by decide +kernel)
set_option maxRecDepth 20000 in
theorem gX4_weigh_X4_manyAnew : GoodIn wsX4_weigh (wsV RX4 91 RX4 yX4_manyAnew wsX4_manyAnew) := goodIn_app (goodIn_of _ (by decide +kernel)) ggX4_weigh_X4_manyAnew
set_option maxRecDepth 20000 in
theorem ggX4_weigh_X4_drawAnew : GoodIn wsX4_weigh wsX4_drawAnew := goodIn_r _ [67, 4, 68, 69, 70, 71, 72, 73, 37, 3, 1, 74, 75, 76, 77, 78, 79, 80, 81, 82, 83, 8, 84, 85, 86, 87, 24, 20, 25, 88, 89, 90, 29, 91, 2, 92, 93, 94, 95, 96, 97, 98, 99, 100, 101, 102, 107, 103, 104, 105] (by decide +kernel) (by decide +kernel)
set_option maxRecDepth 20000 in
theorem gX4_weigh_X4_drawAnew : GoodIn wsX4_weigh (wsV RX4 95 RX4 yX4_drawAnew wsX4_drawAnew) := goodIn_app (goodIn_of _ (by decide +kernel)) ggX4_weigh_X4_drawAnew
theorem dX4_weigh_0 : decode cX4_weigh 0 = .ok (.iconst 0, 1) := by decide +kernel
theorem dX4_weigh_1 : decode cX4_weigh 1 = .ok (.istore_n 3, 1) := by decide +kernel
theorem dX4_weigh_2 : decode cX4_weigh 2 = .ok (.iconst 0, 1) := by decide +kernel
theorem dX4_weigh_3 : decode cX4_weigh 3 = .ok (.istore 4, 2) := by decide +kernel
theorem dX4_weigh_5 : decode cX4_weigh 5 = .ok (.iload 4, 2) := by decide +kernel
theorem dX4_weigh_7 : decode cX4_weigh 7 = .ok (.aload_n 0, 1) := by decide +kernel
theorem dX4_weigh_8 : decode cX4_weigh 8 = .ok (.getfield 36, 3) := by decide +kernel
theorem dX4_weigh_11 : decode cX4_weigh 11 = .ok (.if_icmp .ge 49, 3) := by decide +kernel
theorem dX4_weigh_14 : decode cX4_weigh 14 = .ok (.iload 4, 2) := by decide +kernel
theorem dX4_weigh_16 : decode cX4_weigh 16 = .ok (.bipush 64, 2) := by decide +kernel
theorem dX4_weigh_18 : decode cX4_weigh 18 = .ok (.if_icmp .ge 42, 3) := by decide +kernel
theorem dX4_weigh_21 : decode cX4_weigh 21 = .ok (.aload_n 0, 1) := by decide +kernel
theorem dX4_weigh_22 : decode cX4_weigh 22 = .ok (.getfield 26, 3) := by decide +kernel
theorem dX4_weigh_25 : decode cX4_weigh 25 = .ok (.iload 4, 2) := by decide +kernel
theorem dX4_weigh_27 : decode cX4_weigh 27 = .ok (.aload_n 0, 1) := by decide +kernel
theorem dX4_weigh_28 : decode cX4_weigh 28 = .ok (.getfield 9, 3) := by decide +kernel
theorem dX4_weigh_31 : decode cX4_weigh 31 = .ok (.aload_n 0, 1) := by decide +kernel
theorem dX4_weigh_32 : decode cX4_weigh 32 = .ok (.getfield 19, 3) := by decide +kernel
theorem dX4_weigh_35 : decode cX4_weigh 35 = .ok (.iload 4, 2) := by decide +kernel
theorem dX4_weigh_37 : decode cX4_weigh 37 = .ok (.iaload, 1) := by decide +kernel
theorem dX4_weigh_38 : decode cX4_weigh 38 = .ok (.iload_n 1, 1) := by decide +kernel
theorem dX4_weigh_39 : decode cX4_weigh 39 = .ok (.iload_n 2, 1) := by decide +kernel
theorem dX4_weigh_40 : decode cX4_weigh 40 = .ok (.invokevirtual 80, 3) := by decide +kernel
theorem dX4_weigh_43 : decode cX4_weigh 43 = .ok (.iastore, 1) := by decide +kernel
theorem dX4_weigh_44 : decode cX4_weigh 44 = .ok (.iload_n 3, 1) := by decide +kernel
theorem dX4_weigh_45 : decode cX4_weigh 45 = .ok (.aload_n 0, 1) := by decide +kernel
theorem dX4_weigh_46 : decode cX4_weigh 46 = .ok (.getfield 26, 3) := by decide +kernel
theorem dX4_weigh_49 : decode cX4_weigh 49 = .ok (.iload 4, 2) := by decide +kernel
theorem dX4_weigh_51 : decode cX4_weigh 51 = .ok (.iaload, 1) := by decide +kernel
theorem dX4_weigh_52 : decode cX4_weigh 52 = .ok (.iadd, 1) := by decide +kernel
theorem dX4_weigh_53 : decode cX4_weigh 53 = .ok (.istore_n 3, 1) := by decide +kernel
theorem dX4_weigh_54 : decode cX4_weigh 54 = .ok (.iinc 4 1, 3) := by decide +kernel
theorem dX4_weigh_57 : decode cX4_weigh 57 = .ok (.goto (-52), 3) := by decide +kernel
theorem dX4_weigh_60 : decode cX4_weigh 60 = .ok (.aload_n 0, 1) := by decide +kernel
theorem dX4_weigh_61 : decode cX4_weigh 61 = .ok (.bipush 32, 2) := by decide +kernel
theorem dX4_weigh_63 : decode cX4_weigh 63 = .ok (.iload_n 3, 1) := by decide +kernel
theorem dX4_weigh_64 : decode cX4_weigh 64 = .ok (.imul, 1) := by decide +kernel
theorem dX4_weigh_65 : decode cX4_weigh 65 = .ok (.i2l, 1) := by decide +kernel
theorem dX4_weigh_66 : decode cX4_weigh 66 = .ok (.aload_n 0, 1) := by decide +kernel
theorem dX4_weigh_67 : decode cX4_weigh 67 = .ok (.getfield 36, 3) := by decide +kernel
theorem dX4_weigh_70 : decode cX4_weigh 70 = .ok (.i2l, 1) := by decide +kernel
theorem dX4_weigh_71 : decode cX4_weigh 71 = .ok (.invokestatic 83, 3) := by decide +kernel
theorem dX4_weigh_74 : decode cX4_weigh 74 = .ok (.l2i, 1) := by decide +kernel
theorem dX4_weigh_75 : decode cX4_weigh 75 = .ok (.invokevirtual 87, 3) := by decide +kernel
theorem dX4_weigh_78 : decode cX4_weigh 78 = .ok (.aload_n 0, 1) := by decide +kernel
theorem dX4_weigh_79 : decode cX4_weigh 79 = .ok (.iload_n 3, 1) := by decide +kernel
theorem dX4_weigh_80 : decode cX4_weigh 80 = .ok (.aload_n 0, 1) := by decide +kernel
theorem dX4_weigh_81 : decode cX4_weigh 81 = .ok (.iload_n 1, 1) := by decide +kernel
theorem dX4_weigh_82 : decode cX4_weigh 82 = .ok (.iload_n 2, 1) := by decide +kernel
theorem dX4_weigh_83 : decode cX4_weigh 83 = .ok (.invokevirtual 91, 3) := by decide +kernel
theorem dX4_weigh_86 : decode cX4_weigh 86 = .ok (.invokevirtual 95, 3) := by decide +kernel
theorem dX4_weigh_89 : decode cX4_weigh 89 = .ok (.iload_n 3, 1) := by decide +kernel
theorem dX4_weigh_90 : decode cX4_weigh 90 = .ok (.ireturn, 1) := by decide +kernel
theorem dX4_compareFit_0 : decode cX4_compareFit 0 = .ok (.aload_n 0, 1) := by decide +kernel
theorem dX4_compareFit_1 : decode cX4_compareFit 1 = .ok (.getfield 56, 3) := by decide +kernel
theorem dX4_compareFit_4 : decode cX4_compareFit 4 = .ok (.ifCond .eq 41, 3) := by decide +kernel
theorem dX4_compareFit_7 : decode cX4_compareFit 7 = .ok (.aload_n 0, 1) := by decide +kernel
theorem dX4_compareFit_8 : decode cX4_compareFit 8 = .ok (.dup, 1) := by decide +kernel
theorem dX4_compareFit_9 : decode cX4_compareFit 9 = .ok (.getfield 60, 3) := by decide +kernel
theorem dX4_compareFit_12 : decode cX4_compareFit 12 = .ok (.iload_n 1, 1) := by decide +kernel
theorem dX4_compareFit_13 : decode cX4_compareFit 13 = .ok (.aload_n 0, 1) := by decide +kernel
theorem dX4_compareFit_14 : decode cX4_compareFit 14 = .ok (.getfield 60, 3) := by decide +kernel
theorem dX4_compareFit_17 : decode cX4_compareFit 17 = .ok (.isub, 1) := by decide +kernel
theorem dX4_compareFit_18 : decode cX4_compareFit 18 = .ok (.bipush 8, 2) := by decide +kernel
theorem dX4_compareFit_20 : decode cX4_compareFit 20 = .ok (.idiv, 1) := by decide +kernel
theorem dX4_compareFit_21 : decode cX4_compareFit 21 = .ok (.iadd, 1) := by decide +kernel
theorem dX4_compareFit_22 : decode cX4_compareFit 22 = .ok (.putfield 60, 3) := by decide +kernel
theorem dX4_compareFit_25 : decode cX4_compareFit 25 = .ok (.aload_n 0, 1) := by decide +kernel
theorem dX4_compareFit_26 : decode cX4_compareFit 26 = .ok (.dup, 1) := by decide +kernel
theorem dX4_compareFit_27 : decode cX4_compareFit 27 = .ok (.getfield 63, 3) := by decide +kernel
theorem dX4_compareFit_30 : decode cX4_compareFit 30 = .ok (.iload_n 1, 1) := by decide +kernel
theorem dX4_compareFit_31 : decode cX4_compareFit 31 = .ok (.aload_n 0, 1) := by decide +kernel
theorem dX4_compareFit_32 : decode cX4_compareFit 32 = .ok (.getfield 63, 3) := by decide +kernel
theorem dX4_compareFit_35 : decode cX4_compareFit 35 = .ok (.isub, 1) := by decide +kernel
theorem dX4_compareFit_36 : decode cX4_compareFit 36 = .ok (.iconst 2, 1) := by decide +kernel
theorem dX4_compareFit_37 : decode cX4_compareFit 37 = .ok (.idiv, 1) := by decide +kernel
theorem dX4_compareFit_38 : decode cX4_compareFit 38 = .ok (.iadd, 1) := by decide +kernel
theorem dX4_compareFit_39 : decode cX4_compareFit 39 = .ok (.putfield 63, 3) := by decide +kernel
theorem dX4_compareFit_42 : decode cX4_compareFit 42 = .ok (.goto 18, 3) := by decide +kernel
theorem dX4_compareFit_45 : decode cX4_compareFit 45 = .ok (.aload_n 0, 1) := by decide +kernel
theorem dX4_compareFit_46 : decode cX4_compareFit 46 = .ok (.iload_n 1, 1) := by decide +kernel
theorem dX4_compareFit_47 : decode cX4_compareFit 47 = .ok (.putfield 60, 3) := by decide +kernel
theorem dX4_compareFit_50 : decode cX4_compareFit 50 = .ok (.aload_n 0, 1) := by decide +kernel
theorem dX4_compareFit_51 : decode cX4_compareFit 51 = .ok (.iload_n 1, 1) := by decide +kernel
theorem dX4_compareFit_52 : decode cX4_compareFit 52 = .ok (.putfield 63, 3) := by decide +kernel
theorem dX4_compareFit_55 : decode cX4_compareFit 55 = .ok (.aload_n 0, 1) := by decide +kernel
theorem dX4_compareFit_56 : decode cX4_compareFit 56 = .ok (.iconst 1, 1) := by decide +kernel
theorem dX4_compareFit_57 : decode cX4_compareFit 57 = .ok (.putfield 56, 3) := by decide +kernel
theorem dX4_compareFit_60 : decode cX4_compareFit 60 = .ok (.aload_n 0, 1) := by decide +kernel
theorem dX4_compareFit_61 : decode cX4_compareFit 61 = .ok (.aload_n 0, 1) := by decide +kernel
theorem dX4_compareFit_62 : decode cX4_compareFit 62 = .ok (.getfield 60, 3) := by decide +kernel
theorem dX4_compareFit_65 : decode cX4_compareFit 65 = .ok (.ifCond .ne 9, 3) := by decide +kernel
theorem dX4_compareFit_68 : decode cX4_compareFit 68 = .ok (.sipush 256, 3) := by decide +kernel
theorem dX4_compareFit_71 : decode cX4_compareFit 71 = .ok (.goto 24, 3) := by decide +kernel
theorem dX4_compareFit_74 : decode cX4_compareFit 74 = .ok (.iconst 0, 1) := by decide +kernel
theorem dX4_compareFit_75 : decode cX4_compareFit 75 = .ok (.sipush 256, 3) := by decide +kernel
theorem dX4_compareFit_78 : decode cX4_compareFit 78 = .ok (.sipush 256, 3) := by decide +kernel
theorem dX4_compareFit_81 : decode cX4_compareFit 81 = .ok (.aload_n 0, 1) := by decide +kernel
theorem dX4_compareFit_82 : decode cX4_compareFit 82 = .ok (.getfield 63, 3) := by decide +kernel
theorem dX4_compareFit_85 : decode cX4_compareFit 85 = .ok (.imul, 1) := by decide +kernel
theorem dX4_compareFit_86 : decode cX4_compareFit 86 = .ok (.aload_n 0, 1) := by decide +kernel
theorem dX4_compareFit_87 : decode cX4_compareFit 87 = .ok (.getfield 60, 3) := by decide +kernel
theorem dX4_compareFit_90 : decode cX4_compareFit 90 = .ok (.idiv, 1) := by decide +kernel
theorem dX4_compareFit_91 : decode cX4_compareFit 91 = .ok (.isub, 1) := by decide +kernel
theorem dX4_compareFit_92 : decode cX4_compareFit 92 = .ok (.invokestatic 99, 3) := by decide +kernel
theorem dX4_compareFit_95 : decode cX4_compareFit 95 = .ok (.putfield 40, 3) := by decide +kernel
theorem dX4_compareFit_98 : decode cX4_compareFit 98 = .ok (.return_, 1) := by decide +kernel
set_option maxRecDepth 20000 in
theorem ggX4_manyAnew_X4_chart : GoodIn wsX4_manyAnew wsX4_chart := goodIn_r _ [10, 11, 12, 13, 14, 15, 16, 17, 18, 19, 20, 21, 22, 23, 24, 25, 26, 46, 47, 48, 49, 50, 51, 52, 53, 54, 55, 56, 57] (by decide +kernel) (by decide +kernel)
set_option maxRecDepth 20000 in
theorem gX4_manyAnew_X4_chart : GoodIn wsX4_manyAnew (wsV RX4 104 RX4 yX4_chart wsX4_chart) := goodIn_app (goodIn_of _ (by decide +kernel)) ggX4_manyAnew_X4_chart
set_option maxRecDepth 20000 in
theorem ggX4_manyAnew_X2_at : GoodIn wsX4_manyAnew wsX2_at := goodIn_r _ [30, 19, 24, 25, 26, 57] (by decide +kernel) (by decide +kernel)
set_option maxRecDepth 20000 in
theorem gX4_manyAnew_X2_at : GoodIn wsX4_manyAnew (wsV RX4 108 RX2 yX2_at wsX2_at) := goodIn_app (goodIn_of _ (by decide +kernel)) ggX4_manyAnew_X2_at
set_option maxRecDepth 20000 in
theorem ggX4_manyAnew_X3_weight : GoodIn wsX4_manyAnew wsX3_weight := goodIn_r _ [35, 36, 37, 4, 38, 39, 40, 41, 34, 42, 43, 24, 25, 26, 44, 45, 58, 59, 60] (by decide +kernel) (by decide +kernel)
set_option maxRecDepth 20000 in
theorem gX4_manyAnew_X3_weight : GoodIn wsX4_manyAnew (wsV RX4 80 RX3 yX3_weight wsX3_weight) := goodIn_app (goodIn_of _ (by decide +kernel)) ggX4_manyAnew_X3_weight
theorem dX4_manyAnew_0 : decode cX4_manyAnew 0 = .ok (.aload_n 0, 1) := by decide +kernel
theorem dX4_manyAnew_1 : decode cX4_manyAnew 1 = .ok (.invokevirtual 104, 3) := by decide +kernel
theorem dX4_manyAnew_4 : decode cX4_manyAnew 4 = .ok (.astore_n 3, 1) := by decide +kernel
theorem dX4_manyAnew_5 : decode cX4_manyAnew 5 = .ok (.iconst 0, 1) := by decide +kernel
theorem dX4_manyAnew_6 : decode cX4_manyAnew 6 = .ok (.istore 4, 2) := by decide +kernel
theorem dX4_manyAnew_8 : decode cX4_manyAnew 8 = .ok (.iconst 0, 1) := by decide +kernel
theorem dX4_manyAnew_9 : decode cX4_manyAnew 9 = .ok (.istore 5, 2) := by decide +kernel
theorem dX4_manyAnew_11 : decode cX4_manyAnew 11 = .ok (.iload 5, 2) := by decide +kernel
theorem dX4_manyAnew_13 : decode cX4_manyAnew 13 = .ok (.bipush 64, 2) := by decide +kernel
theorem dX4_manyAnew_15 : decode cX4_manyAnew 15 = .ok (.if_icmp .ge 37, 3) := by decide +kernel
theorem dX4_manyAnew_18 : decode cX4_manyAnew 18 = .ok (.aload_n 3, 1) := by decide +kernel
theorem dX4_manyAnew_19 : decode cX4_manyAnew 19 = .ok (.iload 5, 2) := by decide +kernel
theorem dX4_manyAnew_21 : decode cX4_manyAnew 21 = .ok (.invokevirtual 108, 3) := by decide +kernel
theorem dX4_manyAnew_24 : decode cX4_manyAnew 24 = .ok (.lconst 0, 1) := by decide +kernel
theorem dX4_manyAnew_25 : decode cX4_manyAnew 25 = .ok (.lcmp, 1) := by decide +kernel
theorem dX4_manyAnew_26 : decode cX4_manyAnew 26 = .ok (.ifCond .le 20, 3) := by decide +kernel
theorem dX4_manyAnew_29 : decode cX4_manyAnew 29 = .ok (.aload_n 0, 1) := by decide +kernel
theorem dX4_manyAnew_30 : decode cX4_manyAnew 30 = .ok (.getfield 9, 3) := by decide +kernel
theorem dX4_manyAnew_33 : decode cX4_manyAnew 33 = .ok (.iload 5, 2) := by decide +kernel
theorem dX4_manyAnew_35 : decode cX4_manyAnew 35 = .ok (.iload_n 1, 1) := by decide +kernel
theorem dX4_manyAnew_36 : decode cX4_manyAnew 36 = .ok (.iload_n 2, 1) := by decide +kernel
theorem dX4_manyAnew_37 : decode cX4_manyAnew 37 = .ok (.invokevirtual 80, 3) := by decide +kernel
theorem dX4_manyAnew_40 : decode cX4_manyAnew 40 = .ok (.ifCond .le 6, 3) := by decide +kernel
theorem dX4_manyAnew_43 : decode cX4_manyAnew 43 = .ok (.iinc 4 1, 3) := by decide +kernel
theorem dX4_manyAnew_46 : decode cX4_manyAnew 46 = .ok (.iinc 5 1, 3) := by decide +kernel
theorem dX4_manyAnew_49 : decode cX4_manyAnew 49 = .ok (.goto (-38), 3) := by decide +kernel
theorem dX4_manyAnew_52 : decode cX4_manyAnew 52 = .ok (.bipush 64, 2) := by decide +kernel
theorem dX4_manyAnew_54 : decode cX4_manyAnew 54 = .ok (.iconst 4, 1) := by decide +kernel
theorem dX4_manyAnew_55 : decode cX4_manyAnew 55 = .ok (.iload 4, 2) := by decide +kernel
theorem dX4_manyAnew_57 : decode cX4_manyAnew 57 = .ok (.imul, 1) := by decide +kernel
theorem dX4_manyAnew_58 : decode cX4_manyAnew 58 = .ok (.bipush 8, 2) := by decide +kernel
theorem dX4_manyAnew_60 : decode cX4_manyAnew 60 = .ok (.iadd, 1) := by decide +kernel
theorem dX4_manyAnew_61 : decode cX4_manyAnew 61 = .ok (.invokestatic 112, 3) := by decide +kernel
theorem dX4_manyAnew_64 : decode cX4_manyAnew 64 = .ok (.ireturn, 1) := by decide +kernel
set_option maxRecDepth 20000 in
theorem ggX4_drawAnew_X1_remainder : GoodIn wsX4_drawAnew wsX1_remainder := goodIn_r _ [15, 16, 17, 46] (by decide +kernel) (by decide +kernel)
set_option maxRecDepth 20000 in
theorem gX4_drawAnew_X1_remainder : GoodIn wsX4_drawAnew (wsV RX4 74 RX1 yX1_remainder wsX1_remainder) := goodIn_app (goodIn_of _ (by decide +kernel)) ggX4_drawAnew_X1_remainder
set_option maxRecDepth 20000 in
theorem ggX4_drawAnew_X3_drawnCell : GoodIn wsX4_drawAnew wsX3_drawnCell := goodIn_r _ [22, 23, 24, 25, 12, 13, 14, 15, 16, 17, 47, 48, 49, 46] (by decide +kernel) (by decide +kernel)
set_option maxRecDepth 20000 in
theorem gX4_drawAnew_X3_drawnCell : GoodIn wsX4_drawAnew (wsV RX4 50 RX3 yX3_drawnCell wsX3_drawnCell) := goodIn_app (goodIn_of _ (by decide +kernel)) ggX4_drawAnew_X3_drawnCell
set_option maxRecDepth 20000 in
theorem ggX4_drawAnew_X5_quotient : GoodIn wsX4_drawAnew wsX5_quotient := goodIn_r _ [28] (by decide +kernel) (by decide +kernel)
set_option maxRecDepth 20000 in
theorem gX4_drawAnew_X5_quotient_n83 : GoodIn wsX4_drawAnew (wsX5_quotient) := ggX4_drawAnew_X5_quotient
set_option maxRecDepth 20000 in
theorem ggX4_drawAnew_X4_oldCellBeyond : GoodIn wsX4_drawAnew wsX4_oldCellBeyond := goodIn_r _ [33, 10, 34, 2, 35, 36, 37, 38, 39, 40, 41, 42, 43, 44, 45] (by decide +kernel) (by decide +kernel)
set_option maxRecDepth 20000 in
theorem gX4_drawAnew_X4_oldCellBeyond : GoodIn wsX4_drawAnew (wsV RX4 121 RX4 yX4_oldCellBeyond wsX4_oldCellBeyond) := goodIn_app (goodIn_of _ (by decide +kernel)) ggX4_drawAnew_X4_oldCellBeyond
theorem dX4_drawAnew_0 : decode cX4_drawAnew 0 = .ok (.aload_n 0, 1) := by decide +kernel
