set_option maxRecDepth 20000 in
theorem ggX6_init_X4_init : GoodIn wsX6_init wsX4_init := goodIn_r _ [12, 13, 2, 3, 4, 14, 15, 16, 17, 18, 38, 39, 40, 41, 42, 43, 44] (by decide +kernel) (by decide +kernel)
set_option maxRecDepth 20000 in
theorem gX6_init_X4_init_n22 : GoodIn wsX6_init (wsX4_init) := ggX6_init_X4_init
set_option maxRecDepth 20000 in
theorem ggX6_init_X6_beginWith : GoodIn wsX6_init wsX6_beginWith := goodIn_r _ [23, 24, 25, 26, 27, 5, 28, 29, 30, 31, 32, 33, 34, 35, 36, 37] (by decide +kernel) (by decide +kernel)
set_option maxRecDepth 20000 in
theorem gX6_init_X6_beginWith : GoodIn wsX6_init (wsV RX6 23 RX6 yX6_beginWith wsX6_beginWith) := goodIn_app (goodIn_of _ (by decide +kernel)) ggX6_init_X6_beginWith
theorem dX6_init_0 : decode cX6_init 0 = .ok (.aload_n 0, 1) := by decide +kernel
theorem dX6_init_1 : decode cX6_init 1 = .ok (.invokespecial 1, 3) := by decide +kernel
theorem dX6_init_4 : decode cX6_init 4 = .ok (.aload_n 0, 1) := by decide +kernel
theorem dX6_init_5 : decode cX6_init 5 = .ok (.bipush 8, 2) := by decide +kernel
theorem dX6_init_7 : decode cX6_init 7 = .ok (.newarray .int, 2) := by decide +kernel
theorem dX6_init_9 : decode cX6_init 9 = .ok (.putfield 9, 3) := by decide +kernel
theorem dX6_init_12 : decode cX6_init 12 = .ok (.aload_n 0, 1) := by decide +kernel
theorem dX6_init_13 : decode cX6_init 13 = .ok (.bipush 10, 2) := by decide +kernel
theorem dX6_init_15 : decode cX6_init 15 = .ok (.anewarray 13, 3) := by decide +kernel
theorem dX6_init_18 : decode cX6_init 18 = .ok (.putfield 15, 3) := by decide +kernel
theorem dX6_init_21 : decode cX6_init 21 = .ok (.aload_n 0, 1) := by decide +kernel
theorem dX6_init_22 : decode cX6_init 22 = .ok (.iconst 2, 1) := by decide +kernel
theorem dX6_init_23 : decode cX6_init 23 = .ok (.anewarray 13, 3) := by decide +kernel
theorem dX6_init_26 : decode cX6_init 26 = .ok (.putfield 19, 3) := by decide +kernel
theorem dX6_init_29 : decode cX6_init 29 = .ok (.iconst 0, 1) := by decide +kernel
theorem dX6_init_30 : decode cX6_init 30 = .ok (.istore_n 1, 1) := by decide +kernel
theorem dX6_init_31 : decode cX6_init 31 = .ok (.iload_n 1, 1) := by decide +kernel
theorem dX6_init_32 : decode cX6_init 32 = .ok (.bipush 10, 2) := by decide +kernel
theorem dX6_init_34 : decode cX6_init 34 = .ok (.if_icmp .ge 22, 3) := by decide +kernel
theorem dX6_init_37 : decode cX6_init 37 = .ok (.aload_n 0, 1) := by decide +kernel
theorem dX6_init_38 : decode cX6_init 38 = .ok (.getfield 15, 3) := by decide +kernel
theorem dX6_init_41 : decode cX6_init 41 = .ok (.iload_n 1, 1) := by decide +kernel
theorem dX6_init_42 : decode cX6_init 42 = .ok (.new 13, 3) := by decide +kernel
theorem dX6_init_45 : decode cX6_init 45 = .ok (.dup, 1) := by decide +kernel
theorem dX6_init_46 : decode cX6_init 46 = .ok (.invokespecial 22, 3) := by decide +kernel
theorem dX6_init_49 : decode cX6_init 49 = .ok (.aastore, 1) := by decide +kernel
theorem dX6_init_50 : decode cX6_init 50 = .ok (.iinc 1 1, 3) := by decide +kernel
theorem dX6_init_53 : decode cX6_init 53 = .ok (.goto (-22), 3) := by decide +kernel
theorem dX6_init_56 : decode cX6_init 56 = .ok (.iconst 0, 1) := by decide +kernel
theorem dX6_init_57 : decode cX6_init 57 = .ok (.istore_n 1, 1) := by decide +kernel
theorem dX6_init_58 : decode cX6_init 58 = .ok (.iload_n 1, 1) := by decide +kernel
theorem dX6_init_59 : decode cX6_init 59 = .ok (.aload_n 0, 1) := by decide +kernel
theorem dX6_init_60 : decode cX6_init 60 = .ok (.getfield 19, 3) := by decide +kernel
theorem dX6_init_63 : decode cX6_init 63 = .ok (.arraylength, 1) := by decide +kernel
theorem dX6_init_64 : decode cX6_init 64 = .ok (.if_icmp .ge 22, 3) := by decide +kernel
theorem dX6_init_67 : decode cX6_init 67 = .ok (.aload_n 0, 1) := by decide +kernel
theorem dX6_init_68 : decode cX6_init 68 = .ok (.getfield 19, 3) := by decide +kernel
theorem dX6_init_71 : decode cX6_init 71 = .ok (.iload_n 1, 1) := by decide +kernel
theorem dX6_init_72 : decode cX6_init 72 = .ok (.new 13, 3) := by decide +kernel
theorem dX6_init_75 : decode cX6_init 75 = .ok (.dup, 1) := by decide +kernel
theorem dX6_init_76 : decode cX6_init 76 = .ok (.invokespecial 22, 3) := by decide +kernel
theorem dX6_init_79 : decode cX6_init 79 = .ok (.aastore, 1) := by decide +kernel
theorem dX6_init_80 : decode cX6_init 80 = .ok (.iinc 1 1, 3) := by decide +kernel
theorem dX6_init_83 : decode cX6_init 83 = .ok (.goto (-25), 3) := by decide +kernel
theorem dX6_init_86 : decode cX6_init 86 = .ok (.aload_n 0, 1) := by decide +kernel
theorem dX6_init_87 : decode cX6_init 87 = .ok (.iconst 4, 1) := by decide +kernel
theorem dX6_init_88 : decode cX6_init 88 = .ok (.invokevirtual 23, 3) := by decide +kernel
theorem dX6_init_91 : decode cX6_init 91 = .ok (.return_, 1) := by decide +kernel
set_option maxRecDepth 20000 in
theorem ggX6_points_X6_beginWith : GoodIn wsX6_points wsX6_beginWith := goodIn_r _ [6, 7, 1, 8, 9, 10, 11, 12, 13, 14, 15, 16, 17, 18, 19, 20] (by decide +kernel) (by decide +kernel)
set_option maxRecDepth 20000 in
theorem gX6_points_X6_beginWith : GoodIn wsX6_points (wsV RX6 23 RX6 yX6_beginWith wsX6_beginWith) := goodIn_app (goodIn_of _ (by decide +kernel)) ggX6_points_X6_beginWith
theorem dX6_points_0 : decode cX6_points 0 = .ok (.iload_n 1, 1) := by decide +kernel
theorem dX6_points_1 : decode cX6_points 1 = .ok (.iconst 2, 1) := by decide +kernel
theorem dX6_points_2 : decode cX6_points 2 = .ok (.if_icmp .lt 9, 3) := by decide +kernel
theorem dX6_points_5 : decode cX6_points 5 = .ok (.iload_n 1, 1) := by decide +kernel
theorem dX6_points_6 : decode cX6_points 6 = .ok (.bipush 8, 2) := by decide +kernel
theorem dX6_points_8 : decode cX6_points 8 = .ok (.if_icmp .le 6, 3) := by decide +kernel
theorem dX6_points_11 : decode cX6_points 11 = .ok (.bipush (-2), 2) := by decide +kernel
theorem dX6_points_13 : decode cX6_points 13 = .ok (.ireturn, 1) := by decide +kernel
theorem dX6_points_14 : decode cX6_points 14 = .ok (.aload_n 0, 1) := by decide +kernel
theorem dX6_points_15 : decode cX6_points 15 = .ok (.getfield 27, 3) := by decide +kernel
theorem dX6_points_18 : decode cX6_points 18 = .ok (.istore_n 2, 1) := by decide +kernel
theorem dX6_points_19 : decode cX6_points 19 = .ok (.aload_n 0, 1) := by decide +kernel
theorem dX6_points_20 : decode cX6_points 20 = .ok (.iload_n 1, 1) := by decide +kernel
theorem dX6_points_21 : decode cX6_points 21 = .ok (.invokevirtual 23, 3) := by decide +kernel
theorem dX6_points_24 : decode cX6_points 24 = .ok (.iload_n 2, 1) := by decide +kernel
theorem dX6_points_25 : decode cX6_points 25 = .ok (.ireturn, 1) := by decide +kernel
set_option maxRecDepth 20000 in
theorem ggX6_turn_X6_tellsTurn : GoodIn wsX6_turn wsX6_tellsTurn := goodIn_r _ [8, 2, 9, 10, 11, 12, 7, 13, 14, 15, 16, 17, 18, 19, 20, 21, 22, 23, 24, 25, 26] (by decide +kernel) (by decide +kernel)
set_option maxRecDepth 20000 in
theorem gX6_turn_X6_tellsTurn : GoodIn wsX6_turn (wsV RX6 31 RX6 yX6_tellsTurn wsX6_tellsTurn) := goodIn_app (goodIn_of _ (by decide +kernel)) ggX6_turn_X6_tellsTurn
set_option maxRecDepth 20000 in
theorem ggX6_turn_X6_ownBits : GoodIn wsX6_turn wsX6_ownBits := goodIn_r _ [13, 9, 21, 22, 23, 24, 25, 26] (by decide +kernel) (by decide +kernel)
set_option maxRecDepth 20000 in
theorem gX6_turn_X6_ownBits : GoodIn wsX6_turn (wsV RX6 37 RX6 yX6_ownBits wsX6_ownBits) := goodIn_app (goodIn_of _ (by decide +kernel)) ggX6_turn_X6_ownBits
theorem dX6_turn_0 : decode cX6_turn 0 = .ok (.aload_n 0, 1) := by decide +kernel
theorem dX6_turn_1 : decode cX6_turn 1 = .ok (.lload_n 1, 1) := by decide +kernel
theorem dX6_turn_2 : decode cX6_turn 2 = .ok (.invokevirtual 31, 3) := by decide +kernel
theorem dX6_turn_5 : decode cX6_turn 5 = .ok (.ifCond .ne 6, 3) := by decide +kernel
theorem dX6_turn_8 : decode cX6_turn 8 = .ok (.bipush (-2), 2) := by decide +kernel
theorem dX6_turn_10 : decode cX6_turn 10 = .ok (.ireturn, 1) := by decide +kernel
theorem dX6_turn_11 : decode cX6_turn 11 = .ok (.ldc2_w 35, 3) := by decide +kernel
theorem dX6_turn_14 : decode cX6_turn 14 = .ok (.aload_n 0, 1) := by decide +kernel
theorem dX6_turn_15 : decode cX6_turn 15 = .ok (.invokevirtual 37, 3) := by decide +kernel
theorem dX6_turn_18 : decode cX6_turn 18 = .ok (.ldc2_w 41, 3) := by decide +kernel
theorem dX6_turn_21 : decode cX6_turn 21 = .ok (.lxor, 1) := by decide +kernel
theorem dX6_turn_22 : decode cX6_turn 22 = .ok (.land, 1) := by decide +kernel
theorem dX6_turn_23 : decode cX6_turn 23 = .ok (.lstore_n 3, 1) := by decide +kernel
theorem dX6_turn_24 : decode cX6_turn 24 = .ok (.aload_n 0, 1) := by decide +kernel
theorem dX6_turn_25 : decode cX6_turn 25 = .ok (.lload_n 1, 1) := by decide +kernel
theorem dX6_turn_26 : decode cX6_turn 26 = .ok (.lload_n 3, 1) := by decide +kernel
theorem dX6_turn_27 : decode cX6_turn 27 = .ok (.lor, 1) := by decide +kernel
theorem dX6_turn_28 : decode cX6_turn 28 = .ok (.l2i, 1) := by decide +kernel
theorem dX6_turn_29 : decode cX6_turn 29 = .ok (.putfield 43, 3) := by decide +kernel
theorem dX6_turn_32 : decode cX6_turn 32 = .ok (.iconst 1, 1) := by decide +kernel
theorem dX6_turn_33 : decode cX6_turn 33 = .ok (.ireturn, 1) := by decide +kernel
set_option maxRecDepth 20000 in
theorem ggX6_told_X6_ownBits : GoodIn wsX6_told wsX6_ownBits := goodIn_r _ [6, 7, 8, 9, 10, 11, 12, 13] (by decide +kernel) (by decide +kernel)
set_option maxRecDepth 20000 in
theorem gX6_told_X6_ownBits : GoodIn wsX6_told (wsV RX6 37 RX6 yX6_ownBits wsX6_ownBits) := goodIn_app (goodIn_of _ (by decide +kernel)) ggX6_told_X6_ownBits
theorem dX6_told_0 : decode cX6_told 0 = .ok (.aload_n 0, 1) := by decide +kernel
theorem dX6_told_1 : decode cX6_told 1 = .ok (.getfield 43, 3) := by decide +kernel
theorem dX6_told_4 : decode cX6_told 4 = .ok (.i2l, 1) := by decide +kernel
theorem dX6_told_5 : decode cX6_told 5 = .ok (.aload_n 0, 1) := by decide +kernel
theorem dX6_told_6 : decode cX6_told 6 = .ok (.invokevirtual 37, 3) := by decide +kernel
theorem dX6_told_9 : decode cX6_told 9 = .ok (.land, 1) := by decide +kernel
theorem dX6_told_10 : decode cX6_told 10 = .ok (.lreturn, 1) := by decide +kernel
set_option maxRecDepth 20000 in
theorem ggX6_to_X6_isPoint : GoodIn wsX6_to wsX6_isPoint := goodIn_r _ [6, 7, 11, 12, 13, 14, 15, 16] (by decide +kernel) (by decide +kernel)
set_option maxRecDepth 20000 in
theorem gX6_to_X6_isPoint : GoodIn wsX6_to (wsV RX6 46 RX6 yX6_isPoint wsX6_isPoint) := goodIn_app (goodIn_of _ (by decide +kernel)) ggX6_to_X6_isPoint
set_option maxRecDepth 20000 in
theorem ggX6_to_X6_image : GoodIn wsX6_to wsX6_image := goodIn_r _ [10] (by decide +kernel) (by decide +kernel)
set_option maxRecDepth 20000 in
theorem gX6_to_X6_image : GoodIn wsX6_to (va_wsS RX6 50 yX6_image wsX6_image) := goodIn_app (goodIn_of _ (by decide +kernel)) ggX6_to_X6_image
theorem dX6_to_0 : decode cX6_to 0 = .ok (.aload_n 0, 1) := by decide +kernel
theorem dX6_to_1 : decode cX6_to 1 = .ok (.iload_n 1, 1) := by decide +kernel
theorem dX6_to_2 : decode cX6_to 2 = .ok (.invokevirtual 46, 3) := by decide +kernel
theorem dX6_to_5 : decode cX6_to 5 = .ok (.ifCond .eq 14, 3) := by decide +kernel
theorem dX6_to_8 : decode cX6_to 8 = .ok (.aload_n 0, 1) := by decide +kernel
theorem dX6_to_9 : decode cX6_to 9 = .ok (.getfield 43, 3) := by decide +kernel
theorem dX6_to_12 : decode cX6_to 12 = .ok (.iload_n 1, 1) := by decide +kernel
theorem dX6_to_13 : decode cX6_to 13 = .ok (.invokestatic 50, 3) := by decide +kernel
theorem dX6_to_16 : decode cX6_to 16 = .ok (.goto 5, 3) := by decide +kernel
theorem dX6_to_19 : decode cX6_to 19 = .ok (.bipush (-2), 2) := by decide +kernel
theorem dX6_to_21 : decode cX6_to 21 = .ok (.ireturn, 1) := by decide +kernel
set_option maxRecDepth 20000 in
theorem ggX6_lay_X6_isShelfPlace : GoodIn wsX6_lay wsX6_isShelfPlace := goodIn_r _ [6] (by decide +kernel) (by decide +kernel)
set_option maxRecDepth 20000 in
theorem gX6_lay_X6_isShelfPlace : GoodIn wsX6_lay (va_wsS RX6 54 yX6_isShelfPlace wsX6_isShelfPlace) := goodIn_app (goodIn_of _ (by decide +kernel)) ggX6_lay_X6_isShelfPlace
theorem dX6_lay_0 : decode cX6_lay 0 = .ok (.iload_n 1, 1) := by decide +kernel
theorem dX6_lay_1 : decode cX6_lay 1 = .ok (.invokestatic 54, 3) := by decide +kernel
theorem dX6_lay_4 : decode cX6_lay 4 = .ok (.ifCond .ne 6, 3) := by decide +kernel
theorem dX6_lay_7 : decode cX6_lay 7 = .ok (.bipush (-2), 2) := by decide +kernel
theorem dX6_lay_9 : decode cX6_lay 9 = .ok (.ireturn, 1) := by decide +kernel
theorem dX6_lay_10 : decode cX6_lay 10 = .ok (.aload_n 0, 1) := by decide +kernel
theorem dX6_lay_11 : decode cX6_lay 11 = .ok (.getfield 9, 3) := by decide +kernel
theorem dX6_lay_14 : decode cX6_lay 14 = .ok (.iload_n 1, 1) := by decide +kernel
theorem dX6_lay_15 : decode cX6_lay 15 = .ok (.aload_n 0, 1) := by decide +kernel
theorem dX6_lay_16 : decode cX6_lay 16 = .ok (.getfield 43, 3) := by decide +kernel
theorem dX6_lay_19 : decode cX6_lay 19 = .ok (.iastore, 1) := by decide +kernel
theorem dX6_lay_20 : decode cX6_lay 20 = .ok (.iconst 1, 1) := by decide +kernel
theorem dX6_lay_21 : decode cX6_lay 21 = .ok (.ireturn, 1) := by decide +kernel
set_option maxRecDepth 20000 in
theorem ggX6_take_X6_isShelfPlace : GoodIn wsX6_take wsX6_isShelfPlace := goodIn_r _ [6] (by decide +kernel) (by decide +kernel)
set_option maxRecDepth 20000 in
theorem gX6_take_X6_isShelfPlace : GoodIn wsX6_take (va_wsS RX6 54 yX6_isShelfPlace wsX6_isShelfPlace) := goodIn_app (goodIn_of _ (by decide +kernel)) ggX6_take_X6_isShelfPlace
theorem dX6_take_0 : decode cX6_take 0 = .ok (.iload_n 1, 1) := by decide +kernel
theorem dX6_take_1 : decode cX6_take 1 = .ok (.invokestatic 54, 3) := by decide +kernel
theorem dX6_take_4 : decode cX6_take 4 = .ok (.ifCond .ne 6, 3) := by decide +kernel
theorem dX6_take_7 : decode cX6_take 7 = .ok (.bipush (-2), 2) := by decide +kernel
theorem dX6_take_9 : decode cX6_take 9 = .ok (.ireturn, 1) := by decide +kernel
theorem dX6_take_10 : decode cX6_take 10 = .ok (.aload_n 0, 1) := by decide +kernel
theorem dX6_take_11 : decode cX6_take 11 = .ok (.aload_n 0, 1) := by decide +kernel
theorem dX6_take_12 : decode cX6_take 12 = .ok (.getfield 9, 3) := by decide +kernel
theorem dX6_take_15 : decode cX6_take 15 = .ok (.iload_n 1, 1) := by decide +kernel
theorem dX6_take_16 : decode cX6_take 16 = .ok (.iaload, 1) := by decide +kernel
theorem dX6_take_17 : decode cX6_take 17 = .ok (.putfield 43, 3) := by decide +kernel
theorem dX6_take_20 : decode cX6_take 20 = .ok (.iconst 1, 1) := by decide +kernel
theorem dX6_take_21 : decode cX6_take 21 = .ok (.ireturn, 1) := by decide +kernel
set_option maxRecDepth 20000 in
theorem ggX6_then_X6_isShelfPlace : GoodIn wsX6_then wsX6_isShelfPlace := goodIn_r _ [6] (by decide +kernel) (by decide +kernel)
set_option maxRecDepth 20000 in
theorem gX6_then_X6_isShelfPlace : GoodIn wsX6_then (va_wsS RX6 54 yX6_isShelfPlace wsX6_isShelfPlace) := goodIn_app (goodIn_of _ (by decide +kernel)) ggX6_then_X6_isShelfPlace
set_option maxRecDepth 20000 in
theorem ggX6_then_X6_chain : GoodIn wsX6_then wsX6_chain := goodIn_r _ [9] (by decide +kernel) (by decide +kernel)
set_option maxRecDepth 20000 in
theorem gX6_then_X6_chain : GoodIn wsX6_then (va_wsS RX6 57 yX6_chain wsX6_chain) := goodIn_app (goodIn_of _ (by decide +kernel)) ggX6_then_X6_chain
theorem dX6_then_0 : decode cX6_then 0 = .ok (.iload_n 1, 1) := by decide +kernel
theorem dX6_then_1 : decode cX6_then 1 = .ok (.invokestatic 54, 3) := by decide +kernel
theorem dX6_then_4 : decode cX6_then 4 = .ok (.ifCond .ne 6, 3) := by decide +kernel
theorem dX6_then_7 : decode cX6_then 7 = .ok (.bipush (-2), 2) := by decide +kernel
theorem dX6_then_9 : decode cX6_then 9 = .ok (.ireturn, 1) := by decide +kernel
theorem dX6_then_10 : decode cX6_then 10 = .ok (.aload_n 0, 1) := by decide +kernel
theorem dX6_then_11 : decode cX6_then 11 = .ok (.aload_n 0, 1) := by decide +kernel
theorem dX6_then_12 : decode cX6_then 12 = .ok (.getfield 43, 3) := by decide +kernel
theorem dX6_then_15 : decode cX6_then 15 = .ok (.aload_n 0, 1) := by decide +kernel
theorem dX6_then_16 : decode cX6_then 16 = .ok (.getfield 9, 3) := by decide +kernel
theorem dX6_then_19 : decode cX6_then 19 = .ok (.iload_n 1, 1) := by decide +kernel
theorem dX6_then_20 : decode cX6_then 20 = .ok (.iaload, 1) := by decide +kernel
theorem dX6_then_21 : decode cX6_then 21 = .ok (.invokestatic 57, 3) := by decide +kernel
theorem dX6_then_24 : decode cX6_then 24 = .ok (.putfield 43, 3) := by decide +kernel
theorem dX6_then_27 : decode cX6_then 27 = .ok (.iconst 1, 1) := by decide +kernel
theorem dX6_then_28 : decode cX6_then 28 = .ok (.ireturn, 1) := by decide +kernel
set_option maxRecDepth 20000 in
theorem ggX6_back_X6_timesToOne : GoodIn wsX6_back wsX6_timesToOne := goodIn_r _ [5, 6, 7, 8, 4, 9] (by decide +kernel) (by decide +kernel)
set_option maxRecDepth 20000 in
theorem gX6_back_X6_timesToOne : GoodIn wsX6_back (va_wsS RX6 60 yX6_timesToOne wsX6_timesToOne) := goodIn_app (goodIn_of _ (by decide +kernel)) ggX6_back_X6_timesToOne
set_option maxRecDepth 20000 in
theorem ggX6_back_X6_reverse : GoodIn wsX6_back wsX6_reverse := goodIn_r _ [12] (by decide +kernel) (by decide +kernel)
set_option maxRecDepth 20000 in
theorem gX6_back_X6_reverse : GoodIn wsX6_back (va_wsS RX6 64 yX6_reverse wsX6_reverse) := goodIn_app (goodIn_of _ (by decide +kernel)) ggX6_back_X6_reverse
theorem dX6_back_0 : decode cX6_back 0 = .ok (.aload_n 0, 1) := by decide +kernel
theorem dX6_back_1 : decode cX6_back 1 = .ok (.getfield 43, 3) := by decide +kernel
theorem dX6_back_4 : decode cX6_back 4 = .ok (.invokestatic 60, 3) := by decide +kernel
theorem dX6_back_7 : decode cX6_back 7 = .ok (.istore_n 1, 1) := by decide +kernel
theorem dX6_back_8 : decode cX6_back 8 = .ok (.aload_n 0, 1) := by decide +kernel
theorem dX6_back_9 : decode cX6_back 9 = .ok (.aload_n 0, 1) := by decide +kernel
theorem dX6_back_10 : decode cX6_back 10 = .ok (.getfield 43, 3) := by decide +kernel
theorem dX6_back_13 : decode cX6_back 13 = .ok (.invokestatic 64, 3) := by decide +kernel
theorem dX6_back_16 : decode cX6_back 16 = .ok (.putfield 43, 3) := by decide +kernel
theorem dX6_back_19 : decode cX6_back 19 = .ok (.iload_n 1, 1) := by decide +kernel
theorem dX6_back_20 : decode cX6_back 20 = .ok (.ireturn, 1) := by decide +kernel
set_option maxRecDepth 20000 in
theorem ggX6_power_X6_reverse : GoodIn wsX6_power wsX6_reverse := goodIn_r _ [10] (by decide +kernel) (by decide +kernel)
set_option maxRecDepth 20000 in
theorem gX6_power_X6_reverse : GoodIn wsX6_power (va_wsS RX6 64 yX6_reverse wsX6_reverse) := goodIn_app (goodIn_of _ (by decide +kernel)) ggX6_power_X6_reverse
set_option maxRecDepth 20000 in
theorem ggX6_power_X6_chain : GoodIn wsX6_power wsX6_chain := goodIn_r _ [13] (by decide +kernel) (by decide +kernel)
set_option maxRecDepth 20000 in
theorem gX6_power_X6_chain : GoodIn wsX6_power (va_wsS RX6 57 yX6_chain wsX6_chain) := goodIn_app (goodIn_of _ (by decide +kernel)) ggX6_power_X6_chain
set_option maxRecDepth 20000 in
theorem ggX6_power_X6_truth : GoodIn wsX6_power wsX6_truth := goodIn_r _ [16] (by decide +kernel) (by decide +kernel)
set_option maxRecDepth 20000 in
theorem gX6_power_X6_truth : GoodIn wsX6_power (va_wsS RX6 74 yX6_truth wsX6_truth) := goodIn_app (goodIn_of _ (by decide +kernel)) ggX6_power_X6_truth
theorem dX6_power_0 : decode cX6_power 0 = .ok (.iload_n 1, 1) := by decide +kernel
theorem dX6_power_1 : decode cX6_power 1 = .ok (.i2l, 1) := by decide +kernel
theorem dX6_power_2 : decode cX6_power 2 = .ok (.invokestatic 67, 3) := by decide +kernel
theorem dX6_power_5 : decode cX6_power 5 = .ok (.lstore_n 2, 1) := by decide +kernel
theorem dX6_power_6 : decode cX6_power 6 = .ok (.iload_n 1, 1) := by decide +kernel
theorem dX6_power_7 : decode cX6_power 7 = .ok (.ifCond .ge 13, 3) := by decide +kernel
theorem dX6_power_10 : decode cX6_power 10 = .ok (.aload_n 0, 1) := by decide +kernel
theorem dX6_power_11 : decode cX6_power 11 = .ok (.getfield 43, 3) := by decide +kernel
theorem dX6_power_14 : decode cX6_power 14 = .ok (.invokestatic 64, 3) := by decide +kernel
theorem dX6_power_17 : decode cX6_power 17 = .ok (.goto 7, 3) := by decide +kernel
theorem dX6_power_20 : decode cX6_power 20 = .ok (.aload_n 0, 1) := by decide +kernel
theorem dX6_power_21 : decode cX6_power 21 = .ok (.getfield 43, 3) := by decide +kernel
theorem dX6_power_24 : decode cX6_power 24 = .ok (.istore 4, 2) := by decide +kernel
theorem dX6_power_26 : decode cX6_power 26 = .ok (.ldc 73, 2) := by decide +kernel
theorem dX6_power_28 : decode cX6_power 28 = .ok (.istore 5, 2) := by decide +kernel
theorem dX6_power_30 : decode cX6_power 30 = .ok (.lload_n 2, 1) := by decide +kernel
theorem dX6_power_31 : decode cX6_power 31 = .ok (.lstore 6, 2) := by decide +kernel
theorem dX6_power_33 : decode cX6_power 33 = .ok (.lload 6, 2) := by decide +kernel
theorem dX6_power_35 : decode cX6_power 35 = .ok (.lconst 0, 1) := by decide +kernel
theorem dX6_power_36 : decode cX6_power 36 = .ok (.lcmp, 1) := by decide +kernel
theorem dX6_power_37 : decode cX6_power 37 = .ok (.ifCond .le 39, 3) := by decide +kernel
theorem dX6_power_40 : decode cX6_power 40 = .ok (.lload 6, 2) := by decide +kernel
theorem dX6_power_42 : decode cX6_power 42 = .ok (.lconst 1, 1) := by decide +kernel
theorem dX6_power_43 : decode cX6_power 43 = .ok (.land, 1) := by decide +kernel
theorem dX6_power_44 : decode cX6_power 44 = .ok (.lconst 1, 1) := by decide +kernel
theorem dX6_power_45 : decode cX6_power 45 = .ok (.lcmp, 1) := by decide +kernel
theorem dX6_power_46 : decode cX6_power 46 = .ok (.ifCond .ne 12, 3) := by decide +kernel
theorem dX6_power_49 : decode cX6_power 49 = .ok (.iload 5, 2) := by decide +kernel
theorem dX6_power_51 : decode cX6_power 51 = .ok (.iload 4, 2) := by decide +kernel
theorem dX6_power_53 : decode cX6_power 53 = .ok (.invokestatic 57, 3) := by decide +kernel
theorem dX6_power_56 : decode cX6_power 56 = .ok (.istore 5, 2) := by decide +kernel
theorem dX6_power_58 : decode cX6_power 58 = .ok (.iload 4, 2) := by decide +kernel
theorem dX6_power_60 : decode cX6_power 60 = .ok (.iload 4, 2) := by decide +kernel
theorem dX6_power_62 : decode cX6_power 62 = .ok (.invokestatic 57, 3) := by decide +kernel
theorem dX6_power_65 : decode cX6_power 65 = .ok (.istore 4, 2) := by decide +kernel
theorem dX6_power_67 : decode cX6_power 67 = .ok (.lload 6, 2) := by decide +kernel
theorem dX6_power_69 : decode cX6_power 69 = .ok (.iconst 1, 1) := by decide +kernel
theorem dX6_power_70 : decode cX6_power 70 = .ok (.lshr, 1) := by decide +kernel
theorem dX6_power_71 : decode cX6_power 71 = .ok (.lstore 6, 2) := by decide +kernel
theorem dX6_power_73 : decode cX6_power 73 = .ok (.goto (-40), 3) := by decide +kernel
theorem dX6_power_76 : decode cX6_power 76 = .ok (.aload_n 0, 1) := by decide +kernel
theorem dX6_power_77 : decode cX6_power 77 = .ok (.iload 5, 2) := by decide +kernel
theorem dX6_power_79 : decode cX6_power 79 = .ok (.putfield 43, 3) := by decide +kernel
theorem dX6_power_82 : decode cX6_power 82 = .ok (.iload 5, 2) := by decide +kernel
theorem dX6_power_84 : decode cX6_power 84 = .ok (.ldc 73, 2) := by decide +kernel
theorem dX6_power_86 : decode cX6_power 86 = .ok (.if_icmp .ne 7, 3) := by decide +kernel
theorem dX6_power_89 : decode cX6_power 89 = .ok (.iconst 1, 1) := by decide +kernel
theorem dX6_power_90 : decode cX6_power 90 = .ok (.goto 4, 3) := by decide +kernel
theorem dX6_power_93 : decode cX6_power 93 = .ok (.iconst 0, 1) := by decide +kernel
theorem dX6_power_94 : decode cX6_power 94 = .ok (.invokestatic 74, 3) := by decide +kernel
theorem dX6_power_97 : decode cX6_power 97 = .ok (.ireturn, 1) := by decide +kernel
set_option maxRecDepth 20000 in
theorem ggX6_group_X6_isFull : GoodIn wsX6_group wsX6_isFull := goodIn_r _ [7, 2, 63, 64, 65, 66, 67, 68] (by decide +kernel) (by decide +kernel)
set_option maxRecDepth 20000 in
theorem gX6_group_X6_isFull : GoodIn wsX6_group (wsV RX6 78 RX6 yX6_isFull wsX6_isFull) := goodIn_app (goodIn_of _ (by decide +kernel)) ggX6_group_X6_isFull
set_option maxRecDepth 20000 in
theorem ggX6_group_X4_clear : GoodIn wsX6_group wsX4_clear := goodIn_r _ [12, 13, 14, 15, 69, 70, 71, 72, 73, 74, 75] (by decide +kernel) (by decide +kernel)
set_option maxRecDepth 20000 in
theorem gX6_group_X4_clear : GoodIn wsX6_group (wsV RX6 82 RX4 yX4_clear wsX4_clear) := goodIn_app (goodIn_of _ (by decide +kernel)) ggX6_group_X4_clear
set_option maxRecDepth 20000 in
theorem ggX6_group_X6_joinSwaps : GoodIn wsX6_group wsX6_joinSwaps := goodIn_r _ [19, 20, 21, 22, 6, 23, 24, 25, 26, 27, 11, 28, 14, 15, 29, 30, 31, 32, 33, 34, 35, 36, 13, 37, 38, 39, 40, 41, 42, 43, 44, 45, 46, 47, 48, 49, 50, 51, 52, 53, 54, 55, 56, 57, 63, 64, 65, 66, 67, 68, 69, 70, 71, 72, 73, 74, 75] (by decide +kernel) (by decide +kernel)
set_option maxRecDepth 20000 in
theorem gX6_group_X6_joinSwaps : GoodIn wsX6_group (wsV RX6 85 RX6 yX6_joinSwaps wsX6_joinSwaps) := goodIn_app (goodIn_of _ (by decide +kernel)) ggX6_group_X6_joinSwaps
set_option maxRecDepth 20000 in
theorem ggX6_group_X6_joinThreeCycles : GoodIn wsX6_group wsX6_joinThreeCycles := goodIn_r _ [61, 20, 21, 22, 6, 23, 24, 62, 49, 50, 25, 26, 27, 11, 28, 14, 15, 29, 30, 31, 32, 33, 34, 35, 36, 13, 37, 38, 39, 40, 41, 42, 43, 44, 45, 46, 47, 48, 51, 52, 53, 54, 55, 56, 57, 63, 64, 65, 66, 67, 68, 69, 70, 71, 72, 73, 74, 75] (by decide +kernel) (by decide +kernel)
set_option maxRecDepth 20000 in
theorem gX6_group_X6_joinThreeCycles : GoodIn wsX6_group (wsV RX6 89 RX6 yX6_joinThreeCycles wsX6_joinThreeCycles) := goodIn_app (goodIn_of _ (by decide +kernel)) ggX6_group_X6_joinThreeCycles
theorem dX6_group_0 : decode cX6_group 0 = .ok (.iload_n 1, 1) := by decide +kernel
theorem dX6_group_1 : decode cX6_group 1 = .ok (.ifCond .lt 8, 3) := by decide +kernel
theorem dX6_group_4 : decode cX6_group 4 = .ok (.iload_n 1, 1) := by decide +kernel
theorem dX6_group_5 : decode cX6_group 5 = .ok (.iconst 2, 1) := by decide +kernel
theorem dX6_group_6 : decode cX6_group 6 = .ok (.if_icmp .le 6, 3) := by decide +kernel
theorem dX6_group_9 : decode cX6_group 9 = .ok (.bipush (-2), 2) := by decide +kernel
theorem dX6_group_11 : decode cX6_group 11 = .ok (.ireturn, 1) := by decide +kernel
theorem dX6_group_12 : decode cX6_group 12 = .ok (.aload_n 0, 1) := by decide +kernel
theorem dX6_group_13 : decode cX6_group 13 = .ok (.invokevirtual 78, 3) := by decide +kernel
theorem dX6_group_16 : decode cX6_group 16 = .ok (.ifCond .eq 6, 3) := by decide +kernel
theorem dX6_group_19 : decode cX6_group 19 = .ok (.bipush (-3), 2) := by decide +kernel
theorem dX6_group_21 : decode cX6_group 21 = .ok (.ireturn, 1) := by decide +kernel
theorem dX6_group_22 : decode cX6_group 22 = .ok (.aload_n 0, 1) := by decide +kernel
theorem dX6_group_23 : decode cX6_group 23 = .ok (.getfield 15, 3) := by decide +kernel
theorem dX6_group_26 : decode cX6_group 26 = .ok (.aload_n 0, 1) := by decide +kernel
theorem dX6_group_27 : decode cX6_group 27 = .ok (.getfield 27, 3) := by decide +kernel
theorem dX6_group_30 : decode cX6_group 30 = .ok (.aaload, 1) := by decide +kernel
theorem dX6_group_31 : decode cX6_group 31 = .ok (.astore_n 2, 1) := by decide +kernel
theorem dX6_group_32 : decode cX6_group 32 = .ok (.aload_n 2, 1) := by decide +kernel
theorem dX6_group_33 : decode cX6_group 33 = .ok (.invokevirtual 82, 3) := by decide +kernel
theorem dX6_group_36 : decode cX6_group 36 = .ok (.iload_n 1, 1) := by decide +kernel
theorem dX6_group_37 : decode cX6_group 37 = .ok (.iconst 1, 1) := by decide +kernel
theorem dX6_group_38 : decode cX6_group 38 = .ok (.if_icmp .ne 11, 3) := by decide +kernel
theorem dX6_group_41 : decode cX6_group 41 = .ok (.aload_n 0, 1) := by decide +kernel
theorem dX6_group_42 : decode cX6_group 42 = .ok (.aload_n 2, 1) := by decide +kernel
theorem dX6_group_43 : decode cX6_group 43 = .ok (.invokevirtual 85, 3) := by decide +kernel
theorem dX6_group_46 : decode cX6_group 46 = .ok (.goto 13, 3) := by decide +kernel
theorem dX6_group_49 : decode cX6_group 49 = .ok (.iload_n 1, 1) := by decide +kernel
theorem dX6_group_50 : decode cX6_group 50 = .ok (.iconst 2, 1) := by decide +kernel
theorem dX6_group_51 : decode cX6_group 51 = .ok (.if_icmp .ne 8, 3) := by decide +kernel
theorem dX6_group_54 : decode cX6_group 54 = .ok (.aload_n 0, 1) := by decide +kernel
theorem dX6_group_55 : decode cX6_group 55 = .ok (.aload_n 2, 1) := by decide +kernel
theorem dX6_group_56 : decode cX6_group 56 = .ok (.invokevirtual 89, 3) := by decide +kernel
theorem dX6_group_59 : decode cX6_group 59 = .ok (.aload_n 0, 1) := by decide +kernel
theorem dX6_group_60 : decode cX6_group 60 = .ok (.dup, 1) := by decide +kernel
theorem dX6_group_61 : decode cX6_group 61 = .ok (.getfield 27, 3) := by decide +kernel
theorem dX6_group_64 : decode cX6_group 64 = .ok (.dup_x1, 1) := by decide +kernel
theorem dX6_group_65 : decode cX6_group 65 = .ok (.iconst 1, 1) := by decide +kernel
theorem dX6_group_66 : decode cX6_group 66 = .ok (.iadd, 1) := by decide +kernel
theorem dX6_group_67 : decode cX6_group 67 = .ok (.putfield 27, 3) := by decide +kernel
theorem dX6_group_70 : decode cX6_group 70 = .ok (.ireturn, 1) := by decide +kernel
set_option maxRecDepth 20000 in
theorem ggX6_add_X6_isGroup : GoodIn wsX6_add wsX6_isGroup := goodIn_r _ [7, 8, 49, 50, 51, 52, 53, 54] (by decide +kernel) (by decide +kernel)
set_option maxRecDepth 20000 in
theorem gX6_add_X6_isGroup : GoodIn wsX6_add (wsV RX6 92 RX6 yX6_isGroup wsX6_isGroup) := goodIn_app (goodIn_of _ (by decide +kernel)) ggX6_add_X6_isGroup
set_option maxRecDepth 20000 in
theorem ggX6_add_X4_join : GoodIn wsX6_add wsX4_join := goodIn_r _ [13, 14, 15, 16, 17, 18, 19, 12, 20, 21, 22, 23, 24, 25, 26, 6, 27, 28, 29, 30, 31, 32, 33, 34, 35, 36, 37, 38, 39, 40, 41, 42, 43, 44, 45, 55, 56, 57, 58, 59, 60, 61] (by decide +kernel) (by decide +kernel)
set_option maxRecDepth 20000 in
theorem gX6_add_X4_join : GoodIn wsX6_add (wsV RX6 95 RX4 yX4_join wsX4_join) := goodIn_app (goodIn_of _ (by decide +kernel)) ggX6_add_X4_join
set_option maxRecDepth 20000 in
theorem ggX6_add_X6_truth : GoodIn wsX6_add wsX6_truth := goodIn_r _ [48] (by decide +kernel) (by decide +kernel)
set_option maxRecDepth 20000 in
theorem gX6_add_X6_truth : GoodIn wsX6_add (va_wsS RX6 74 yX6_truth wsX6_truth) := goodIn_app (goodIn_of _ (by decide +kernel)) ggX6_add_X6_truth
theorem dX6_add_0 : decode cX6_add 0 = .ok (.aload_n 0, 1) := by decide +kernel
theorem dX6_add_1 : decode cX6_add 1 = .ok (.iload_n 1, 1) := by decide +kernel
theorem dX6_add_2 : decode cX6_add 2 = .ok (.invokevirtual 92, 3) := by decide +kernel
theorem dX6_add_5 : decode cX6_add 5 = .ok (.ifCond .ne 6, 3) := by decide +kernel
theorem dX6_add_8 : decode cX6_add 8 = .ok (.bipush (-2), 2) := by decide +kernel
theorem dX6_add_10 : decode cX6_add 10 = .ok (.ireturn, 1) := by decide +kernel
theorem dX6_add_11 : decode cX6_add 11 = .ok (.aload_n 0, 1) := by decide +kernel
theorem dX6_add_12 : decode cX6_add 12 = .ok (.getfield 15, 3) := by decide +kernel
theorem dX6_add_15 : decode cX6_add 15 = .ok (.iload_n 1, 1) := by decide +kernel
theorem dX6_add_16 : decode cX6_add 16 = .ok (.aaload, 1) := by decide +kernel
theorem dX6_add_17 : decode cX6_add 17 = .ok (.aload_n 0, 1) := by decide +kernel
theorem dX6_add_18 : decode cX6_add 18 = .ok (.getfield 43, 3) := by decide +kernel
theorem dX6_add_21 : decode cX6_add 21 = .ok (.invokevirtual 95, 3) := by decide +kernel
theorem dX6_add_24 : decode cX6_add 24 = .ok (.ifCond .ne 7, 3) := by decide +kernel
theorem dX6_add_27 : decode cX6_add 27 = .ok (.iconst 1, 1) := by decide +kernel
theorem dX6_add_28 : decode cX6_add 28 = .ok (.goto 4, 3) := by decide +kernel
theorem dX6_add_31 : decode cX6_add 31 = .ok (.iconst 0, 1) := by decide +kernel
theorem dX6_add_32 : decode cX6_add 32 = .ok (.invokestatic 74, 3) := by decide +kernel
theorem dX6_add_35 : decode cX6_add 35 = .ok (.ireturn, 1) := by decide +kernel
set_option maxRecDepth 20000 in
theorem ggX6_of_X6_isGroup : GoodIn wsX6_of wsX6_isGroup := goodIn_r _ [10, 2, 130, 131, 132, 133, 134, 135] (by decide +kernel) (by decide +kernel)
set_option maxRecDepth 20000 in
theorem gX6_of_X6_isGroup : GoodIn wsX6_of (wsV RX6 92 RX6 yX6_isGroup wsX6_isGroup) := goodIn_app (goodIn_of _ (by decide +kernel)) ggX6_of_X6_isGroup
set_option maxRecDepth 20000 in
theorem ggX6_of_X6_isFull : GoodIn wsX6_of wsX6_isFull := goodIn_r _ [14, 2, 130, 131, 132, 133, 134, 135] (by decide +kernel) (by decide +kernel)
set_option maxRecDepth 20000 in
theorem gX6_of_X6_isFull : GoodIn wsX6_of (wsV RX6 78 RX6 yX6_isFull wsX6_isFull) := goodIn_app (goodIn_of _ (by decide +kernel)) ggX6_of_X6_isFull
set_option maxRecDepth 20000 in
theorem ggX6_of_X3_init : GoodIn wsX6_of wsX3_init := goodIn_r _ [17, 18, 19, 20, 21, 22, 23, 24, 136] (by decide +kernel) (by decide +kernel)
set_option maxRecDepth 20000 in
theorem gX6_of_X3_init : GoodIn wsX6_of (wsX3_init) := ggX6_of_X3_init
set_option maxRecDepth 20000 in
theorem ggX6_of_X4_gather : GoodIn wsX6_of wsX4_gather := goodIn_r _ [29, 30, 31, 32, 28, 33, 34, 35, 36, 37, 38, 39, 40, 41, 42, 43, 44, 45, 46, 47, 48, 49, 50, 51, 52, 53, 54, 55, 56, 57, 9, 58, 59, 60, 61, 62, 63, 64, 65, 66, 67, 68, 69, 70, 71, 72, 73, 5, 74, 18, 75, 76, 77, 78, 79, 80, 81, 82, 83, 84, 85, 86, 87, 88, 89, 90, 91, 92, 93, 94, 95, 96, 97, 98, 99, 100, 101, 102, 103, 104, 105, 106, 107, 108, 109, 137, 138, 139, 140, 141, 142, 143, 144, 145, 146, 147, 136] (by decide +kernel) (by decide +kernel)
set_option maxRecDepth 20000 in
theorem gX6_of_X4_gather : GoodIn wsX6_of (wsV RX6 102 RX4 yX4_gather wsX4_gather) := goodIn_app (goodIn_of _ (by decide +kernel)) ggX6_of_X4_gather
set_option maxRecDepth 20000 in
theorem ggX6_of_X4_copyFrom : GoodIn wsX6_of wsX4_copyFrom := goodIn_r _ [113, 45, 114, 115, 116, 117, 79, 34, 102, 96, 35, 36, 137, 138, 139, 140, 141, 142, 143] (by decide +kernel) (by decide +kernel)
set_option maxRecDepth 20000 in
theorem gX6_of_X4_copyFrom : GoodIn wsX6_of (wsV RX6 106 RX4 yX4_copyFrom wsX4_copyFrom) := goodIn_app (goodIn_of _ (by decide +kernel)) ggX6_of_X4_copyFrom
set_option maxRecDepth 20000 in
theorem ggX6_of_X4_joinAll : GoodIn wsX6_of wsX4_joinAll := goodIn_r _ [121, 36, 96, 92, 93, 94, 28, 95, 35, 97, 98, 99, 100, 101, 45, 79, 34, 102, 57, 9, 58, 46, 47, 48, 37, 38, 39, 40, 86, 87, 80, 81, 103, 104, 105, 106, 107, 108, 109, 137, 138, 139, 140, 141, 142, 143] (by decide +kernel) (by decide +kernel)
set_option maxRecDepth 20000 in
theorem gX6_of_X4_joinAll : GoodIn wsX6_of (wsV RX6 109 RX4 yX4_joinAll wsX4_joinAll) := goodIn_app (goodIn_of _ (by decide +kernel)) ggX6_of_X4_joinAll
set_option maxRecDepth 20000 in
theorem ggX6_of_X4_closeUnder : GoodIn wsX6_of wsX4_closeUnder := goodIn_r _ [125, 36, 96, 126, 9, 127, 128, 86, 87, 129, 80, 81, 92, 93, 94, 28, 95, 35, 97, 98, 99, 100, 101, 45, 79, 34, 102, 57, 58, 46, 47, 48, 37, 38, 39, 40, 103, 104, 105, 106, 107, 108, 109, 137, 138, 139, 140, 141, 142, 143] (by decide +kernel) (by decide +kernel)
set_option maxRecDepth 20000 in
theorem gX6_of_X4_closeUnder : GoodIn wsX6_of (wsV RX6 112 RX4 yX4_closeUnder wsX4_closeUnder) := goodIn_app (goodIn_of _ (by decide +kernel)) ggX6_of_X4_closeUnder
theorem dX6_of_0 : decode cX6_of 0 = .ok (.iload_n 1, 1) := by decide +kernel
theorem dX6_of_1 : decode cX6_of 1 = .ok (.ifCond .lt 24, 3) := by decide +kernel
theorem dX6_of_4 : decode cX6_of 4 = .ok (.iload_n 1, 1) := by decide +kernel
theorem dX6_of_5 : decode cX6_of 5 = .ok (.iconst 2, 1) := by decide +kernel
theorem dX6_of_6 : decode cX6_of 6 = .ok (.if_icmp .gt 19, 3) := by decide +kernel
theorem dX6_of_9 : decode cX6_of 9 = .ok (.aload_n 0, 1) := by decide +kernel
theorem dX6_of_10 : decode cX6_of 10 = .ok (.iload_n 2, 1) := by decide +kernel
theorem dX6_of_11 : decode cX6_of 11 = .ok (.invokevirtual 92, 3) := by decide +kernel
theorem dX6_of_14 : decode cX6_of 14 = .ok (.ifCond .eq 11, 3) := by decide +kernel
theorem dX6_of_17 : decode cX6_of 17 = .ok (.aload_n 0, 1) := by decide +kernel
theorem dX6_of_18 : decode cX6_of 18 = .ok (.iload_n 3, 1) := by decide +kernel
theorem dX6_of_19 : decode cX6_of 19 = .ok (.invokevirtual 92, 3) := by decide +kernel
theorem dX6_of_22 : decode cX6_of 22 = .ok (.ifCond .ne 6, 3) := by decide +kernel
theorem dX6_of_25 : decode cX6_of 25 = .ok (.bipush (-2), 2) := by decide +kernel
theorem dX6_of_27 : decode cX6_of 27 = .ok (.ireturn, 1) := by decide +kernel
theorem dX6_of_28 : decode cX6_of 28 = .ok (.aload_n 0, 1) := by decide +kernel
theorem dX6_of_29 : decode cX6_of 29 = .ok (.invokevirtual 78, 3) := by decide +kernel
theorem dX6_of_32 : decode cX6_of 32 = .ok (.ifCond .eq 6, 3) := by decide +kernel
theorem dX6_of_35 : decode cX6_of 35 = .ok (.bipush (-3), 2) := by decide +kernel
theorem dX6_of_37 : decode cX6_of 37 = .ok (.ireturn, 1) := by decide +kernel
theorem dX6_of_38 : decode cX6_of 38 = .ok (.aload_n 0, 1) := by decide +kernel
theorem dX6_of_39 : decode cX6_of 39 = .ok (.getfield 15, 3) := by decide +kernel
theorem dX6_of_42 : decode cX6_of 42 = .ok (.aload_n 0, 1) := by decide +kernel
theorem dX6_of_43 : decode cX6_of 43 = .ok (.getfield 27, 3) := by decide +kernel
theorem dX6_of_46 : decode cX6_of 46 = .ok (.aaload, 1) := by decide +kernel
theorem dX6_of_47 : decode cX6_of 47 = .ok (.astore 4, 2) := by decide +kernel
theorem dX6_of_49 : decode cX6_of 49 = .ok (.iload_n 1, 1) := by decide +kernel
theorem dX6_of_50 : decode cX6_of 50 = .ok (.iconst 1, 1) := by decide +kernel
theorem dX6_of_51 : decode cX6_of 51 = .ok (.if_icmp .ne 30, 3) := by decide +kernel
theorem dX6_of_54 : decode cX6_of 54 = .ok (.aload 4, 2) := by decide +kernel
theorem dX6_of_56 : decode cX6_of 56 = .ok (.aload_n 0, 1) := by decide +kernel
theorem dX6_of_57 : decode cX6_of 57 = .ok (.getfield 15, 3) := by decide +kernel
theorem dX6_of_60 : decode cX6_of 60 = .ok (.iload_n 2, 1) := by decide +kernel
theorem dX6_of_61 : decode cX6_of 61 = .ok (.aaload, 1) := by decide +kernel
theorem dX6_of_62 : decode cX6_of 62 = .ok (.new 98, 3) := by decide +kernel
theorem dX6_of_65 : decode cX6_of 65 = .ok (.dup, 1) := by decide +kernel
theorem dX6_of_66 : decode cX6_of 66 = .ok (.aload_n 0, 1) := by decide +kernel
theorem dX6_of_67 : decode cX6_of 67 = .ok (.getfield 15, 3) := by decide +kernel
theorem dX6_of_70 : decode cX6_of 70 = .ok (.iload_n 3, 1) := by decide +kernel
theorem dX6_of_71 : decode cX6_of 71 = .ok (.aaload, 1) := by decide +kernel
theorem dX6_of_72 : decode cX6_of 72 = .ok (.invokespecial 100, 3) := by decide +kernel
theorem dX6_of_75 : decode cX6_of 75 = .ok (.invokevirtual 102, 3) := by decide +kernel
theorem dX6_of_78 : decode cX6_of 78 = .ok (.goto 43, 3) := by decide +kernel
theorem dX6_of_81 : decode cX6_of 81 = .ok (.aload 4, 2) := by decide +kernel
theorem dX6_of_83 : decode cX6_of 83 = .ok (.aload_n 0, 1) := by decide +kernel
theorem dX6_of_84 : decode cX6_of 84 = .ok (.getfield 15, 3) := by decide +kernel
theorem dX6_of_87 : decode cX6_of 87 = .ok (.iload_n 2, 1) := by decide +kernel
theorem dX6_of_88 : decode cX6_of 88 = .ok (.aaload, 1) := by decide +kernel
theorem dX6_of_89 : decode cX6_of 89 = .ok (.invokevirtual 106, 3) := by decide +kernel
theorem dX6_of_92 : decode cX6_of 92 = .ok (.iload_n 1, 1) := by decide +kernel
theorem dX6_of_93 : decode cX6_of 93 = .ok (.ifCond .ne 17, 3) := by decide +kernel
theorem dX6_of_96 : decode cX6_of 96 = .ok (.aload 4, 2) := by decide +kernel
theorem dX6_of_98 : decode cX6_of 98 = .ok (.aload_n 0, 1) := by decide +kernel
theorem dX6_of_99 : decode cX6_of 99 = .ok (.getfield 15, 3) := by decide +kernel
theorem dX6_of_102 : decode cX6_of 102 = .ok (.iload_n 3, 1) := by decide +kernel
theorem dX6_of_103 : decode cX6_of 103 = .ok (.aaload, 1) := by decide +kernel
theorem dX6_of_104 : decode cX6_of 104 = .ok (.invokevirtual 109, 3) := by decide +kernel
theorem dX6_of_107 : decode cX6_of 107 = .ok (.goto 14, 3) := by decide +kernel
theorem dX6_of_110 : decode cX6_of 110 = .ok (.aload 4, 2) := by decide +kernel
theorem dX6_of_112 : decode cX6_of 112 = .ok (.aload_n 0, 1) := by decide +kernel
theorem dX6_of_113 : decode cX6_of 113 = .ok (.getfield 15, 3) := by decide +kernel
theorem dX6_of_116 : decode cX6_of 116 = .ok (.iload_n 3, 1) := by decide +kernel
theorem dX6_of_117 : decode cX6_of 117 = .ok (.aaload, 1) := by decide +kernel
theorem dX6_of_118 : decode cX6_of 118 = .ok (.invokevirtual 112, 3) := by decide +kernel
theorem dX6_of_121 : decode cX6_of 121 = .ok (.aload_n 0, 1) := by decide +kernel
theorem dX6_of_122 : decode cX6_of 122 = .ok (.dup, 1) := by decide +kernel
theorem dX6_of_123 : decode cX6_of 123 = .ok (.getfield 27, 3) := by decide +kernel
theorem dX6_of_126 : decode cX6_of 126 = .ok (.dup_x1, 1) := by decide +kernel
theorem dX6_of_127 : decode cX6_of 127 = .ok (.iconst 1, 1) := by decide +kernel
theorem dX6_of_128 : decode cX6_of 128 = .ok (.iadd, 1) := by decide +kernel
theorem dX6_of_129 : decode cX6_of 129 = .ok (.putfield 27, 3) := by decide +kernel
theorem dX6_of_132 : decode cX6_of 132 = .ok (.ireturn, 1) := by decide +kernel
set_option maxRecDepth 20000 in
theorem ggX6_by_X6_isGroup : GoodIn wsX6_by wsX6_isGroup := goodIn_r _ [13, 8, 123, 124, 125, 126, 127, 128] (by decide +kernel) (by decide +kernel)
set_option maxRecDepth 20000 in
theorem gX6_by_X6_isGroup : GoodIn wsX6_by (wsV RX6 92 RX6 yX6_isGroup wsX6_isGroup) := goodIn_app (goodIn_of _ (by decide +kernel)) ggX6_by_X6_isGroup
set_option maxRecDepth 20000 in
theorem ggX6_by_X6_isSet : GoodIn wsX6_by wsX6_isSet := goodIn_r _ [17, 18, 123, 124, 125, 126, 127, 128] (by decide +kernel) (by decide +kernel)
set_option maxRecDepth 20000 in
theorem gX6_by_X6_isSet : GoodIn wsX6_by (wsV RX6 115 RX6 yX6_isSet wsX6_isSet) := goodIn_app (goodIn_of _ (by decide +kernel)) ggX6_by_X6_isSet
set_option maxRecDepth 20000 in
theorem ggX6_by_X6_isFull : GoodIn wsX6_by wsX6_isFull := goodIn_r _ [22, 8, 123, 124, 125, 126, 127, 128] (by decide +kernel) (by decide +kernel)
set_option maxRecDepth 20000 in
theorem gX6_by_X6_isFull : GoodIn wsX6_by (wsV RX6 78 RX6 yX6_isFull wsX6_isFull) := goodIn_app (goodIn_of _ (by decide +kernel)) ggX6_by_X6_isFull
set_option maxRecDepth 20000 in
theorem ggX6_by_X2_init : GoodIn wsX6_by wsX2_init := goodIn_r _ [25, 26, 27, 28, 29, 30, 31, 32, 120] (by decide +kernel) (by decide +kernel)
set_option maxRecDepth 20000 in
theorem gX6_by_X2_init : GoodIn wsX6_by (wsX2_init) := ggX6_by_X2_init
set_option maxRecDepth 20000 in
theorem ggX6_by_X0_init : GoodIn wsX6_by wsX0_init := goodIn_r _ [35, 36, 37, 27, 28, 29, 30, 31, 32, 121, 122] (by decide +kernel) (by decide +kernel)
set_option maxRecDepth 20000 in
theorem gX6_by_X0_init : GoodIn wsX6_by (wsX0_init) := ggX6_by_X0_init
set_option maxRecDepth 20000 in
theorem ggX6_by_X4_gather : GoodIn wsX6_by wsX4_gather := goodIn_r _ [42, 43, 44, 45, 41, 46, 47, 48, 49, 50, 51, 52, 53, 54, 55, 56, 57, 58, 59, 60, 61, 62, 63, 64, 65, 6, 66, 36, 37, 67, 12, 68, 69, 70, 71, 72, 73, 74, 75, 76, 77, 78, 3, 79, 26, 80, 81, 82, 83, 84, 85, 86, 87, 88, 89, 90, 91, 92, 93, 94, 95, 96, 97, 98, 99, 100, 101, 102, 103, 104, 105, 106, 107, 108, 109, 110, 111, 112, 113, 114, 115, 116, 117, 118, 119, 129, 130, 131, 132, 133, 134, 135, 121, 122, 136, 120, 137] (by decide +kernel) (by decide +kernel)
set_option maxRecDepth 20000 in
theorem gX6_by_X4_gather : GoodIn wsX6_by (wsV RX6 102 RX4 yX4_gather wsX4_gather) := goodIn_app (goodIn_of _ (by decide +kernel)) ggX6_by_X4_gather
theorem dX6_by_0 : decode cX6_by 0 = .ok (.iload_n 1, 1) := by decide +kernel
theorem dX6_by_1 : decode cX6_by 1 = .ok (.ifCond .lt 24, 3) := by decide +kernel
theorem dX6_by_4 : decode cX6_by 4 = .ok (.iload_n 1, 1) := by decide +kernel
theorem dX6_by_5 : decode cX6_by 5 = .ok (.iconst 1, 1) := by decide +kernel
theorem dX6_by_6 : decode cX6_by 6 = .ok (.if_icmp .gt 19, 3) := by decide +kernel
theorem dX6_by_9 : decode cX6_by 9 = .ok (.aload_n 0, 1) := by decide +kernel
theorem dX6_by_10 : decode cX6_by 10 = .ok (.iload_n 2, 1) := by decide +kernel
theorem dX6_by_11 : decode cX6_by 11 = .ok (.invokevirtual 92, 3) := by decide +kernel
theorem dX6_by_14 : decode cX6_by 14 = .ok (.ifCond .eq 11, 3) := by decide +kernel
theorem dX6_by_17 : decode cX6_by 17 = .ok (.aload_n 0, 1) := by decide +kernel
theorem dX6_by_18 : decode cX6_by 18 = .ok (.iload_n 3, 1) := by decide +kernel
theorem dX6_by_19 : decode cX6_by 19 = .ok (.invokevirtual 115, 3) := by decide +kernel
theorem dX6_by_22 : decode cX6_by 22 = .ok (.ifCond .ne 6, 3) := by decide +kernel
theorem dX6_by_25 : decode cX6_by 25 = .ok (.bipush (-2), 2) := by decide +kernel
theorem dX6_by_27 : decode cX6_by 27 = .ok (.ireturn, 1) := by decide +kernel
theorem dX6_by_28 : decode cX6_by 28 = .ok (.aload_n 0, 1) := by decide +kernel
theorem dX6_by_29 : decode cX6_by 29 = .ok (.invokevirtual 78, 3) := by decide +kernel
theorem dX6_by_32 : decode cX6_by 32 = .ok (.ifCond .eq 6, 3) := by decide +kernel
theorem dX6_by_35 : decode cX6_by 35 = .ok (.bipush (-3), 2) := by decide +kernel
theorem dX6_by_37 : decode cX6_by 37 = .ok (.ireturn, 1) := by decide +kernel
theorem dX6_by_38 : decode cX6_by 38 = .ok (.iload_n 1, 1) := by decide +kernel
theorem dX6_by_39 : decode cX6_by 39 = .ok (.ifCond .ne 14, 3) := by decide +kernel
theorem dX6_by_42 : decode cX6_by 42 = .ok (.new 118, 3) := by decide +kernel
theorem dX6_by_45 : decode cX6_by 45 = .ok (.dup, 1) := by decide +kernel
theorem dX6_by_46 : decode cX6_by 46 = .ok (.iload_n 3, 1) := by decide +kernel
theorem dX6_by_47 : decode cX6_by 47 = .ok (.invokespecial 120, 3) := by decide +kernel
theorem dX6_by_50 : decode cX6_by 50 = .ok (.goto 12, 3) := by decide +kernel
theorem dX6_by_53 : decode cX6_by 53 = .ok (.new 122, 3) := by decide +kernel
theorem dX6_by_56 : decode cX6_by 56 = .ok (.dup, 1) := by decide +kernel
theorem dX6_by_57 : decode cX6_by 57 = .ok (.iload_n 3, 1) := by decide +kernel
theorem dX6_by_58 : decode cX6_by 58 = .ok (.iload_n 3, 1) := by decide +kernel
theorem dX6_by_59 : decode cX6_by 59 = .ok (.invokespecial 124, 3) := by decide +kernel
theorem dX6_by_62 : decode cX6_by 62 = .ok (.astore 4, 2) := by decide +kernel
theorem dX6_by_64 : decode cX6_by 64 = .ok (.aload_n 0, 1) := by decide +kernel
theorem dX6_by_65 : decode cX6_by 65 = .ok (.getfield 15, 3) := by decide +kernel
theorem dX6_by_68 : decode cX6_by 68 = .ok (.aload_n 0, 1) := by decide +kernel
theorem dX6_by_69 : decode cX6_by 69 = .ok (.getfield 27, 3) := by decide +kernel
theorem dX6_by_72 : decode cX6_by 72 = .ok (.aaload, 1) := by decide +kernel
theorem dX6_by_73 : decode cX6_by 73 = .ok (.aload_n 0, 1) := by decide +kernel
theorem dX6_by_74 : decode cX6_by 74 = .ok (.getfield 15, 3) := by decide +kernel
theorem dX6_by_77 : decode cX6_by 77 = .ok (.iload_n 2, 1) := by decide +kernel
theorem dX6_by_78 : decode cX6_by 78 = .ok (.aaload, 1) := by decide +kernel
theorem dX6_by_79 : decode cX6_by 79 = .ok (.aload 4, 2) := by decide +kernel
theorem dX6_by_81 : decode cX6_by 81 = .ok (.invokevirtual 102, 3) := by decide +kernel
theorem dX6_by_84 : decode cX6_by 84 = .ok (.aload_n 0, 1) := by decide +kernel
theorem dX6_by_85 : decode cX6_by 85 = .ok (.dup, 1) := by decide +kernel
theorem dX6_by_86 : decode cX6_by 86 = .ok (.getfield 27, 3) := by decide +kernel
theorem dX6_by_89 : decode cX6_by 89 = .ok (.dup_x1, 1) := by decide +kernel
theorem dX6_by_90 : decode cX6_by 90 = .ok (.iconst 1, 1) := by decide +kernel
theorem dX6_by_91 : decode cX6_by 91 = .ok (.iadd, 1) := by decide +kernel
theorem dX6_by_92 : decode cX6_by 92 = .ok (.putfield 27, 3) := by decide +kernel
theorem dX6_by_95 : decode cX6_by 95 = .ok (.ireturn, 1) := by decide +kernel
set_option maxRecDepth 20000 in
theorem ggX6_made_X6_isGroup : GoodIn wsX6_made wsX6_isGroup := goodIn_r _ [12, 2, 132, 133, 134, 135, 136, 137] (by decide +kernel) (by decide +kernel)
set_option maxRecDepth 20000 in
theorem gX6_made_X6_isGroup : GoodIn wsX6_made (wsV RX6 92 RX6 yX6_isGroup wsX6_isGroup) := goodIn_app (goodIn_of _ (by decide +kernel)) ggX6_made_X6_isGroup
set_option maxRecDepth 20000 in
theorem ggX6_made_X6_isFull : GoodIn wsX6_made wsX6_isFull := goodIn_r _ [16, 2, 132, 133, 134, 135, 136, 137] (by decide +kernel) (by decide +kernel)
set_option maxRecDepth 20000 in
theorem gX6_made_X6_isFull : GoodIn wsX6_made (wsV RX6 78 RX6 yX6_isFull wsX6_isFull) := goodIn_app (goodIn_of _ (by decide +kernel)) ggX6_made_X6_isFull
set_option maxRecDepth 20000 in
theorem ggX6_made_X4_clear : GoodIn wsX6_made wsX4_clear := goodIn_r _ [21, 22, 23, 24, 139, 140, 141, 142, 143, 144, 145] (by decide +kernel) (by decide +kernel)
set_option maxRecDepth 20000 in
theorem gX6_made_X4_clear : GoodIn wsX6_made (wsV RX6 82 RX4 yX4_clear wsX4_clear) := goodIn_app (goodIn_of _ (by decide +kernel)) ggX6_made_X4_clear
set_option maxRecDepth 20000 in
theorem ggX6_made_X4_join : GoodIn wsX6_made wsX4_join := goodIn_r _ [28, 23, 24, 29, 30, 31, 32, 20, 33, 34, 35, 36, 22, 37, 38, 11, 39, 40, 41, 42, 43, 44, 45, 46, 47, 48, 49, 50, 51, 52, 53, 54, 55, 56, 57, 139, 140, 141, 142, 143, 144, 145] (by decide +kernel) (by decide +kernel)
set_option maxRecDepth 20000 in
theorem gX6_made_X4_join : GoodIn wsX6_made (wsV RX6 95 RX4 yX4_join wsX4_join) := goodIn_app (goodIn_of _ (by decide +kernel)) ggX6_made_X4_join
set_option maxRecDepth 20000 in
theorem ggX6_made_X1_init : GoodIn wsX6_made wsX1_init := goodIn_r _ [60, 61, 62, 63, 64, 65, 66, 67, 138] (by decide +kernel) (by decide +kernel)
set_option maxRecDepth 20000 in
theorem gX6_made_X1_init : GoodIn wsX6_made (wsX1_init) := ggX6_made_X1_init
set_option maxRecDepth 20000 in
theorem ggX6_made_X4_gather : GoodIn wsX6_made wsX4_gather := goodIn_r _ [71, 72, 18, 19, 20, 21, 22, 23, 24, 43, 44, 45, 46, 73, 74, 75, 76, 35, 40, 41, 42, 77, 78, 79, 80, 81, 82, 83, 84, 38, 11, 39, 85, 86, 7, 87, 61, 88, 89, 90, 91, 92, 93, 94, 95, 96, 97, 98, 99, 100, 101, 102, 103, 104, 36, 49, 50, 105, 106, 107, 108, 47, 48, 109, 110, 111, 112, 113, 26, 27, 28, 29, 30, 31, 32, 33, 34, 37, 51, 52, 53, 54, 55, 56, 57, 139, 140, 141, 142, 143, 144, 145, 146, 147, 138, 148, 149] (by decide +kernel) (by decide +kernel)
set_option maxRecDepth 20000 in
theorem gX6_made_X4_gather : GoodIn wsX6_made (wsV RX6 102 RX4 yX4_gather wsX4_gather) := goodIn_app (goodIn_of _ (by decide +kernel)) ggX6_made_X4_gather
set_option maxRecDepth 20000 in
theorem ggX6_made_X4_becomeCarried : GoodIn wsX6_made wsX4_becomeCarried := goodIn_r _ [117, 24, 29, 72, 18, 19, 20, 21, 22, 23, 118, 11, 119, 120, 47, 48, 121, 49, 50, 113, 26, 27, 28, 30, 31, 32, 33, 34, 35, 36, 37, 38, 39, 40, 41, 42, 43, 44, 45, 46, 51, 52, 53, 54, 55, 56, 57, 139, 140, 141, 142, 143, 144, 145] (by decide +kernel) (by decide +kernel)
set_option maxRecDepth 20000 in
theorem gX6_made_X4_becomeCarried : GoodIn wsX6_made (wsV RX6 130 RX4 yX4_becomeCarried wsX4_becomeCarried) := goodIn_app (goodIn_of _ (by decide +kernel)) ggX6_made_X4_becomeCarried
set_option maxRecDepth 20000 in
theorem ggX6_made_X4_becomeDown : GoodIn wsX6_made wsX4_becomeDown := goodIn_r _ [125, 24, 29, 72, 18, 19, 20, 21, 22, 23, 126, 11, 127, 120, 47, 48, 121, 49, 50, 113, 26, 27, 28, 30, 31, 32, 33, 34, 35, 36, 37, 38, 39, 40, 41, 42, 43, 44, 45, 46, 51, 52, 53, 54, 55, 56, 57, 128, 129, 130, 131, 118, 119, 139, 140, 141, 142, 143, 144, 145] (by decide +kernel) (by decide +kernel)
set_option maxRecDepth 20000 in
theorem gX6_made_X4_becomeDown : GoodIn wsX6_made (wsV RX6 134 RX4 yX4_becomeDown wsX4_becomeDown) := goodIn_app (goodIn_of _ (by decide +kernel)) ggX6_made_X4_becomeDown
theorem dX6_made_0 : decode cX6_made 0 = .ok (.iload_n 1, 1) := by decide +kernel
theorem dX6_made_1 : decode cX6_made 1 = .ok (.ifCond .lt 16, 3) := by decide +kernel
theorem dX6_made_4 : decode cX6_made 4 = .ok (.iload_n 1, 1) := by decide +kernel
theorem dX6_made_5 : decode cX6_made 5 = .ok (.iconst 3, 1) := by decide +kernel
theorem dX6_made_6 : decode cX6_made 6 = .ok (.if_icmp .gt 11, 3) := by decide +kernel
theorem dX6_made_9 : decode cX6_made 9 = .ok (.aload_n 0, 1) := by decide +kernel
theorem dX6_made_10 : decode cX6_made 10 = .ok (.iload_n 2, 1) := by decide +kernel
theorem dX6_made_11 : decode cX6_made 11 = .ok (.invokevirtual 92, 3) := by decide +kernel
theorem dX6_made_14 : decode cX6_made 14 = .ok (.ifCond .ne 6, 3) := by decide +kernel
theorem dX6_made_17 : decode cX6_made 17 = .ok (.bipush (-2), 2) := by decide +kernel
theorem dX6_made_19 : decode cX6_made 19 = .ok (.ireturn, 1) := by decide +kernel
theorem dX6_made_20 : decode cX6_made 20 = .ok (.aload_n 0, 1) := by decide +kernel
theorem dX6_made_21 : decode cX6_made 21 = .ok (.invokevirtual 78, 3) := by decide +kernel
theorem dX6_made_24 : decode cX6_made 24 = .ok (.ifCond .eq 6, 3) := by decide +kernel
theorem dX6_made_27 : decode cX6_made 27 = .ok (.bipush (-3), 2) := by decide +kernel
theorem dX6_made_29 : decode cX6_made 29 = .ok (.ireturn, 1) := by decide +kernel
theorem dX6_made_30 : decode cX6_made 30 = .ok (.aload_n 0, 1) := by decide +kernel
theorem dX6_made_31 : decode cX6_made 31 = .ok (.getfield 15, 3) := by decide +kernel
theorem dX6_made_34 : decode cX6_made 34 = .ok (.aload_n 0, 1) := by decide +kernel
theorem dX6_made_35 : decode cX6_made 35 = .ok (.getfield 27, 3) := by decide +kernel
theorem dX6_made_38 : decode cX6_made 38 = .ok (.aaload, 1) := by decide +kernel
theorem dX6_made_39 : decode cX6_made 39 = .ok (.astore_n 3, 1) := by decide +kernel
theorem dX6_made_40 : decode cX6_made 40 = .ok (.iload_n 1, 1) := by decide +kernel
theorem dX6_made_41 : decode cX6_made 41 = .ok (.ifCond .ne 52, 3) := by decide +kernel
theorem dX6_made_44 : decode cX6_made 44 = .ok (.aload_n 0, 1) := by decide +kernel
theorem dX6_made_45 : decode cX6_made 45 = .ok (.getfield 19, 3) := by decide +kernel
theorem dX6_made_48 : decode cX6_made 48 = .ok (.iconst 0, 1) := by decide +kernel
theorem dX6_made_49 : decode cX6_made 49 = .ok (.aaload, 1) := by decide +kernel
theorem dX6_made_50 : decode cX6_made 50 = .ok (.invokevirtual 82, 3) := by decide +kernel
theorem dX6_made_53 : decode cX6_made 53 = .ok (.aload_n 0, 1) := by decide +kernel
theorem dX6_made_54 : decode cX6_made 54 = .ok (.getfield 19, 3) := by decide +kernel
theorem dX6_made_57 : decode cX6_made 57 = .ok (.iconst 0, 1) := by decide +kernel
theorem dX6_made_58 : decode cX6_made 58 = .ok (.aaload, 1) := by decide +kernel
theorem dX6_made_59 : decode cX6_made 59 = .ok (.aload_n 0, 1) := by decide +kernel
theorem dX6_made_60 : decode cX6_made 60 = .ok (.getfield 43, 3) := by decide +kernel
theorem dX6_made_63 : decode cX6_made 63 = .ok (.invokevirtual 95, 3) := by decide +kernel
theorem dX6_made_66 : decode cX6_made 66 = .ok (.pop, 1) := by decide +kernel
theorem dX6_made_67 : decode cX6_made 67 = .ok (.aload_n 3, 1) := by decide +kernel
theorem dX6_made_68 : decode cX6_made 68 = .ok (.aload_n 0, 1) := by decide +kernel
theorem dX6_made_69 : decode cX6_made 69 = .ok (.getfield 15, 3) := by decide +kernel
theorem dX6_made_72 : decode cX6_made 72 = .ok (.iload_n 2, 1) := by decide +kernel
theorem dX6_made_73 : decode cX6_made 73 = .ok (.aaload, 1) := by decide +kernel
theorem dX6_made_74 : decode cX6_made 74 = .ok (.new 127, 3) := by decide +kernel
theorem dX6_made_77 : decode cX6_made 77 = .ok (.dup, 1) := by decide +kernel
theorem dX6_made_78 : decode cX6_made 78 = .ok (.aload_n 0, 1) := by decide +kernel
theorem dX6_made_79 : decode cX6_made 79 = .ok (.getfield 19, 3) := by decide +kernel
theorem dX6_made_82 : decode cX6_made 82 = .ok (.iconst 0, 1) := by decide +kernel
theorem dX6_made_83 : decode cX6_made 83 = .ok (.aaload, 1) := by decide +kernel
theorem dX6_made_84 : decode cX6_made 84 = .ok (.invokespecial 129, 3) := by decide +kernel
theorem dX6_made_87 : decode cX6_made 87 = .ok (.invokevirtual 102, 3) := by decide +kernel
theorem dX6_made_90 : decode cX6_made 90 = .ok (.goto 66, 3) := by decide +kernel
theorem dX6_made_93 : decode cX6_made 93 = .ok (.iload_n 1, 1) := by decide +kernel
theorem dX6_made_94 : decode cX6_made 94 = .ok (.iconst 1, 1) := by decide +kernel
theorem dX6_made_95 : decode cX6_made 95 = .ok (.if_icmp .ne 29, 3) := by decide +kernel
theorem dX6_made_98 : decode cX6_made 98 = .ok (.aload_n 3, 1) := by decide +kernel
theorem dX6_made_99 : decode cX6_made 99 = .ok (.aload_n 0, 1) := by decide +kernel
theorem dX6_made_100 : decode cX6_made 100 = .ok (.getfield 15, 3) := by decide +kernel
theorem dX6_made_103 : decode cX6_made 103 = .ok (.iload_n 2, 1) := by decide +kernel
theorem dX6_made_104 : decode cX6_made 104 = .ok (.aaload, 1) := by decide +kernel
theorem dX6_made_105 : decode cX6_made 105 = .ok (.new 127, 3) := by decide +kernel
theorem dX6_made_108 : decode cX6_made 108 = .ok (.dup, 1) := by decide +kernel
theorem dX6_made_109 : decode cX6_made 109 = .ok (.aload_n 0, 1) := by decide +kernel
theorem dX6_made_110 : decode cX6_made 110 = .ok (.getfield 15, 3) := by decide +kernel
theorem dX6_made_113 : decode cX6_made 113 = .ok (.iload_n 2, 1) := by decide +kernel
theorem dX6_made_114 : decode cX6_made 114 = .ok (.aaload, 1) := by decide +kernel
theorem dX6_made_115 : decode cX6_made 115 = .ok (.invokespecial 129, 3) := by decide +kernel
theorem dX6_made_118 : decode cX6_made 118 = .ok (.invokevirtual 102, 3) := by decide +kernel
theorem dX6_made_121 : decode cX6_made 121 = .ok (.goto 35, 3) := by decide +kernel
theorem dX6_made_124 : decode cX6_made 124 = .ok (.iload_n 1, 1) := by decide +kernel
theorem dX6_made_125 : decode cX6_made 125 = .ok (.iconst 2, 1) := by decide +kernel
theorem dX6_made_126 : decode cX6_made 126 = .ok (.if_icmp .ne 20, 3) := by decide +kernel
theorem dX6_made_129 : decode cX6_made 129 = .ok (.aload_n 3, 1) := by decide +kernel
theorem dX6_made_130 : decode cX6_made 130 = .ok (.aload_n 0, 1) := by decide +kernel
theorem dX6_made_131 : decode cX6_made 131 = .ok (.getfield 15, 3) := by decide +kernel
theorem dX6_made_134 : decode cX6_made 134 = .ok (.iload_n 2, 1) := by decide +kernel
theorem dX6_made_135 : decode cX6_made 135 = .ok (.aaload, 1) := by decide +kernel
theorem dX6_made_136 : decode cX6_made 136 = .ok (.aload_n 0, 1) := by decide +kernel
theorem dX6_made_137 : decode cX6_made 137 = .ok (.getfield 43, 3) := by decide +kernel
theorem dX6_made_140 : decode cX6_made 140 = .ok (.invokevirtual 130, 3) := by decide +kernel
theorem dX6_made_143 : decode cX6_made 143 = .ok (.goto 13, 3) := by decide +kernel
theorem dX6_made_146 : decode cX6_made 146 = .ok (.aload_n 3, 1) := by decide +kernel
theorem dX6_made_147 : decode cX6_made 147 = .ok (.aload_n 0, 1) := by decide +kernel
theorem dX6_made_148 : decode cX6_made 148 = .ok (.getfield 15, 3) := by decide +kernel
theorem dX6_made_151 : decode cX6_made 151 = .ok (.iload_n 2, 1) := by decide +kernel
theorem dX6_made_152 : decode cX6_made 152 = .ok (.aaload, 1) := by decide +kernel
theorem dX6_made_153 : decode cX6_made 153 = .ok (.invokevirtual 134, 3) := by decide +kernel
theorem dX6_made_156 : decode cX6_made 156 = .ok (.aload_n 0, 1) := by decide +kernel
theorem dX6_made_157 : decode cX6_made 157 = .ok (.dup, 1) := by decide +kernel
theorem dX6_made_158 : decode cX6_made 158 = .ok (.getfield 27, 3) := by decide +kernel
theorem dX6_made_161 : decode cX6_made 161 = .ok (.dup_x1, 1) := by decide +kernel
theorem dX6_made_162 : decode cX6_made 162 = .ok (.iconst 1, 1) := by decide +kernel
theorem dX6_made_163 : decode cX6_made 163 = .ok (.iadd, 1) := by decide +kernel
theorem dX6_made_164 : decode cX6_made 164 = .ok (.putfield 27, 3) := by decide +kernel
theorem dX6_made_167 : decode cX6_made 167 = .ok (.ireturn, 1) := by decide +kernel
theorem dX6_undo_0 : decode cX6_undo 0 = .ok (.aload_n 0, 1) := by decide +kernel
theorem dX6_undo_1 : decode cX6_undo 1 = .ok (.getfield 27, 3) := by decide +kernel
theorem dX6_undo_4 : decode cX6_undo 4 = .ok (.ifCond .ne 5, 3) := by decide +kernel
theorem dX6_undo_7 : decode cX6_undo 7 = .ok (.iconst (-1), 1) := by decide +kernel
theorem dX6_undo_8 : decode cX6_undo 8 = .ok (.ireturn, 1) := by decide +kernel
theorem dX6_undo_9 : decode cX6_undo 9 = .ok (.aload_n 0, 1) := by decide +kernel
theorem dX6_undo_10 : decode cX6_undo 10 = .ok (.dup, 1) := by decide +kernel
theorem dX6_undo_11 : decode cX6_undo 11 = .ok (.getfield 27, 3) := by decide +kernel
theorem dX6_undo_14 : decode cX6_undo 14 = .ok (.iconst 1, 1) := by decide +kernel
theorem dX6_undo_15 : decode cX6_undo 15 = .ok (.isub, 1) := by decide +kernel
theorem dX6_undo_16 : decode cX6_undo 16 = .ok (.putfield 27, 3) := by decide +kernel
theorem dX6_undo_19 : decode cX6_undo 19 = .ok (.aload_n 0, 1) := by decide +kernel
theorem dX6_undo_20 : decode cX6_undo 20 = .ok (.getfield 27, 3) := by decide +kernel
theorem dX6_undo_23 : decode cX6_undo 23 = .ok (.ireturn, 1) := by decide +kernel
set_option maxRecDepth 20000 in
theorem ggX6_size_X6_isGroup : GoodIn wsX6_size wsX6_isGroup := goodIn_r _ [6, 7, 21, 22, 23, 24, 25, 26] (by decide +kernel) (by decide +kernel)
set_option maxRecDepth 20000 in
theorem gX6_size_X6_isGroup : GoodIn wsX6_size (wsV RX6 92 RX6 yX6_isGroup wsX6_isGroup) := goodIn_app (goodIn_of _ (by decide +kernel)) ggX6_size_X6_isGroup
set_option maxRecDepth 20000 in
theorem ggX6_size_X4_turnsFrom : GoodIn wsX6_size wsX4_turnsFrom := goodIn_r _ [12, 13, 14, 15, 16, 17, 18, 19, 20, 27, 28, 29, 30, 31, 32, 33] (by decide +kernel) (by decide +kernel)
set_option maxRecDepth 20000 in
theorem gX6_size_X4_turnsFrom : GoodIn wsX6_size (wsV RX6 137 RX4 yX4_turnsFrom wsX4_turnsFrom) := goodIn_app (goodIn_of _ (by decide +kernel)) ggX6_size_X4_turnsFrom
theorem dX6_size_0 : decode cX6_size 0 = .ok (.aload_n 0, 1) := by decide +kernel
theorem dX6_size_1 : decode cX6_size 1 = .ok (.iload_n 1, 1) := by decide +kernel
theorem dX6_size_2 : decode cX6_size 2 = .ok (.invokevirtual 92, 3) := by decide +kernel
theorem dX6_size_5 : decode cX6_size 5 = .ok (.ifCond .eq 16, 3) := by decide +kernel
theorem dX6_size_8 : decode cX6_size 8 = .ok (.aload_n 0, 1) := by decide +kernel
theorem dX6_size_9 : decode cX6_size 9 = .ok (.getfield 15, 3) := by decide +kernel
theorem dX6_size_12 : decode cX6_size 12 = .ok (.iload_n 1, 1) := by decide +kernel
theorem dX6_size_13 : decode cX6_size 13 = .ok (.aaload, 1) := by decide +kernel
theorem dX6_size_14 : decode cX6_size 14 = .ok (.iconst 0, 1) := by decide +kernel
theorem dX6_size_15 : decode cX6_size 15 = .ok (.invokevirtual 137, 3) := by decide +kernel
theorem dX6_size_18 : decode cX6_size 18 = .ok (.goto 5, 3) := by decide +kernel
theorem dX6_size_21 : decode cX6_size 21 = .ok (.bipush (-2), 2) := by decide +kernel
theorem dX6_size_23 : decode cX6_size 23 = .ok (.ireturn, 1) := by decide +kernel
set_option maxRecDepth 20000 in
theorem ggX6_has_X6_isGroup : GoodIn wsX6_has wsX6_isGroup := goodIn_r _ [7, 8, 34, 35, 36, 37, 38, 39] (by decide +kernel) (by decide +kernel)
set_option maxRecDepth 20000 in
theorem gX6_has_X6_isGroup : GoodIn wsX6_has (wsV RX6 92 RX6 yX6_isGroup wsX6_isGroup) := goodIn_app (goodIn_of _ (by decide +kernel)) ggX6_has_X6_isGroup
set_option maxRecDepth 20000 in
theorem ggX6_has_X4_holds : GoodIn wsX6_has wsX4_holds := goodIn_r _ [13, 14, 15, 16, 12, 17, 18, 19, 6, 20, 21, 22, 23, 24, 25, 26, 27, 28, 29, 30, 40, 41, 42, 43, 44, 45, 46] (by decide +kernel) (by decide +kernel)
set_option maxRecDepth 20000 in
theorem gX6_has_X4_holds : GoodIn wsX6_has (wsV RX6 140 RX4 yX4_holds wsX4_holds) := goodIn_app (goodIn_of _ (by decide +kernel)) ggX6_has_X4_holds
set_option maxRecDepth 20000 in
theorem ggX6_has_X6_truth : GoodIn wsX6_has wsX6_truth := goodIn_r _ [33] (by decide +kernel) (by decide +kernel)
set_option maxRecDepth 20000 in
theorem gX6_has_X6_truth : GoodIn wsX6_has (va_wsS RX6 74 yX6_truth wsX6_truth) := goodIn_app (goodIn_of _ (by decide +kernel)) ggX6_has_X6_truth
theorem dX6_has_0 : decode cX6_has 0 = .ok (.aload_n 0, 1) := by decide +kernel
theorem dX6_has_1 : decode cX6_has 1 = .ok (.iload_n 1, 1) := by decide +kernel
theorem dX6_has_2 : decode cX6_has 2 = .ok (.invokevirtual 92, 3) := by decide +kernel
theorem dX6_has_5 : decode cX6_has 5 = .ok (.ifCond .eq 22, 3) := by decide +kernel
theorem dX6_has_8 : decode cX6_has 8 = .ok (.aload_n 0, 1) := by decide +kernel
theorem dX6_has_9 : decode cX6_has 9 = .ok (.getfield 15, 3) := by decide +kernel
theorem dX6_has_12 : decode cX6_has 12 = .ok (.iload_n 1, 1) := by decide +kernel
theorem dX6_has_13 : decode cX6_has 13 = .ok (.aaload, 1) := by decide +kernel
theorem dX6_has_14 : decode cX6_has 14 = .ok (.aload_n 0, 1) := by decide +kernel
theorem dX6_has_15 : decode cX6_has 15 = .ok (.getfield 43, 3) := by decide +kernel
theorem dX6_has_18 : decode cX6_has 18 = .ok (.invokevirtual 140, 3) := by decide +kernel
theorem dX6_has_21 : decode cX6_has 21 = .ok (.invokestatic 74, 3) := by decide +kernel
theorem dX6_has_24 : decode cX6_has 24 = .ok (.goto 5, 3) := by decide +kernel
theorem dX6_has_27 : decode cX6_has 27 = .ok (.bipush (-2), 2) := by decide +kernel
theorem dX6_has_29 : decode cX6_has 29 = .ok (.ireturn, 1) := by decide +kernel
set_option maxRecDepth 20000 in
theorem ggX6_is_X6_isGroup : GoodIn wsX6_is wsX6_isGroup := goodIn_r _ [6, 7, 60, 61, 62, 63, 64, 65] (by decide +kernel) (by decide +kernel)
set_option maxRecDepth 20000 in
theorem gX6_is_X6_isGroup : GoodIn wsX6_is (wsV RX6 92 RX6 yX6_isGroup wsX6_isGroup) := goodIn_app (goodIn_of _ (by decide +kernel)) ggX6_is_X6_isGroup
set_option maxRecDepth 20000 in
theorem ggX6_is_X4_isWithin : GoodIn wsX6_is wsX4_isWithin := goodIn_r _ [12, 13, 14, 15, 16, 17, 11, 18, 19, 20, 21, 22, 23, 24, 5, 25, 26, 27, 28, 29, 30, 31, 32, 33, 34, 35, 66, 67, 68, 69, 70, 71, 72] (by decide +kernel) (by decide +kernel)
set_option maxRecDepth 20000 in
theorem gX6_is_X4_isWithin : GoodIn wsX6_is (wsV RX6 143 RX4 yX4_isWithin wsX4_isWithin) := goodIn_app (goodIn_of _ (by decide +kernel)) ggX6_is_X4_isWithin
set_option maxRecDepth 20000 in
theorem ggX6_is_X4_staysUnder : GoodIn wsX6_is wsX4_staysUnder := goodIn_r _ [39, 13, 14, 40, 5, 41, 42, 43, 44, 45, 34, 35, 15, 16, 17, 11, 18, 19, 20, 21, 22, 23, 24, 25, 26, 27, 28, 29, 30, 31, 32, 33, 66, 67, 68, 69, 70, 71, 72] (by decide +kernel) (by decide +kernel)
set_option maxRecDepth 20000 in
theorem gX6_is_X4_staysUnder : GoodIn wsX6_is (wsV RX6 147 RX4 yX4_staysUnder wsX4_staysUnder) := goodIn_app (goodIn_of _ (by decide +kernel)) ggX6_is_X4_staysUnder
set_option maxRecDepth 20000 in
theorem ggX6_is_X6_truth : GoodIn wsX6_is wsX6_truth := goodIn_r _ [48] (by decide +kernel) (by decide +kernel)
set_option maxRecDepth 20000 in
theorem gX6_is_X6_truth : GoodIn wsX6_is (va_wsS RX6 74 yX6_truth wsX6_truth) := goodIn_app (goodIn_of _ (by decide +kernel)) ggX6_is_X6_truth
set_option maxRecDepth 20000 in
theorem ggX6_is_X4_turnsFrom : GoodIn wsX6_is wsX4_turnsFrom := goodIn_r _ [52, 30, 53, 54, 55, 56, 57, 58, 59, 66, 67, 68, 69, 70, 71, 72] (by decide +kernel) (by decide +kernel)
set_option maxRecDepth 20000 in
theorem gX6_is_X4_turnsFrom : GoodIn wsX6_is (wsV RX6 137 RX4 yX4_turnsFrom wsX4_turnsFrom) := goodIn_app (goodIn_of _ (by decide +kernel)) ggX6_is_X4_turnsFrom
theorem dX6_is_0 : decode cX6_is 0 = .ok (.iload_n 1, 1) := by decide +kernel
theorem dX6_is_1 : decode cX6_is 1 = .ok (.ifCond .lt 24, 3) := by decide +kernel
theorem dX6_is_4 : decode cX6_is 4 = .ok (.iload_n 1, 1) := by decide +kernel
theorem dX6_is_5 : decode cX6_is 5 = .ok (.iconst 2, 1) := by decide +kernel
theorem dX6_is_6 : decode cX6_is 6 = .ok (.if_icmp .gt 19, 3) := by decide +kernel
theorem dX6_is_9 : decode cX6_is 9 = .ok (.aload_n 0, 1) := by decide +kernel
theorem dX6_is_10 : decode cX6_is 10 = .ok (.iload_n 2, 1) := by decide +kernel
theorem dX6_is_11 : decode cX6_is 11 = .ok (.invokevirtual 92, 3) := by decide +kernel
theorem dX6_is_14 : decode cX6_is 14 = .ok (.ifCond .eq 11, 3) := by decide +kernel
theorem dX6_is_17 : decode cX6_is 17 = .ok (.aload_n 0, 1) := by decide +kernel
theorem dX6_is_18 : decode cX6_is 18 = .ok (.iload_n 3, 1) := by decide +kernel
theorem dX6_is_19 : decode cX6_is 19 = .ok (.invokevirtual 92, 3) := by decide +kernel
theorem dX6_is_22 : decode cX6_is 22 = .ok (.ifCond .ne 6, 3) := by decide +kernel
theorem dX6_is_25 : decode cX6_is 25 = .ok (.bipush (-2), 2) := by decide +kernel
theorem dX6_is_27 : decode cX6_is 27 = .ok (.ireturn, 1) := by decide +kernel
theorem dX6_is_28 : decode cX6_is 28 = .ok (.aload_n 0, 1) := by decide +kernel
theorem dX6_is_29 : decode cX6_is 29 = .ok (.getfield 15, 3) := by decide +kernel
theorem dX6_is_32 : decode cX6_is 32 = .ok (.iload_n 2, 1) := by decide +kernel
theorem dX6_is_33 : decode cX6_is 33 = .ok (.aaload, 1) := by decide +kernel
theorem dX6_is_34 : decode cX6_is 34 = .ok (.aload_n 0, 1) := by decide +kernel
theorem dX6_is_35 : decode cX6_is 35 = .ok (.getfield 15, 3) := by decide +kernel
theorem dX6_is_38 : decode cX6_is 38 = .ok (.iload_n 3, 1) := by decide +kernel
theorem dX6_is_39 : decode cX6_is 39 = .ok (.aaload, 1) := by decide +kernel
theorem dX6_is_40 : decode cX6_is 40 = .ok (.invokevirtual 143, 3) := by decide +kernel
theorem dX6_is_43 : decode cX6_is 43 = .ok (.ifCond .ne 5, 3) := by decide +kernel
theorem dX6_is_46 : decode cX6_is 46 = .ok (.iconst 0, 1) := by decide +kernel
theorem dX6_is_47 : decode cX6_is 47 = .ok (.ireturn, 1) := by decide +kernel
theorem dX6_is_48 : decode cX6_is 48 = .ok (.iload_n 1, 1) := by decide +kernel
theorem dX6_is_49 : decode cX6_is 49 = .ok (.iconst 1, 1) := by decide +kernel
theorem dX6_is_50 : decode cX6_is 50 = .ok (.if_icmp .ne 22, 3) := by decide +kernel
theorem dX6_is_53 : decode cX6_is 53 = .ok (.aload_n 0, 1) := by decide +kernel
theorem dX6_is_54 : decode cX6_is 54 = .ok (.getfield 15, 3) := by decide +kernel
theorem dX6_is_57 : decode cX6_is 57 = .ok (.iload_n 2, 1) := by decide +kernel
theorem dX6_is_58 : decode cX6_is 58 = .ok (.aaload, 1) := by decide +kernel
theorem dX6_is_59 : decode cX6_is 59 = .ok (.aload_n 0, 1) := by decide +kernel
theorem dX6_is_60 : decode cX6_is 60 = .ok (.getfield 15, 3) := by decide +kernel
theorem dX6_is_63 : decode cX6_is 63 = .ok (.iload_n 3, 1) := by decide +kernel
theorem dX6_is_64 : decode cX6_is 64 = .ok (.aaload, 1) := by decide +kernel
theorem dX6_is_65 : decode cX6_is 65 = .ok (.invokevirtual 147, 3) := by decide +kernel
theorem dX6_is_68 : decode cX6_is 68 = .ok (.invokestatic 74, 3) := by decide +kernel
theorem dX6_is_71 : decode cX6_is 71 = .ok (.ireturn, 1) := by decide +kernel
theorem dX6_is_72 : decode cX6_is 72 = .ok (.iload_n 1, 1) := by decide +kernel
theorem dX6_is_73 : decode cX6_is 73 = .ok (.ifCond .eq 26, 3) := by decide +kernel
theorem dX6_is_76 : decode cX6_is 76 = .ok (.aload_n 0, 1) := by decide +kernel
theorem dX6_is_77 : decode cX6_is 77 = .ok (.getfield 15, 3) := by decide +kernel
theorem dX6_is_80 : decode cX6_is 80 = .ok (.iload_n 2, 1) := by decide +kernel
theorem dX6_is_81 : decode cX6_is 81 = .ok (.aaload, 1) := by decide +kernel
theorem dX6_is_82 : decode cX6_is 82 = .ok (.iconst 0, 1) := by decide +kernel
theorem dX6_is_83 : decode cX6_is 83 = .ok (.invokevirtual 137, 3) := by decide +kernel
theorem dX6_is_86 : decode cX6_is 86 = .ok (.aload_n 0, 1) := by decide +kernel
theorem dX6_is_87 : decode cX6_is 87 = .ok (.getfield 15, 3) := by decide +kernel
theorem dX6_is_90 : decode cX6_is 90 = .ok (.iload_n 3, 1) := by decide +kernel
theorem dX6_is_91 : decode cX6_is 91 = .ok (.aaload, 1) := by decide +kernel
theorem dX6_is_92 : decode cX6_is 92 = .ok (.iconst 0, 1) := by decide +kernel
theorem dX6_is_93 : decode cX6_is 93 = .ok (.invokevirtual 137, 3) := by decide +kernel
theorem dX6_is_96 : decode cX6_is 96 = .ok (.if_icmp .ne 7, 3) := by decide +kernel
theorem dX6_is_99 : decode cX6_is 99 = .ok (.iconst 1, 1) := by decide +kernel
theorem dX6_is_100 : decode cX6_is 100 = .ok (.goto 4, 3) := by decide +kernel
theorem dX6_is_103 : decode cX6_is 103 = .ok (.iconst 0, 1) := by decide +kernel
theorem dX6_is_104 : decode cX6_is 104 = .ok (.invokestatic 74, 3) := by decide +kernel
theorem dX6_is_107 : decode cX6_is 107 = .ok (.ireturn, 1) := by decide +kernel
set_option maxRecDepth 20000 in
theorem ggX6_orbit_X6_isGroup : GoodIn wsX6_orbit wsX6_isGroup := goodIn_r _ [6, 7, 29, 30, 31, 32, 33, 34] (by decide +kernel) (by decide +kernel)
set_option maxRecDepth 20000 in
theorem gX6_orbit_X6_isGroup : GoodIn wsX6_orbit (wsV RX6 92 RX6 yX6_isGroup wsX6_isGroup) := goodIn_app (goodIn_of _ (by decide +kernel)) ggX6_orbit_X6_isGroup
set_option maxRecDepth 20000 in
theorem ggX6_orbit_X6_isPoint : GoodIn wsX6_orbit wsX6_isPoint := goodIn_r _ [11, 12, 29, 30, 31, 32, 33, 34] (by decide +kernel) (by decide +kernel)
set_option maxRecDepth 20000 in
theorem gX6_orbit_X6_isPoint : GoodIn wsX6_orbit (wsV RX6 46 RX6 yX6_isPoint wsX6_isPoint) := goodIn_app (goodIn_of _ (by decide +kernel)) ggX6_orbit_X6_isPoint
set_option maxRecDepth 20000 in
theorem ggX6_orbit_X4_orbitFrom : GoodIn wsX6_orbit wsX4_orbitFrom := goodIn_r _ [17, 18, 19, 20, 21, 22, 16, 23, 24, 25, 26, 27, 5, 28, 35, 36, 37, 38, 39, 40, 41] (by decide +kernel) (by decide +kernel)
set_option maxRecDepth 20000 in
theorem gX6_orbit_X4_orbitFrom : GoodIn wsX6_orbit (wsV RX6 150 RX4 yX4_orbitFrom wsX4_orbitFrom) := goodIn_app (goodIn_of _ (by decide +kernel)) ggX6_orbit_X4_orbitFrom
theorem dX6_orbit_0 : decode cX6_orbit 0 = .ok (.aload_n 0, 1) := by decide +kernel
theorem dX6_orbit_1 : decode cX6_orbit 1 = .ok (.iload_n 1, 1) := by decide +kernel
theorem dX6_orbit_2 : decode cX6_orbit 2 = .ok (.invokevirtual 92, 3) := by decide +kernel
theorem dX6_orbit_5 : decode cX6_orbit 5 = .ok (.ifCond .eq 25, 3) := by decide +kernel
theorem dX6_orbit_8 : decode cX6_orbit 8 = .ok (.aload_n 0, 1) := by decide +kernel
theorem dX6_orbit_9 : decode cX6_orbit 9 = .ok (.iload_n 2, 1) := by decide +kernel
theorem dX6_orbit_10 : decode cX6_orbit 10 = .ok (.invokevirtual 46, 3) := by decide +kernel
theorem dX6_orbit_13 : decode cX6_orbit 13 = .ok (.ifCond .eq 17, 3) := by decide +kernel
theorem dX6_orbit_16 : decode cX6_orbit 16 = .ok (.aload_n 0, 1) := by decide +kernel
theorem dX6_orbit_17 : decode cX6_orbit 17 = .ok (.getfield 15, 3) := by decide +kernel
theorem dX6_orbit_20 : decode cX6_orbit 20 = .ok (.iload_n 1, 1) := by decide +kernel
theorem dX6_orbit_21 : decode cX6_orbit 21 = .ok (.aaload, 1) := by decide +kernel
theorem dX6_orbit_22 : decode cX6_orbit 22 = .ok (.iconst 0, 1) := by decide +kernel
theorem dX6_orbit_23 : decode cX6_orbit 23 = .ok (.iload_n 2, 1) := by decide +kernel
theorem dX6_orbit_24 : decode cX6_orbit 24 = .ok (.invokevirtual 150, 3) := by decide +kernel
theorem dX6_orbit_27 : decode cX6_orbit 27 = .ok (.goto 5, 3) := by decide +kernel
theorem dX6_orbit_30 : decode cX6_orbit 30 = .ok (.bipush (-2), 2) := by decide +kernel
theorem dX6_orbit_32 : decode cX6_orbit 32 = .ok (.ireturn, 1) := by decide +kernel
set_option maxRecDepth 20000 in
theorem ggX6_block_X6_isGroup : GoodIn wsX6_block wsX6_isGroup := goodIn_r _ [6, 7, 29, 30, 31, 32, 33, 34] (by decide +kernel) (by decide +kernel)
set_option maxRecDepth 20000 in
theorem gX6_block_X6_isGroup : GoodIn wsX6_block (wsV RX6 92 RX6 yX6_isGroup wsX6_isGroup) := goodIn_app (goodIn_of _ (by decide +kernel)) ggX6_block_X6_isGroup
set_option maxRecDepth 20000 in
theorem ggX6_block_X6_isPoint : GoodIn wsX6_block wsX6_isPoint := goodIn_r _ [11, 12, 29, 30, 31, 32, 33, 34] (by decide +kernel) (by decide +kernel)
set_option maxRecDepth 20000 in
theorem gX6_block_X6_isPoint : GoodIn wsX6_block (wsV RX6 46 RX6 yX6_isPoint wsX6_isPoint) := goodIn_app (goodIn_of _ (by decide +kernel)) ggX6_block_X6_isPoint
set_option maxRecDepth 20000 in
theorem ggX6_block_X4_blockOf : GoodIn wsX6_block wsX4_blockOf := goodIn_r _ [17, 18, 19, 20, 21, 22, 16, 23, 24, 5, 25, 26, 27, 28, 35, 36, 37, 38, 39, 40, 41] (by decide +kernel) (by decide +kernel)
set_option maxRecDepth 20000 in
theorem gX6_block_X4_blockOf : GoodIn wsX6_block (wsV RX6 153 RX4 yX4_blockOf wsX4_blockOf) := goodIn_app (goodIn_of _ (by decide +kernel)) ggX6_block_X4_blockOf
theorem dX6_block_0 : decode cX6_block 0 = .ok (.aload_n 0, 1) := by decide +kernel
theorem dX6_block_1 : decode cX6_block 1 = .ok (.iload_n 1, 1) := by decide +kernel
theorem dX6_block_2 : decode cX6_block 2 = .ok (.invokevirtual 92, 3) := by decide +kernel
theorem dX6_block_5 : decode cX6_block 5 = .ok (.ifCond .eq 33, 3) := by decide +kernel
theorem dX6_block_8 : decode cX6_block 8 = .ok (.aload_n 0, 1) := by decide +kernel
theorem dX6_block_9 : decode cX6_block 9 = .ok (.iload_n 2, 1) := by decide +kernel
theorem dX6_block_10 : decode cX6_block 10 = .ok (.invokevirtual 46, 3) := by decide +kernel
theorem dX6_block_13 : decode cX6_block 13 = .ok (.ifCond .eq 25, 3) := by decide +kernel
theorem dX6_block_16 : decode cX6_block 16 = .ok (.aload_n 0, 1) := by decide +kernel
theorem dX6_block_17 : decode cX6_block 17 = .ok (.iload_n 3, 1) := by decide +kernel
theorem dX6_block_18 : decode cX6_block 18 = .ok (.invokevirtual 46, 3) := by decide +kernel
theorem dX6_block_21 : decode cX6_block 21 = .ok (.ifCond .eq 17, 3) := by decide +kernel
theorem dX6_block_24 : decode cX6_block 24 = .ok (.aload_n 0, 1) := by decide +kernel
theorem dX6_block_25 : decode cX6_block 25 = .ok (.getfield 15, 3) := by decide +kernel
theorem dX6_block_28 : decode cX6_block 28 = .ok (.iload_n 1, 1) := by decide +kernel
theorem dX6_block_29 : decode cX6_block 29 = .ok (.aaload, 1) := by decide +kernel
theorem dX6_block_30 : decode cX6_block 30 = .ok (.iload_n 2, 1) := by decide +kernel
theorem dX6_block_31 : decode cX6_block 31 = .ok (.iload_n 3, 1) := by decide +kernel
theorem dX6_block_32 : decode cX6_block 32 = .ok (.invokevirtual 153, 3) := by decide +kernel
theorem dX6_block_35 : decode cX6_block 35 = .ok (.goto 5, 3) := by decide +kernel
theorem dX6_block_38 : decode cX6_block 38 = .ok (.bipush (-2), 2) := by decide +kernel
theorem dX6_block_40 : decode cX6_block 40 = .ok (.ireturn, 1) := by decide +kernel
set_option maxRecDepth 20000 in
theorem ggX6_steps_X6_isGroup : GoodIn wsX6_steps wsX6_isGroup := goodIn_r _ [7, 8, 75, 76, 77, 78, 79, 80] (by decide +kernel) (by decide +kernel)
set_option maxRecDepth 20000 in
theorem gX6_steps_X6_isGroup : GoodIn wsX6_steps (wsV RX6 92 RX6 yX6_isGroup wsX6_isGroup) := goodIn_app (goodIn_of _ (by decide +kernel)) ggX6_steps_X6_isGroup
set_option maxRecDepth 20000 in
theorem ggX6_steps_X4_turnsFrom : GoodIn wsX6_steps wsX4_turnsFrom := goodIn_r _ [13, 14, 15, 16, 17, 18, 19, 20, 21, 81, 82, 83, 84, 85, 86, 87] (by decide +kernel) (by decide +kernel)
set_option maxRecDepth 20000 in
theorem gX6_steps_X4_turnsFrom : GoodIn wsX6_steps (wsV RX6 137 RX4 yX4_turnsFrom wsX4_turnsFrom) := goodIn_app (goodIn_of _ (by decide +kernel)) ggX6_steps_X4_turnsFrom
set_option maxRecDepth 20000 in
theorem ggX6_steps_X4_becomeDown : GoodIn wsX6_steps wsX4_becomeDown := goodIn_r _ [25, 26, 27, 28, 29, 30, 12, 31, 14, 32, 33, 6, 34, 35, 36, 37, 38, 39, 40, 41, 42, 43, 44, 45, 46, 47, 48, 49, 50, 51, 52, 53, 54, 55, 56, 57, 58, 59, 60, 61, 62, 63, 64, 65, 66, 67, 68, 69, 70, 71, 72, 73, 74, 81, 82, 83, 84, 85, 86, 87] (by decide +kernel) (by decide +kernel)
set_option maxRecDepth 20000 in
theorem gX6_steps_X4_becomeDown : GoodIn wsX6_steps (wsV RX6 134 RX4 yX4_becomeDown wsX4_becomeDown) := goodIn_app (goodIn_of _ (by decide +kernel)) ggX6_steps_X4_becomeDown
theorem dX6_steps_0 : decode cX6_steps 0 = .ok (.aload_n 0, 1) := by decide +kernel
theorem dX6_steps_1 : decode cX6_steps 1 = .ok (.iload_n 1, 1) := by decide +kernel
theorem dX6_steps_2 : decode cX6_steps 2 = .ok (.invokevirtual 92, 3) := by decide +kernel
theorem dX6_steps_5 : decode cX6_steps 5 = .ok (.ifCond .ne 6, 3) := by decide +kernel
theorem dX6_steps_8 : decode cX6_steps 8 = .ok (.bipush (-2), 2) := by decide +kernel
theorem dX6_steps_10 : decode cX6_steps 10 = .ok (.ireturn, 1) := by decide +kernel
theorem dX6_steps_11 : decode cX6_steps 11 = .ok (.aload_n 0, 1) := by decide +kernel
theorem dX6_steps_12 : decode cX6_steps 12 = .ok (.getfield 15, 3) := by decide +kernel
theorem dX6_steps_15 : decode cX6_steps 15 = .ok (.iload_n 1, 1) := by decide +kernel
theorem dX6_steps_16 : decode cX6_steps 16 = .ok (.aaload, 1) := by decide +kernel
theorem dX6_steps_17 : decode cX6_steps 17 = .ok (.astore_n 2, 1) := by decide +kernel
theorem dX6_steps_18 : decode cX6_steps 18 = .ok (.iconst 0, 1) := by decide +kernel
theorem dX6_steps_19 : decode cX6_steps 19 = .ok (.istore_n 3, 1) := by decide +kernel
theorem dX6_steps_20 : decode cX6_steps 20 = .ok (.iload_n 3, 1) := by decide +kernel
theorem dX6_steps_21 : decode cX6_steps 21 = .ok (.bipush 16, 2) := by decide +kernel
theorem dX6_steps_23 : decode cX6_steps 23 = .ok (.if_icmp .ge 56, 3) := by decide +kernel
theorem dX6_steps_26 : decode cX6_steps 26 = .ok (.aload_n 2, 1) := by decide +kernel
theorem dX6_steps_27 : decode cX6_steps 27 = .ok (.iconst 0, 1) := by decide +kernel
theorem dX6_steps_28 : decode cX6_steps 28 = .ok (.invokevirtual 137, 3) := by decide +kernel
theorem dX6_steps_31 : decode cX6_steps 31 = .ok (.istore 4, 2) := by decide +kernel
theorem dX6_steps_33 : decode cX6_steps 33 = .ok (.iload 4, 2) := by decide +kernel
theorem dX6_steps_35 : decode cX6_steps 35 = .ok (.iconst 1, 1) := by decide +kernel
theorem dX6_steps_36 : decode cX6_steps 36 = .ok (.if_icmp .ne 5, 3) := by decide +kernel
theorem dX6_steps_39 : decode cX6_steps 39 = .ok (.iload_n 3, 1) := by decide +kernel
theorem dX6_steps_40 : decode cX6_steps 40 = .ok (.ireturn, 1) := by decide +kernel
theorem dX6_steps_41 : decode cX6_steps 41 = .ok (.aload_n 0, 1) := by decide +kernel
theorem dX6_steps_42 : decode cX6_steps 42 = .ok (.getfield 19, 3) := by decide +kernel
theorem dX6_steps_45 : decode cX6_steps 45 = .ok (.iload_n 3, 1) := by decide +kernel
theorem dX6_steps_46 : decode cX6_steps 46 = .ok (.iconst 1, 1) := by decide +kernel
theorem dX6_steps_47 : decode cX6_steps 47 = .ok (.iand, 1) := by decide +kernel
theorem dX6_steps_48 : decode cX6_steps 48 = .ok (.aaload, 1) := by decide +kernel
theorem dX6_steps_49 : decode cX6_steps 49 = .ok (.astore 5, 2) := by decide +kernel
theorem dX6_steps_51 : decode cX6_steps 51 = .ok (.aload 5, 2) := by decide +kernel
theorem dX6_steps_53 : decode cX6_steps 53 = .ok (.aload_n 2, 1) := by decide +kernel
theorem dX6_steps_54 : decode cX6_steps 54 = .ok (.invokevirtual 134, 3) := by decide +kernel
theorem dX6_steps_57 : decode cX6_steps 57 = .ok (.aload 5, 2) := by decide +kernel
theorem dX6_steps_59 : decode cX6_steps 59 = .ok (.iconst 0, 1) := by decide +kernel
theorem dX6_steps_60 : decode cX6_steps 60 = .ok (.invokevirtual 137, 3) := by decide +kernel
theorem dX6_steps_63 : decode cX6_steps 63 = .ok (.iload 4, 2) := by decide +kernel
theorem dX6_steps_65 : decode cX6_steps 65 = .ok (.if_icmp .ne 5, 3) := by decide +kernel
theorem dX6_steps_68 : decode cX6_steps 68 = .ok (.iconst (-1), 1) := by decide +kernel
theorem dX6_steps_69 : decode cX6_steps 69 = .ok (.ireturn, 1) := by decide +kernel
theorem dX6_steps_70 : decode cX6_steps 70 = .ok (.aload 5, 2) := by decide +kernel
theorem dX6_steps_72 : decode cX6_steps 72 = .ok (.astore_n 2, 1) := by decide +kernel
theorem dX6_steps_73 : decode cX6_steps 73 = .ok (.iinc 3 1, 3) := by decide +kernel
theorem dX6_steps_76 : decode cX6_steps 76 = .ok (.goto (-56), 3) := by decide +kernel
theorem dX6_steps_79 : decode cX6_steps 79 = .ok (.iconst (-1), 1) := by decide +kernel
theorem dX6_steps_80 : decode cX6_steps 80 = .ok (.ireturn, 1) := by decide +kernel
set_option maxRecDepth 20000 in
theorem ggX6_still_X6_isGroup : GoodIn wsX6_still wsX6_isGroup := goodIn_r _ [7, 8, 54, 55, 56, 57, 58, 59] (by decide +kernel) (by decide +kernel)
set_option maxRecDepth 20000 in
theorem gX6_still_X6_isGroup : GoodIn wsX6_still (wsV RX6 92 RX6 yX6_isGroup wsX6_isGroup) := goodIn_app (goodIn_of _ (by decide +kernel)) ggX6_still_X6_isGroup
set_option maxRecDepth 20000 in
theorem ggX6_still_X4_turnsThatLeave : GoodIn wsX6_still wsX4_turnsThatLeave := goodIn_r _ [13, 14, 15, 16, 17, 12, 18, 19, 20, 21, 22, 23, 24, 25, 26, 27, 28, 29, 30, 31, 32, 6, 33, 34, 35, 36, 37, 38, 39, 40, 41, 42, 43, 44, 45, 46, 47, 48, 49, 50, 51, 52, 53, 60, 61, 62, 63, 64, 65, 66] (by decide +kernel) (by decide +kernel)
set_option maxRecDepth 20000 in
theorem gX6_still_X4_turnsThatLeave : GoodIn wsX6_still (wsV RX6 159 RX4 yX4_turnsThatLeave wsX4_turnsThatLeave) := goodIn_app (goodIn_of _ (by decide +kernel)) ggX6_still_X4_turnsThatLeave
theorem dX6_still_0 : decode cX6_still 0 = .ok (.aload_n 0, 1) := by decide +kernel
theorem dX6_still_1 : decode cX6_still 1 = .ok (.iload_n 1, 1) := by decide +kernel
theorem dX6_still_2 : decode cX6_still 2 = .ok (.invokevirtual 92, 3) := by decide +kernel
theorem dX6_still_5 : decode cX6_still 5 = .ok (.ifCond .eq 15, 3) := by decide +kernel
theorem dX6_still_8 : decode cX6_still 8 = .ok (.iload_n 2, 1) := by decide +kernel
theorem dX6_still_9 : decode cX6_still 9 = .ok (.ifCond .lt 11, 3) := by decide +kernel
theorem dX6_still_12 : decode cX6_still 12 = .ok (.iload_n 2, 1) := by decide +kernel
theorem dX6_still_13 : decode cX6_still 13 = .ok (.aload_n 0, 1) := by decide +kernel
theorem dX6_still_14 : decode cX6_still 14 = .ok (.getfield 156, 3) := by decide +kernel
theorem dX6_still_17 : decode cX6_still 17 = .ok (.if_icmp .le 6, 3) := by decide +kernel
theorem dX6_still_20 : decode cX6_still 20 = .ok (.bipush (-2), 2) := by decide +kernel
theorem dX6_still_22 : decode cX6_still 22 = .ok (.ireturn, 1) := by decide +kernel
theorem dX6_still_23 : decode cX6_still 23 = .ok (.aload_n 0, 1) := by decide +kernel
theorem dX6_still_24 : decode cX6_still 24 = .ok (.getfield 15, 3) := by decide +kernel
theorem dX6_still_27 : decode cX6_still 27 = .ok (.iload_n 1, 1) := by decide +kernel
theorem dX6_still_28 : decode cX6_still 28 = .ok (.aaload, 1) := by decide +kernel
theorem dX6_still_29 : decode cX6_still 29 = .ok (.iload_n 2, 1) := by decide +kernel
theorem dX6_still_30 : decode cX6_still 30 = .ok (.bipush 8, 2) := by decide +kernel
theorem dX6_still_32 : decode cX6_still 32 = .ok (.iadd, 1) := by decide +kernel
theorem dX6_still_33 : decode cX6_still 33 = .ok (.aload_n 0, 1) := by decide +kernel
theorem dX6_still_34 : decode cX6_still 34 = .ok (.getfield 156, 3) := by decide +kernel
theorem dX6_still_37 : decode cX6_still 37 = .ok (.isub, 1) := by decide +kernel
theorem dX6_still_38 : decode cX6_still 38 = .ok (.invokevirtual 159, 3) := by decide +kernel
theorem dX6_still_41 : decode cX6_still 41 = .ok (.ireturn, 1) := by decide +kernel
set_option maxRecDepth 20000 in
theorem ggX6_element_X6_isGroup : GoodIn wsX6_element wsX6_isGroup := goodIn_r _ [7, 8, 49, 50, 51, 52, 53, 54] (by decide +kernel) (by decide +kernel)
set_option maxRecDepth 20000 in
theorem gX6_element_X6_isGroup : GoodIn wsX6_element (wsV RX6 92 RX6 yX6_isGroup wsX6_isGroup) := goodIn_app (goodIn_of _ (by decide +kernel)) ggX6_element_X6_isGroup
set_option maxRecDepth 20000 in
theorem ggX6_element_X4_turnsFrom : GoodIn wsX6_element wsX4_turnsFrom := goodIn_r _ [13, 14, 15, 16, 17, 18, 19, 20, 21, 55, 56, 57, 58, 59, 60, 61] (by decide +kernel) (by decide +kernel)
set_option maxRecDepth 20000 in
theorem gX6_element_X4_turnsFrom : GoodIn wsX6_element (wsV RX6 137 RX4 yX4_turnsFrom wsX4_turnsFrom) := goodIn_app (goodIn_of _ (by decide +kernel)) ggX6_element_X4_turnsFrom
set_option maxRecDepth 20000 in
theorem ggX6_element_X4_turnAt : GoodIn wsX6_element wsX4_turnAt := goodIn_r _ [25, 26, 14, 27, 10, 11, 12, 13, 15, 16, 17, 18, 19, 20, 21, 28, 29, 30, 31, 6, 32, 33, 34, 35, 36, 37, 38, 39, 40, 41, 42, 43, 44, 45, 46, 47, 48, 55, 56, 57, 58, 59, 60, 61] (by decide +kernel) (by decide +kernel)
set_option maxRecDepth 20000 in
theorem gX6_element_X4_turnAt : GoodIn wsX6_element (wsV RX6 162 RX4 yX4_turnAt wsX4_turnAt) := goodIn_app (goodIn_of _ (by decide +kernel)) ggX6_element_X4_turnAt
theorem dX6_element_0 : decode cX6_element 0 = .ok (.aload_n 0, 1) := by decide +kernel
theorem dX6_element_1 : decode cX6_element 1 = .ok (.iload_n 1, 1) := by decide +kernel
theorem dX6_element_2 : decode cX6_element 2 = .ok (.invokevirtual 92, 3) := by decide +kernel
theorem dX6_element_5 : decode cX6_element 5 = .ok (.ifCond .eq 21, 3) := by decide +kernel
theorem dX6_element_8 : decode cX6_element 8 = .ok (.iload_n 2, 1) := by decide +kernel
theorem dX6_element_9 : decode cX6_element 9 = .ok (.ifCond .lt 17, 3) := by decide +kernel
theorem dX6_element_12 : decode cX6_element 12 = .ok (.iload_n 2, 1) := by decide +kernel
theorem dX6_element_13 : decode cX6_element 13 = .ok (.aload_n 0, 1) := by decide +kernel
theorem dX6_element_14 : decode cX6_element 14 = .ok (.getfield 15, 3) := by decide +kernel
theorem dX6_element_17 : decode cX6_element 17 = .ok (.iload_n 1, 1) := by decide +kernel
theorem dX6_element_18 : decode cX6_element 18 = .ok (.aaload, 1) := by decide +kernel
theorem dX6_element_19 : decode cX6_element 19 = .ok (.iconst 0, 1) := by decide +kernel
theorem dX6_element_20 : decode cX6_element 20 = .ok (.invokevirtual 137, 3) := by decide +kernel
theorem dX6_element_23 : decode cX6_element 23 = .ok (.if_icmp .lt 6, 3) := by decide +kernel
theorem dX6_element_26 : decode cX6_element 26 = .ok (.bipush (-2), 2) := by decide +kernel
theorem dX6_element_28 : decode cX6_element 28 = .ok (.ireturn, 1) := by decide +kernel
theorem dX6_element_29 : decode cX6_element 29 = .ok (.aload_n 0, 1) := by decide +kernel
theorem dX6_element_30 : decode cX6_element 30 = .ok (.aload_n 0, 1) := by decide +kernel
theorem dX6_element_31 : decode cX6_element 31 = .ok (.getfield 15, 3) := by decide +kernel
theorem dX6_element_34 : decode cX6_element 34 = .ok (.iload_n 1, 1) := by decide +kernel
theorem dX6_element_35 : decode cX6_element 35 = .ok (.aaload, 1) := by decide +kernel
theorem dX6_element_36 : decode cX6_element 36 = .ok (.iload_n 2, 1) := by decide +kernel
theorem dX6_element_37 : decode cX6_element 37 = .ok (.invokevirtual 162, 3) := by decide +kernel
theorem dX6_element_40 : decode cX6_element 40 = .ok (.putfield 43, 3) := by decide +kernel
theorem dX6_element_43 : decode cX6_element 43 = .ok (.iconst 1, 1) := by decide +kernel
theorem dX6_element_44 : decode cX6_element 44 = .ok (.ireturn, 1) := by decide +kernel
set_option maxRecDepth 20000 in
theorem ggX6_place_X6_isGroup : GoodIn wsX6_place wsX6_isGroup := goodIn_r _ [7, 8, 48, 49, 50, 51, 52, 53] (by decide +kernel) (by decide +kernel)
set_option maxRecDepth 20000 in
theorem gX6_place_X6_isGroup : GoodIn wsX6_place (wsV RX6 92 RX6 yX6_isGroup wsX6_isGroup) := goodIn_app (goodIn_of _ (by decide +kernel)) ggX6_place_X6_isGroup
set_option maxRecDepth 20000 in
theorem ggX6_place_X4_turnsAheadOf : GoodIn wsX6_place wsX4_turnsAheadOf := goodIn_r _ [13, 14, 15, 16, 6, 17, 18, 19, 12, 20, 21, 22, 23, 24, 25, 26, 27, 28, 29, 30, 31, 32, 33, 34, 35, 36, 37, 38, 39, 40, 41, 42, 43, 44, 45, 46, 47, 54, 55, 56, 57, 58, 59, 60] (by decide +kernel) (by decide +kernel)
set_option maxRecDepth 20000 in
theorem gX6_place_X4_turnsAheadOf : GoodIn wsX6_place (wsV RX6 165 RX4 yX4_turnsAheadOf wsX4_turnsAheadOf) := goodIn_app (goodIn_of _ (by decide +kernel)) ggX6_place_X4_turnsAheadOf
theorem dX6_place_0 : decode cX6_place 0 = .ok (.aload_n 0, 1) := by decide +kernel
theorem dX6_place_1 : decode cX6_place 1 = .ok (.iload_n 1, 1) := by decide +kernel
theorem dX6_place_2 : decode cX6_place 2 = .ok (.invokevirtual 92, 3) := by decide +kernel
theorem dX6_place_5 : decode cX6_place 5 = .ok (.ifCond .eq 19, 3) := by decide +kernel
theorem dX6_place_8 : decode cX6_place 8 = .ok (.aload_n 0, 1) := by decide +kernel
theorem dX6_place_9 : decode cX6_place 9 = .ok (.getfield 15, 3) := by decide +kernel
theorem dX6_place_12 : decode cX6_place 12 = .ok (.iload_n 1, 1) := by decide +kernel
theorem dX6_place_13 : decode cX6_place 13 = .ok (.aaload, 1) := by decide +kernel
theorem dX6_place_14 : decode cX6_place 14 = .ok (.aload_n 0, 1) := by decide +kernel
theorem dX6_place_15 : decode cX6_place 15 = .ok (.getfield 43, 3) := by decide +kernel
theorem dX6_place_18 : decode cX6_place 18 = .ok (.invokevirtual 165, 3) := by decide +kernel
theorem dX6_place_21 : decode cX6_place 21 = .ok (.goto 5, 3) := by decide +kernel
theorem dX6_place_24 : decode cX6_place 24 = .ok (.bipush (-2), 2) := by decide +kernel
theorem dX6_place_26 : decode cX6_place 26 = .ok (.ireturn, 1) := by decide +kernel
set_option maxRecDepth 20000 in
theorem ggX6_carry_X6_isGroup : GoodIn wsX6_carry wsX6_isGroup := goodIn_r _ [10, 11, 92, 93, 94, 95, 96, 97] (by decide +kernel) (by decide +kernel)
set_option maxRecDepth 20000 in
theorem gX6_carry_X6_isGroup : GoodIn wsX6_carry (wsV RX6 92 RX6 yX6_isGroup wsX6_isGroup) := goodIn_app (goodIn_of _ (by decide +kernel)) ggX6_carry_X6_isGroup
set_option maxRecDepth 20000 in
theorem ggX6_carry_X6_isSet : GoodIn wsX6_carry wsX6_isSet := goodIn_r _ [15, 16, 92, 93, 94, 95, 96, 97] (by decide +kernel) (by decide +kernel)
set_option maxRecDepth 20000 in
theorem gX6_carry_X6_isSet : GoodIn wsX6_carry (wsV RX6 115 RX6 yX6_isSet wsX6_isSet) := goodIn_app (goodIn_of _ (by decide +kernel)) ggX6_carry_X6_isSet
set_option maxRecDepth 20000 in
theorem ggX6_carry_J6_bitCount_0f7a4 : GoodIn wsX6_carry wsJ6_bitCount_0f7a4 := goodIn_r _ [20, 21, 22, 23] (by decide +kernel) (by decide +kernel)
set_option maxRecDepth 20000 in
theorem gX6_carry_J6_bitCount_0f7a4 : GoodIn wsX6_carry (va_wsS RX6 168 yJ6_bitCount_0f7a4 wsJ6_bitCount_0f7a4) := goodIn_app (goodIn_of _ (by decide +kernel)) ggX6_carry_J6_bitCount_0f7a4
set_option maxRecDepth 20000 in
theorem ggX6_carry_X0_init : GoodIn wsX6_carry wsX0_init := goodIn_r _ [26, 27, 28, 29, 30, 31, 32, 33, 34, 98, 99] (by decide +kernel) (by decide +kernel)
set_option maxRecDepth 20000 in
theorem gX6_carry_X0_init : GoodIn wsX6_carry (wsX0_init) := ggX6_carry_X0_init
set_option maxRecDepth 20000 in
theorem ggX6_carry_X4_firstThat : GoodIn wsX6_carry wsX4_firstThat := goodIn_r _ [39, 40, 41, 42, 43, 38, 44, 45, 9, 46, 47, 48, 49, 50, 51, 52, 53, 54, 55, 56, 57, 58, 59, 60, 61, 62, 63, 64, 65, 66, 67, 4, 68, 27, 28, 69, 70, 71, 72, 73, 74, 75, 76, 77, 78, 79, 80, 81, 82, 83, 84, 85, 86, 87, 88, 89, 90, 91, 100, 101, 102, 103, 104, 105, 106, 98, 99, 107, 108, 109] (by decide +kernel) (by decide +kernel)
set_option maxRecDepth 20000 in
theorem gX6_carry_X4_firstThat : GoodIn wsX6_carry (wsV RX6 173 RX4 yX4_firstThat wsX4_firstThat) := goodIn_app (goodIn_of _ (by decide +kernel)) ggX6_carry_X4_firstThat
theorem dX6_carry_0 : decode cX6_carry 0 = .ok (.aload_n 0, 1) := by decide +kernel
theorem dX6_carry_1 : decode cX6_carry 1 = .ok (.iload_n 1, 1) := by decide +kernel
theorem dX6_carry_2 : decode cX6_carry 2 = .ok (.invokevirtual 92, 3) := by decide +kernel
theorem dX6_carry_5 : decode cX6_carry 5 = .ok (.ifCond .eq 19, 3) := by decide +kernel
theorem dX6_carry_8 : decode cX6_carry 8 = .ok (.aload_n 0, 1) := by decide +kernel
theorem dX6_carry_9 : decode cX6_carry 9 = .ok (.iload_n 2, 1) := by decide +kernel
theorem dX6_carry_10 : decode cX6_carry 10 = .ok (.invokevirtual 115, 3) := by decide +kernel
theorem dX6_carry_13 : decode cX6_carry 13 = .ok (.ifCond .eq 11, 3) := by decide +kernel
theorem dX6_carry_16 : decode cX6_carry 16 = .ok (.aload_n 0, 1) := by decide +kernel
theorem dX6_carry_17 : decode cX6_carry 17 = .ok (.iload_n 3, 1) := by decide +kernel
theorem dX6_carry_18 : decode cX6_carry 18 = .ok (.invokevirtual 115, 3) := by decide +kernel
theorem dX6_carry_21 : decode cX6_carry 21 = .ok (.ifCond .ne 6, 3) := by decide +kernel
theorem dX6_carry_24 : decode cX6_carry 24 = .ok (.bipush (-2), 2) := by decide +kernel
theorem dX6_carry_26 : decode cX6_carry 26 = .ok (.ireturn, 1) := by decide +kernel
theorem dX6_carry_27 : decode cX6_carry 27 = .ok (.iload_n 2, 1) := by decide +kernel
theorem dX6_carry_28 : decode cX6_carry 28 = .ok (.invokestatic 168, 3) := by decide +kernel
theorem dX6_carry_31 : decode cX6_carry 31 = .ok (.iload_n 3, 1) := by decide +kernel
theorem dX6_carry_32 : decode cX6_carry 32 = .ok (.invokestatic 168, 3) := by decide +kernel
theorem dX6_carry_35 : decode cX6_carry 35 = .ok (.if_icmp .eq 5, 3) := by decide +kernel
theorem dX6_carry_38 : decode cX6_carry 38 = .ok (.iconst (-1), 1) := by decide +kernel
theorem dX6_carry_39 : decode cX6_carry 39 = .ok (.ireturn, 1) := by decide +kernel
theorem dX6_carry_40 : decode cX6_carry 40 = .ok (.aload_n 0, 1) := by decide +kernel
theorem dX6_carry_41 : decode cX6_carry 41 = .ok (.getfield 15, 3) := by decide +kernel
theorem dX6_carry_44 : decode cX6_carry 44 = .ok (.iload_n 1, 1) := by decide +kernel
theorem dX6_carry_45 : decode cX6_carry 45 = .ok (.aaload, 1) := by decide +kernel
theorem dX6_carry_46 : decode cX6_carry 46 = .ok (.new 122, 3) := by decide +kernel
theorem dX6_carry_49 : decode cX6_carry 49 = .ok (.dup, 1) := by decide +kernel
theorem dX6_carry_50 : decode cX6_carry 50 = .ok (.iload_n 2, 1) := by decide +kernel
theorem dX6_carry_51 : decode cX6_carry 51 = .ok (.iload_n 3, 1) := by decide +kernel
theorem dX6_carry_52 : decode cX6_carry 52 = .ok (.invokespecial 124, 3) := by decide +kernel
theorem dX6_carry_55 : decode cX6_carry 55 = .ok (.invokevirtual 173, 3) := by decide +kernel
theorem dX6_carry_58 : decode cX6_carry 58 = .ok (.istore 4, 2) := by decide +kernel
theorem dX6_carry_60 : decode cX6_carry 60 = .ok (.iload 4, 2) := by decide +kernel
theorem dX6_carry_62 : decode cX6_carry 62 = .ok (.ifCond .ne 5, 3) := by decide +kernel
theorem dX6_carry_65 : decode cX6_carry 65 = .ok (.iconst (-1), 1) := by decide +kernel
theorem dX6_carry_66 : decode cX6_carry 66 = .ok (.ireturn, 1) := by decide +kernel
theorem dX6_carry_67 : decode cX6_carry 67 = .ok (.aload_n 0, 1) := by decide +kernel
theorem dX6_carry_68 : decode cX6_carry 68 = .ok (.iload 4, 2) := by decide +kernel
theorem dX6_carry_70 : decode cX6_carry 70 = .ok (.putfield 43, 3) := by decide +kernel
theorem dX6_carry_73 : decode cX6_carry 73 = .ok (.iconst 1, 1) := by decide +kernel
theorem dX6_carry_74 : decode cX6_carry 74 = .ok (.ireturn, 1) := by decide +kernel
set_option maxRecDepth 20000 in
theorem ggX6_count_X6_pointsLeft : GoodIn wsX6_count wsX6_pointsLeft := goodIn_r _ [7, 8, 9, 6, 10] (by decide +kernel) (by decide +kernel)
set_option maxRecDepth 20000 in
theorem gX6_count_X6_pointsLeft : GoodIn wsX6_count (va_wsS RX6 177 yX6_pointsLeft wsX6_pointsLeft) := goodIn_app (goodIn_of _ (by decide +kernel)) ggX6_count_X6_pointsLeft
set_option maxRecDepth 20000 in
theorem ggX6_count_X6_isEven : GoodIn wsX6_count wsX6_isEven := goodIn_r _ [13, 8, 9, 6, 10] (by decide +kernel) (by decide +kernel)
set_option maxRecDepth 20000 in
theorem gX6_count_X6_isEven : GoodIn wsX6_count (va_wsS RX6 180 yX6_isEven wsX6_isEven) := goodIn_app (goodIn_of _ (by decide +kernel)) ggX6_count_X6_isEven
set_option maxRecDepth 20000 in
theorem ggX6_count_X6_truth : GoodIn wsX6_count wsX6_truth := goodIn_r _ [16] (by decide +kernel) (by decide +kernel)
set_option maxRecDepth 20000 in
theorem gX6_count_X6_truth : GoodIn wsX6_count (va_wsS RX6 74 yX6_truth wsX6_truth) := goodIn_app (goodIn_of _ (by decide +kernel)) ggX6_count_X6_truth
theorem dX6_count_0 : decode cX6_count 0 = .ok (.iload_n 1, 1) := by decide +kernel
theorem dX6_count_1 : decode cX6_count 1 = .ok (.tableswitch 68 0 3 #[31, 36, 41, 57], 31) := by decide +kernel
theorem dX6_count_32 : decode cX6_count 32 = .ok (.aload_n 0, 1) := by decide +kernel
theorem dX6_count_33 : decode cX6_count 33 = .ok (.getfield 156, 3) := by decide +kernel
theorem dX6_count_36 : decode cX6_count 36 = .ok (.ireturn, 1) := by decide +kernel
theorem dX6_count_37 : decode cX6_count 37 = .ok (.aload_n 0, 1) := by decide +kernel
theorem dX6_count_38 : decode cX6_count 38 = .ok (.getfield 27, 3) := by decide +kernel
theorem dX6_count_41 : decode cX6_count 41 = .ok (.ireturn, 1) := by decide +kernel
theorem dX6_count_42 : decode cX6_count 42 = .ok (.aload_n 0, 1) := by decide +kernel
theorem dX6_count_43 : decode cX6_count 43 = .ok (.getfield 43, 3) := by decide +kernel
theorem dX6_count_46 : decode cX6_count 46 = .ok (.invokestatic 177, 3) := by decide +kernel
theorem dX6_count_49 : decode cX6_count 49 = .ok (.bipush 8, 2) := by decide +kernel
theorem dX6_count_51 : decode cX6_count 51 = .ok (.aload_n 0, 1) := by decide +kernel
theorem dX6_count_52 : decode cX6_count 52 = .ok (.getfield 156, 3) := by decide +kernel
theorem dX6_count_55 : decode cX6_count 55 = .ok (.isub, 1) := by decide +kernel
theorem dX6_count_56 : decode cX6_count 56 = .ok (.isub, 1) := by decide +kernel
theorem dX6_count_57 : decode cX6_count 57 = .ok (.ireturn, 1) := by decide +kernel
theorem dX6_count_58 : decode cX6_count 58 = .ok (.aload_n 0, 1) := by decide +kernel
theorem dX6_count_59 : decode cX6_count 59 = .ok (.getfield 43, 3) := by decide +kernel
theorem dX6_count_62 : decode cX6_count 62 = .ok (.invokestatic 180, 3) := by decide +kernel
theorem dX6_count_65 : decode cX6_count 65 = .ok (.invokestatic 74, 3) := by decide +kernel
theorem dX6_count_68 : decode cX6_count 68 = .ok (.ireturn, 1) := by decide +kernel
theorem dX6_count_69 : decode cX6_count 69 = .ok (.bipush (-2), 2) := by decide +kernel
theorem dX6_count_71 : decode cX6_count 71 = .ok (.ireturn, 1) := by decide +kernel
set_option maxRecDepth 20000 in
theorem ggX6_beginWith_J7_fill_53178 : GoodIn wsX6_beginWith wsJ7_fill_53178 := goodIn_r _ [9] (by decide +kernel) (by decide +kernel)
set_option maxRecDepth 20000 in
theorem gX6_beginWith_J7_fill_53178 : GoodIn wsX6_beginWith (va_wsS RX6 183 yJ7_fill_53178 wsJ7_fill_53178) := goodIn_app (goodIn_of _ (by decide +kernel)) ggX6_beginWith_J7_fill_53178
theorem dX6_beginWith_0 : decode cX6_beginWith 0 = .ok (.aload_n 0, 1) := by decide +kernel
theorem dX6_beginWith_1 : decode cX6_beginWith 1 = .ok (.iload_n 1, 1) := by decide +kernel
theorem dX6_beginWith_2 : decode cX6_beginWith 2 = .ok (.putfield 156, 3) := by decide +kernel
theorem dX6_beginWith_5 : decode cX6_beginWith 5 = .ok (.aload_n 0, 1) := by decide +kernel
theorem dX6_beginWith_6 : decode cX6_beginWith 6 = .ok (.iconst 0, 1) := by decide +kernel
theorem dX6_beginWith_7 : decode cX6_beginWith 7 = .ok (.putfield 27, 3) := by decide +kernel
theorem dX6_beginWith_10 : decode cX6_beginWith 10 = .ok (.aload_n 0, 1) := by decide +kernel
theorem dX6_beginWith_11 : decode cX6_beginWith 11 = .ok (.ldc 73, 2) := by decide +kernel
theorem dX6_beginWith_13 : decode cX6_beginWith 13 = .ok (.putfield 43, 3) := by decide +kernel
theorem dX6_beginWith_16 : decode cX6_beginWith 16 = .ok (.aload_n 0, 1) := by decide +kernel
theorem dX6_beginWith_17 : decode cX6_beginWith 17 = .ok (.getfield 9, 3) := by decide +kernel
theorem dX6_beginWith_20 : decode cX6_beginWith 20 = .ok (.ldc 73, 2) := by decide +kernel
theorem dX6_beginWith_22 : decode cX6_beginWith 22 = .ok (.invokestatic 183, 3) := by decide +kernel
theorem dX6_beginWith_25 : decode cX6_beginWith 25 = .ok (.return_, 1) := by decide +kernel
theorem dX6_isPoint_0 : decode cX6_isPoint 0 = .ok (.iload_n 1, 1) := by decide +kernel
theorem dX6_isPoint_1 : decode cX6_isPoint 1 = .ok (.ifCond .lt 15, 3) := by decide +kernel
theorem dX6_isPoint_4 : decode cX6_isPoint 4 = .ok (.iload_n 1, 1) := by decide +kernel
theorem dX6_isPoint_5 : decode cX6_isPoint 5 = .ok (.aload_n 0, 1) := by decide +kernel
theorem dX6_isPoint_6 : decode cX6_isPoint 6 = .ok (.getfield 156, 3) := by decide +kernel
theorem dX6_isPoint_9 : decode cX6_isPoint 9 = .ok (.if_icmp .ge 7, 3) := by decide +kernel
theorem dX6_isPoint_12 : decode cX6_isPoint 12 = .ok (.iconst 1, 1) := by decide +kernel
theorem dX6_isPoint_13 : decode cX6_isPoint 13 = .ok (.goto 4, 3) := by decide +kernel
theorem dX6_isPoint_16 : decode cX6_isPoint 16 = .ok (.iconst 0, 1) := by decide +kernel
theorem dX6_isPoint_17 : decode cX6_isPoint 17 = .ok (.ireturn, 1) := by decide +kernel
theorem dX6_isSet_0 : decode cX6_isSet 0 = .ok (.iload_n 1, 1) := by decide +kernel
theorem dX6_isSet_1 : decode cX6_isSet 1 = .ok (.ifCond .lt 17, 3) := by decide +kernel
theorem dX6_isSet_4 : decode cX6_isSet 4 = .ok (.iload_n 1, 1) := by decide +kernel
theorem dX6_isSet_5 : decode cX6_isSet 5 = .ok (.iconst 1, 1) := by decide +kernel
theorem dX6_isSet_6 : decode cX6_isSet 6 = .ok (.aload_n 0, 1) := by decide +kernel
theorem dX6_isSet_7 : decode cX6_isSet 7 = .ok (.getfield 156, 3) := by decide +kernel
theorem dX6_isSet_10 : decode cX6_isSet 10 = .ok (.ishl, 1) := by decide +kernel
theorem dX6_isSet_11 : decode cX6_isSet 11 = .ok (.if_icmp .ge 7, 3) := by decide +kernel
theorem dX6_isSet_14 : decode cX6_isSet 14 = .ok (.iconst 1, 1) := by decide +kernel
theorem dX6_isSet_15 : decode cX6_isSet 15 = .ok (.goto 4, 3) := by decide +kernel
theorem dX6_isSet_18 : decode cX6_isSet 18 = .ok (.iconst 0, 1) := by decide +kernel
theorem dX6_isSet_19 : decode cX6_isSet 19 = .ok (.ireturn, 1) := by decide +kernel
theorem dX6_isGroup_0 : decode cX6_isGroup 0 = .ok (.iload_n 1, 1) := by decide +kernel
theorem dX6_isGroup_1 : decode cX6_isGroup 1 = .ok (.ifCond .lt 15, 3) := by decide +kernel
theorem dX6_isGroup_4 : decode cX6_isGroup 4 = .ok (.iload_n 1, 1) := by decide +kernel
theorem dX6_isGroup_5 : decode cX6_isGroup 5 = .ok (.aload_n 0, 1) := by decide +kernel
theorem dX6_isGroup_6 : decode cX6_isGroup 6 = .ok (.getfield 27, 3) := by decide +kernel
theorem dX6_isGroup_9 : decode cX6_isGroup 9 = .ok (.if_icmp .ge 7, 3) := by decide +kernel
theorem dX6_isGroup_12 : decode cX6_isGroup 12 = .ok (.iconst 1, 1) := by decide +kernel
theorem dX6_isGroup_13 : decode cX6_isGroup 13 = .ok (.goto 4, 3) := by decide +kernel
theorem dX6_isGroup_16 : decode cX6_isGroup 16 = .ok (.iconst 0, 1) := by decide +kernel
theorem dX6_isGroup_17 : decode cX6_isGroup 17 = .ok (.ireturn, 1) := by decide +kernel
theorem dX6_isFull_0 : decode cX6_isFull 0 = .ok (.aload_n 0, 1) := by decide +kernel
theorem dX6_isFull_1 : decode cX6_isFull 1 = .ok (.getfield 27, 3) := by decide +kernel
theorem dX6_isFull_4 : decode cX6_isFull 4 = .ok (.bipush 10, 2) := by decide +kernel
theorem dX6_isFull_6 : decode cX6_isFull 6 = .ok (.if_icmp .lt 7, 3) := by decide +kernel
theorem dX6_isFull_9 : decode cX6_isFull 9 = .ok (.iconst 1, 1) := by decide +kernel
theorem dX6_isFull_10 : decode cX6_isFull 10 = .ok (.goto 4, 3) := by decide +kernel
theorem dX6_isFull_13 : decode cX6_isFull 13 = .ok (.iconst 0, 1) := by decide +kernel
theorem dX6_isFull_14 : decode cX6_isFull 14 = .ok (.ireturn, 1) := by decide +kernel
theorem dX6_ownBits_0 : decode cX6_ownBits 0 = .ok (.lconst 1, 1) := by decide +kernel
theorem dX6_ownBits_1 : decode cX6_ownBits 1 = .ok (.iconst 4, 1) := by decide +kernel
theorem dX6_ownBits_2 : decode cX6_ownBits 2 = .ok (.aload_n 0, 1) := by decide +kernel
theorem dX6_ownBits_3 : decode cX6_ownBits 3 = .ok (.getfield 156, 3) := by decide +kernel
theorem dX6_ownBits_6 : decode cX6_ownBits 6 = .ok (.imul, 1) := by decide +kernel
theorem dX6_ownBits_7 : decode cX6_ownBits 7 = .ok (.lshl, 1) := by decide +kernel
theorem dX6_ownBits_8 : decode cX6_ownBits 8 = .ok (.lconst 1, 1) := by decide +kernel
theorem dX6_ownBits_9 : decode cX6_ownBits 9 = .ok (.lsub, 1) := by decide +kernel
theorem dX6_ownBits_10 : decode cX6_ownBits 10 = .ok (.lreturn, 1) := by decide +kernel
set_option maxRecDepth 20000 in
theorem ggX6_tellsTurn_X6_ownBits : GoodIn wsX6_tellsTurn wsX6_ownBits := goodIn_r _ [7, 2, 15, 16, 17, 18, 19, 20] (by decide +kernel) (by decide +kernel)
set_option maxRecDepth 20000 in
theorem gX6_tellsTurn_X6_ownBits : GoodIn wsX6_tellsTurn (wsV RX6 37 RX6 yX6_ownBits wsX6_ownBits) := goodIn_app (goodIn_of _ (by decide +kernel)) ggX6_tellsTurn_X6_ownBits
set_option maxRecDepth 20000 in
theorem ggX6_tellsTurn_J6_bitCount_0f7a4 : GoodIn wsX6_tellsTurn wsJ6_bitCount_0f7a4 := goodIn_r _ [11, 12, 13, 14] (by decide +kernel) (by decide +kernel)
set_option maxRecDepth 20000 in
theorem gX6_tellsTurn_J6_bitCount_0f7a4 : GoodIn wsX6_tellsTurn (va_wsS RX6 168 yJ6_bitCount_0f7a4 wsJ6_bitCount_0f7a4) := goodIn_app (goodIn_of _ (by decide +kernel)) ggX6_tellsTurn_J6_bitCount_0f7a4
theorem dX6_tellsTurn_0 : decode cX6_tellsTurn 0 = .ok (.lload_n 1, 1) := by decide +kernel
theorem dX6_tellsTurn_1 : decode cX6_tellsTurn 1 = .ok (.aload_n 0, 1) := by decide +kernel
theorem dX6_tellsTurn_2 : decode cX6_tellsTurn 2 = .ok (.invokevirtual 37, 3) := by decide +kernel
theorem dX6_tellsTurn_5 : decode cX6_tellsTurn 5 = .ok (.ldc2_w 41, 3) := by decide +kernel
theorem dX6_tellsTurn_8 : decode cX6_tellsTurn 8 = .ok (.lxor, 1) := by decide +kernel
theorem dX6_tellsTurn_9 : decode cX6_tellsTurn 9 = .ok (.land, 1) := by decide +kernel
theorem dX6_tellsTurn_10 : decode cX6_tellsTurn 10 = .ok (.lconst 0, 1) := by decide +kernel
theorem dX6_tellsTurn_11 : decode cX6_tellsTurn 11 = .ok (.lcmp, 1) := by decide +kernel
theorem dX6_tellsTurn_12 : decode cX6_tellsTurn 12 = .ok (.ifCond .eq 5, 3) := by decide +kernel
theorem dX6_tellsTurn_15 : decode cX6_tellsTurn 15 = .ok (.iconst 0, 1) := by decide +kernel
theorem dX6_tellsTurn_16 : decode cX6_tellsTurn 16 = .ok (.ireturn, 1) := by decide +kernel
theorem dX6_tellsTurn_17 : decode cX6_tellsTurn 17 = .ok (.iconst 0, 1) := by decide +kernel
theorem dX6_tellsTurn_18 : decode cX6_tellsTurn 18 = .ok (.istore_n 3, 1) := by decide +kernel
theorem dX6_tellsTurn_19 : decode cX6_tellsTurn 19 = .ok (.iconst 0, 1) := by decide +kernel
theorem dX6_tellsTurn_20 : decode cX6_tellsTurn 20 = .ok (.istore 4, 2) := by decide +kernel
theorem dX6_tellsTurn_22 : decode cX6_tellsTurn 22 = .ok (.iload 4, 2) := by decide +kernel
theorem dX6_tellsTurn_24 : decode cX6_tellsTurn 24 = .ok (.aload_n 0, 1) := by decide +kernel
theorem dX6_tellsTurn_25 : decode cX6_tellsTurn 25 = .ok (.getfield 156, 3) := by decide +kernel
theorem dX6_tellsTurn_28 : decode cX6_tellsTurn 28 = .ok (.if_icmp .ge 39, 3) := by decide +kernel
theorem dX6_tellsTurn_31 : decode cX6_tellsTurn 31 = .ok (.lload_n 1, 1) := by decide +kernel
theorem dX6_tellsTurn_32 : decode cX6_tellsTurn 32 = .ok (.iconst 4, 1) := by decide +kernel
theorem dX6_tellsTurn_33 : decode cX6_tellsTurn 33 = .ok (.iload 4, 2) := by decide +kernel
theorem dX6_tellsTurn_35 : decode cX6_tellsTurn 35 = .ok (.imul, 1) := by decide +kernel
theorem dX6_tellsTurn_36 : decode cX6_tellsTurn 36 = .ok (.lshr, 1) := by decide +kernel
theorem dX6_tellsTurn_37 : decode cX6_tellsTurn 37 = .ok (.l2i, 1) := by decide +kernel
theorem dX6_tellsTurn_38 : decode cX6_tellsTurn 38 = .ok (.bipush 15, 2) := by decide +kernel
theorem dX6_tellsTurn_40 : decode cX6_tellsTurn 40 = .ok (.iand, 1) := by decide +kernel
theorem dX6_tellsTurn_41 : decode cX6_tellsTurn 41 = .ok (.istore 5, 2) := by decide +kernel
theorem dX6_tellsTurn_43 : decode cX6_tellsTurn 43 = .ok (.iload 5, 2) := by decide +kernel
theorem dX6_tellsTurn_45 : decode cX6_tellsTurn 45 = .ok (.aload_n 0, 1) := by decide +kernel
theorem dX6_tellsTurn_46 : decode cX6_tellsTurn 46 = .ok (.getfield 156, 3) := by decide +kernel
theorem dX6_tellsTurn_49 : decode cX6_tellsTurn 49 = .ok (.if_icmp .lt 5, 3) := by decide +kernel
theorem dX6_tellsTurn_52 : decode cX6_tellsTurn 52 = .ok (.iconst 0, 1) := by decide +kernel
theorem dX6_tellsTurn_53 : decode cX6_tellsTurn 53 = .ok (.ireturn, 1) := by decide +kernel
theorem dX6_tellsTurn_54 : decode cX6_tellsTurn 54 = .ok (.iload_n 3, 1) := by decide +kernel
theorem dX6_tellsTurn_55 : decode cX6_tellsTurn 55 = .ok (.iconst 1, 1) := by decide +kernel
theorem dX6_tellsTurn_56 : decode cX6_tellsTurn 56 = .ok (.iload 5, 2) := by decide +kernel
theorem dX6_tellsTurn_58 : decode cX6_tellsTurn 58 = .ok (.ishl, 1) := by decide +kernel
theorem dX6_tellsTurn_59 : decode cX6_tellsTurn 59 = .ok (.ior, 1) := by decide +kernel
theorem dX6_tellsTurn_60 : decode cX6_tellsTurn 60 = .ok (.istore_n 3, 1) := by decide +kernel
theorem dX6_tellsTurn_61 : decode cX6_tellsTurn 61 = .ok (.iinc 4 1, 3) := by decide +kernel
theorem dX6_tellsTurn_64 : decode cX6_tellsTurn 64 = .ok (.goto (-42), 3) := by decide +kernel
theorem dX6_tellsTurn_67 : decode cX6_tellsTurn 67 = .ok (.iload_n 3, 1) := by decide +kernel
theorem dX6_tellsTurn_68 : decode cX6_tellsTurn 68 = .ok (.invokestatic 168, 3) := by decide +kernel
theorem dX6_tellsTurn_71 : decode cX6_tellsTurn 71 = .ok (.aload_n 0, 1) := by decide +kernel
theorem dX6_tellsTurn_72 : decode cX6_tellsTurn 72 = .ok (.getfield 156, 3) := by decide +kernel
theorem dX6_tellsTurn_75 : decode cX6_tellsTurn 75 = .ok (.if_icmp .ne 7, 3) := by decide +kernel
theorem dX6_tellsTurn_78 : decode cX6_tellsTurn 78 = .ok (.iconst 1, 1) := by decide +kernel
theorem dX6_tellsTurn_79 : decode cX6_tellsTurn 79 = .ok (.goto 4, 3) := by decide +kernel
theorem dX6_tellsTurn_82 : decode cX6_tellsTurn 82 = .ok (.iconst 0, 1) := by decide +kernel
theorem dX6_tellsTurn_83 : decode cX6_tellsTurn 83 = .ok (.ireturn, 1) := by decide +kernel
set_option maxRecDepth 20000 in
theorem ggX6_joinSwaps_X6_swap : GoodIn wsX6_joinSwaps wsX6_swap := goodIn_r _ [5, 6] (by decide +kernel) (by decide +kernel)
set_option maxRecDepth 20000 in
theorem gX6_joinSwaps_X6_swap : GoodIn wsX6_joinSwaps (va_wsS RX6 189 yX6_swap wsX6_swap) := goodIn_app (goodIn_of _ (by decide +kernel)) ggX6_joinSwaps_X6_swap
set_option maxRecDepth 20000 in
theorem ggX6_joinSwaps_X4_join : GoodIn wsX6_joinSwaps wsX4_join := goodIn_r _ [11, 12, 13, 14, 15, 16, 17, 10, 18, 19, 20, 21, 22, 23, 24, 4, 25, 26, 27, 28, 29, 30, 31, 32, 33, 34, 35, 36, 37, 38, 39, 40, 41, 42, 43, 50, 51, 52, 53, 54, 55, 56] (by decide +kernel) (by decide +kernel)
set_option maxRecDepth 20000 in
theorem gX6_joinSwaps_X4_join : GoodIn wsX6_joinSwaps (wsV RX6 95 RX4 yX4_join wsX4_join) := goodIn_app (goodIn_of _ (by decide +kernel)) ggX6_joinSwaps_X4_join
theorem dX6_joinSwaps_0 : decode cX6_joinSwaps 0 = .ok (.iconst 0, 1) := by decide +kernel
theorem dX6_joinSwaps_1 : decode cX6_joinSwaps 1 = .ok (.istore_n 2, 1) := by decide +kernel
theorem dX6_joinSwaps_2 : decode cX6_joinSwaps 2 = .ok (.iload_n 2, 1) := by decide +kernel
theorem dX6_joinSwaps_3 : decode cX6_joinSwaps 3 = .ok (.iconst 1, 1) := by decide +kernel
theorem dX6_joinSwaps_4 : decode cX6_joinSwaps 4 = .ok (.iadd, 1) := by decide +kernel
theorem dX6_joinSwaps_5 : decode cX6_joinSwaps 5 = .ok (.aload_n 0, 1) := by decide +kernel
theorem dX6_joinSwaps_6 : decode cX6_joinSwaps 6 = .ok (.getfield 156, 3) := by decide +kernel
theorem dX6_joinSwaps_9 : decode cX6_joinSwaps 9 = .ok (.if_icmp .ge 21, 3) := by decide +kernel
theorem dX6_joinSwaps_12 : decode cX6_joinSwaps 12 = .ok (.aload_n 1, 1) := by decide +kernel
theorem dX6_joinSwaps_13 : decode cX6_joinSwaps 13 = .ok (.iload_n 2, 1) := by decide +kernel
theorem dX6_joinSwaps_14 : decode cX6_joinSwaps 14 = .ok (.iload_n 2, 1) := by decide +kernel
theorem dX6_joinSwaps_15 : decode cX6_joinSwaps 15 = .ok (.iconst 1, 1) := by decide +kernel
theorem dX6_joinSwaps_16 : decode cX6_joinSwaps 16 = .ok (.iadd, 1) := by decide +kernel
theorem dX6_joinSwaps_17 : decode cX6_joinSwaps 17 = .ok (.invokestatic 189, 3) := by decide +kernel
theorem dX6_joinSwaps_20 : decode cX6_joinSwaps 20 = .ok (.invokevirtual 95, 3) := by decide +kernel
theorem dX6_joinSwaps_23 : decode cX6_joinSwaps 23 = .ok (.pop, 1) := by decide +kernel
theorem dX6_joinSwaps_24 : decode cX6_joinSwaps 24 = .ok (.iinc 2 1, 3) := by decide +kernel
theorem dX6_joinSwaps_27 : decode cX6_joinSwaps 27 = .ok (.goto (-25), 3) := by decide +kernel
theorem dX6_joinSwaps_30 : decode cX6_joinSwaps 30 = .ok (.return_, 1) := by decide +kernel
set_option maxRecDepth 20000 in
theorem ggX6_joinThreeCycles_X6_swap : GoodIn wsX6_joinThreeCycles wsX6_swap := goodIn_r _ [5, 6] (by decide +kernel) (by decide +kernel)
set_option maxRecDepth 20000 in
theorem gX6_joinThreeCycles_X6_swap : GoodIn wsX6_joinThreeCycles (va_wsS RX6 189 yX6_swap wsX6_swap) := goodIn_app (goodIn_of _ (by decide +kernel)) ggX6_joinThreeCycles_X6_swap
set_option maxRecDepth 20000 in
theorem ggX6_joinThreeCycles_X6_chain : GoodIn wsX6_joinThreeCycles wsX6_chain := goodIn_r _ [9] (by decide +kernel) (by decide +kernel)
set_option maxRecDepth 20000 in
theorem gX6_joinThreeCycles_X6_chain : GoodIn wsX6_joinThreeCycles (va_wsS RX6 57 yX6_chain wsX6_chain) := goodIn_app (goodIn_of _ (by decide +kernel)) ggX6_joinThreeCycles_X6_chain
set_option maxRecDepth 20000 in
theorem ggX6_joinThreeCycles_X4_join : GoodIn wsX6_joinThreeCycles wsX4_join := goodIn_r _ [14, 15, 16, 17, 18, 19, 20, 13, 21, 22, 23, 24, 25, 26, 27, 4, 28, 29, 30, 31, 32, 33, 34, 35, 36, 37, 8, 9, 38, 39, 40, 41, 42, 43, 44, 51, 52, 53, 54, 55, 56, 57] (by decide +kernel) (by decide +kernel)
set_option maxRecDepth 20000 in
theorem gX6_joinThreeCycles_X4_join : GoodIn wsX6_joinThreeCycles (wsV RX6 95 RX4 yX4_join wsX4_join) := goodIn_app (goodIn_of _ (by decide +kernel)) ggX6_joinThreeCycles_X4_join
theorem dX6_joinThreeCycles_0 : decode cX6_joinThreeCycles 0 = .ok (.iconst 0, 1) := by decide +kernel
theorem dX6_joinThreeCycles_1 : decode cX6_joinThreeCycles 1 = .ok (.istore_n 2, 1) := by decide +kernel
theorem dX6_joinThreeCycles_2 : decode cX6_joinThreeCycles 2 = .ok (.iload_n 2, 1) := by decide +kernel
theorem dX6_joinThreeCycles_3 : decode cX6_joinThreeCycles 3 = .ok (.iconst 2, 1) := by decide +kernel
theorem dX6_joinThreeCycles_4 : decode cX6_joinThreeCycles 4 = .ok (.iadd, 1) := by decide +kernel
theorem dX6_joinThreeCycles_5 : decode cX6_joinThreeCycles 5 = .ok (.aload_n 0, 1) := by decide +kernel
theorem dX6_joinThreeCycles_6 : decode cX6_joinThreeCycles 6 = .ok (.getfield 156, 3) := by decide +kernel
theorem dX6_joinThreeCycles_9 : decode cX6_joinThreeCycles 9 = .ok (.if_icmp .ge 33, 3) := by decide +kernel
theorem dX6_joinThreeCycles_12 : decode cX6_joinThreeCycles 12 = .ok (.aload_n 1, 1) := by decide +kernel
theorem dX6_joinThreeCycles_13 : decode cX6_joinThreeCycles 13 = .ok (.iload_n 2, 1) := by decide +kernel
theorem dX6_joinThreeCycles_14 : decode cX6_joinThreeCycles 14 = .ok (.iload_n 2, 1) := by decide +kernel
theorem dX6_joinThreeCycles_15 : decode cX6_joinThreeCycles 15 = .ok (.iconst 1, 1) := by decide +kernel
theorem dX6_joinThreeCycles_16 : decode cX6_joinThreeCycles 16 = .ok (.iadd, 1) := by decide +kernel
theorem dX6_joinThreeCycles_17 : decode cX6_joinThreeCycles 17 = .ok (.invokestatic 189, 3) := by decide +kernel
theorem dX6_joinThreeCycles_20 : decode cX6_joinThreeCycles 20 = .ok (.iload_n 2, 1) := by decide +kernel
theorem dX6_joinThreeCycles_21 : decode cX6_joinThreeCycles 21 = .ok (.iconst 1, 1) := by decide +kernel
theorem dX6_joinThreeCycles_22 : decode cX6_joinThreeCycles 22 = .ok (.iadd, 1) := by decide +kernel
theorem dX6_joinThreeCycles_23 : decode cX6_joinThreeCycles 23 = .ok (.iload_n 2, 1) := by decide +kernel
theorem dX6_joinThreeCycles_24 : decode cX6_joinThreeCycles 24 = .ok (.iconst 2, 1) := by decide +kernel
theorem dX6_joinThreeCycles_25 : decode cX6_joinThreeCycles 25 = .ok (.iadd, 1) := by decide +kernel
theorem dX6_joinThreeCycles_26 : decode cX6_joinThreeCycles 26 = .ok (.invokestatic 189, 3) := by decide +kernel
theorem dX6_joinThreeCycles_29 : decode cX6_joinThreeCycles 29 = .ok (.invokestatic 57, 3) := by decide +kernel
theorem dX6_joinThreeCycles_32 : decode cX6_joinThreeCycles 32 = .ok (.invokevirtual 95, 3) := by decide +kernel
theorem dX6_joinThreeCycles_35 : decode cX6_joinThreeCycles 35 = .ok (.pop, 1) := by decide +kernel
theorem dX6_joinThreeCycles_36 : decode cX6_joinThreeCycles 36 = .ok (.iinc 2 1, 3) := by decide +kernel
theorem dX6_joinThreeCycles_39 : decode cX6_joinThreeCycles 39 = .ok (.goto (-37), 3) := by decide +kernel
theorem dX6_joinThreeCycles_42 : decode cX6_joinThreeCycles 42 = .ok (.return_, 1) := by decide +kernel
theorem dX6_isShelfPlace_0 : decode cX6_isShelfPlace 0 = .ok (.iload_n 0, 1) := by decide +kernel
theorem dX6_isShelfPlace_1 : decode cX6_isShelfPlace 1 = .ok (.ifCond .lt 13, 3) := by decide +kernel
theorem dX6_isShelfPlace_4 : decode cX6_isShelfPlace 4 = .ok (.iload_n 0, 1) := by decide +kernel
theorem dX6_isShelfPlace_5 : decode cX6_isShelfPlace 5 = .ok (.bipush 8, 2) := by decide +kernel
theorem dX6_isShelfPlace_7 : decode cX6_isShelfPlace 7 = .ok (.if_icmp .ge 7, 3) := by decide +kernel
theorem dX6_isShelfPlace_10 : decode cX6_isShelfPlace 10 = .ok (.iconst 1, 1) := by decide +kernel
theorem dX6_isShelfPlace_11 : decode cX6_isShelfPlace 11 = .ok (.goto 4, 3) := by decide +kernel
theorem dX6_isShelfPlace_14 : decode cX6_isShelfPlace 14 = .ok (.iconst 0, 1) := by decide +kernel
theorem dX6_isShelfPlace_15 : decode cX6_isShelfPlace 15 = .ok (.ireturn, 1) := by decide +kernel
theorem dX6_truth_0 : decode cX6_truth 0 = .ok (.iload_n 0, 1) := by decide +kernel
theorem dX6_truth_1 : decode cX6_truth 1 = .ok (.ifCond .eq 7, 3) := by decide +kernel
theorem dX6_truth_4 : decode cX6_truth 4 = .ok (.iconst 1, 1) := by decide +kernel
theorem dX6_truth_5 : decode cX6_truth 5 = .ok (.goto 4, 3) := by decide +kernel
theorem dX6_truth_8 : decode cX6_truth 8 = .ok (.iconst 0, 1) := by decide +kernel
theorem dX6_truth_9 : decode cX6_truth 9 = .ok (.ireturn, 1) := by decide +kernel
theorem dX6_image_0 : decode cX6_image 0 = .ok (.iload_n 0, 1) := by decide +kernel
theorem dX6_image_1 : decode cX6_image 1 = .ok (.iconst 4, 1) := by decide +kernel
theorem dX6_image_2 : decode cX6_image 2 = .ok (.iload_n 1, 1) := by decide +kernel
theorem dX6_image_3 : decode cX6_image 3 = .ok (.imul, 1) := by decide +kernel
theorem dX6_image_4 : decode cX6_image 4 = .ok (.ishr, 1) := by decide +kernel
theorem dX6_image_5 : decode cX6_image 5 = .ok (.bipush 7, 2) := by decide +kernel
theorem dX6_image_7 : decode cX6_image 7 = .ok (.iand, 1) := by decide +kernel
theorem dX6_image_8 : decode cX6_image 8 = .ok (.ireturn, 1) := by decide +kernel
theorem dX6_chain_0 : decode cX6_chain 0 = .ok (.iconst 0, 1) := by decide +kernel
theorem dX6_chain_1 : decode cX6_chain 1 = .ok (.istore_n 2, 1) := by decide +kernel
theorem dX6_chain_2 : decode cX6_chain 2 = .ok (.iconst 0, 1) := by decide +kernel
theorem dX6_chain_3 : decode cX6_chain 3 = .ok (.istore_n 3, 1) := by decide +kernel
theorem dX6_chain_4 : decode cX6_chain 4 = .ok (.iload_n 3, 1) := by decide +kernel
theorem dX6_chain_5 : decode cX6_chain 5 = .ok (.bipush 32, 2) := by decide +kernel
theorem dX6_chain_7 : decode cX6_chain 7 = .ok (.if_icmp .ge 31, 3) := by decide +kernel
theorem dX6_chain_10 : decode cX6_chain 10 = .ok (.iload_n 0, 1) := by decide +kernel
theorem dX6_chain_11 : decode cX6_chain 11 = .ok (.iload_n 3, 1) := by decide +kernel
theorem dX6_chain_12 : decode cX6_chain 12 = .ok (.ishr, 1) := by decide +kernel
theorem dX6_chain_13 : decode cX6_chain 13 = .ok (.bipush 7, 2) := by decide +kernel
theorem dX6_chain_15 : decode cX6_chain 15 = .ok (.iand, 1) := by decide +kernel
theorem dX6_chain_16 : decode cX6_chain 16 = .ok (.istore 4, 2) := by decide +kernel
theorem dX6_chain_18 : decode cX6_chain 18 = .ok (.iload_n 2, 1) := by decide +kernel
theorem dX6_chain_19 : decode cX6_chain 19 = .ok (.iload_n 1, 1) := by decide +kernel
theorem dX6_chain_20 : decode cX6_chain 20 = .ok (.iconst 4, 1) := by decide +kernel
theorem dX6_chain_21 : decode cX6_chain 21 = .ok (.iload 4, 2) := by decide +kernel
theorem dX6_chain_23 : decode cX6_chain 23 = .ok (.imul, 1) := by decide +kernel
theorem dX6_chain_24 : decode cX6_chain 24 = .ok (.ishr, 1) := by decide +kernel
theorem dX6_chain_25 : decode cX6_chain 25 = .ok (.bipush 7, 2) := by decide +kernel
theorem dX6_chain_27 : decode cX6_chain 27 = .ok (.iand, 1) := by decide +kernel
theorem dX6_chain_28 : decode cX6_chain 28 = .ok (.iload_n 3, 1) := by decide +kernel
theorem dX6_chain_29 : decode cX6_chain 29 = .ok (.ishl, 1) := by decide +kernel
theorem dX6_chain_30 : decode cX6_chain 30 = .ok (.ior, 1) := by decide +kernel
theorem dX6_chain_31 : decode cX6_chain 31 = .ok (.istore_n 2, 1) := by decide +kernel
theorem dX6_chain_32 : decode cX6_chain 32 = .ok (.iinc 3 4, 3) := by decide +kernel
theorem dX6_chain_35 : decode cX6_chain 35 = .ok (.goto (-31), 3) := by decide +kernel
theorem dX6_chain_38 : decode cX6_chain 38 = .ok (.iload_n 2, 1) := by decide +kernel
theorem dX6_chain_39 : decode cX6_chain 39 = .ok (.ireturn, 1) := by decide +kernel
theorem dX6_reverse_0 : decode cX6_reverse 0 = .ok (.iconst 0, 1) := by decide +kernel
theorem dX6_reverse_1 : decode cX6_reverse 1 = .ok (.istore_n 1, 1) := by decide +kernel
theorem dX6_reverse_2 : decode cX6_reverse 2 = .ok (.iconst 0, 1) := by decide +kernel
theorem dX6_reverse_3 : decode cX6_reverse 3 = .ok (.istore_n 2, 1) := by decide +kernel
theorem dX6_reverse_4 : decode cX6_reverse 4 = .ok (.iload_n 2, 1) := by decide +kernel
theorem dX6_reverse_5 : decode cX6_reverse 5 = .ok (.bipush 8, 2) := by decide +kernel
theorem dX6_reverse_7 : decode cX6_reverse 7 = .ok (.if_icmp .ge 26, 3) := by decide +kernel
theorem dX6_reverse_10 : decode cX6_reverse 10 = .ok (.iload_n 0, 1) := by decide +kernel
theorem dX6_reverse_11 : decode cX6_reverse 11 = .ok (.iconst 4, 1) := by decide +kernel
theorem dX6_reverse_12 : decode cX6_reverse 12 = .ok (.iload_n 2, 1) := by decide +kernel
theorem dX6_reverse_13 : decode cX6_reverse 13 = .ok (.imul, 1) := by decide +kernel
theorem dX6_reverse_14 : decode cX6_reverse 14 = .ok (.ishr, 1) := by decide +kernel
theorem dX6_reverse_15 : decode cX6_reverse 15 = .ok (.bipush 7, 2) := by decide +kernel
theorem dX6_reverse_17 : decode cX6_reverse 17 = .ok (.iand, 1) := by decide +kernel
theorem dX6_reverse_18 : decode cX6_reverse 18 = .ok (.istore_n 3, 1) := by decide +kernel
theorem dX6_reverse_19 : decode cX6_reverse 19 = .ok (.iload_n 1, 1) := by decide +kernel
theorem dX6_reverse_20 : decode cX6_reverse 20 = .ok (.iload_n 2, 1) := by decide +kernel
theorem dX6_reverse_21 : decode cX6_reverse 21 = .ok (.iconst 4, 1) := by decide +kernel
theorem dX6_reverse_22 : decode cX6_reverse 22 = .ok (.iload_n 3, 1) := by decide +kernel
theorem dX6_reverse_23 : decode cX6_reverse 23 = .ok (.imul, 1) := by decide +kernel
theorem dX6_reverse_24 : decode cX6_reverse 24 = .ok (.ishl, 1) := by decide +kernel
theorem dX6_reverse_25 : decode cX6_reverse 25 = .ok (.ior, 1) := by decide +kernel
theorem dX6_reverse_26 : decode cX6_reverse 26 = .ok (.istore_n 1, 1) := by decide +kernel
theorem dX6_reverse_27 : decode cX6_reverse 27 = .ok (.iinc 2 1, 3) := by decide +kernel
theorem dX6_reverse_30 : decode cX6_reverse 30 = .ok (.goto (-26), 3) := by decide +kernel
theorem dX6_reverse_33 : decode cX6_reverse 33 = .ok (.iload_n 1, 1) := by decide +kernel
theorem dX6_reverse_34 : decode cX6_reverse 34 = .ok (.ireturn, 1) := by decide +kernel
theorem dX6_swap_0 : decode cX6_swap 0 = .ok (.iload_n 0, 1) := by decide +kernel
theorem dX6_swap_1 : decode cX6_swap 1 = .ok (.iload_n 1, 1) := by decide +kernel
theorem dX6_swap_2 : decode cX6_swap 2 = .ok (.ixor, 1) := by decide +kernel
theorem dX6_swap_3 : decode cX6_swap 3 = .ok (.istore_n 2, 1) := by decide +kernel
theorem dX6_swap_4 : decode cX6_swap 4 = .ok (.ldc 73, 2) := by decide +kernel
theorem dX6_swap_6 : decode cX6_swap 6 = .ok (.iload_n 2, 1) := by decide +kernel
theorem dX6_swap_7 : decode cX6_swap 7 = .ok (.iconst 4, 1) := by decide +kernel
theorem dX6_swap_8 : decode cX6_swap 8 = .ok (.iload_n 0, 1) := by decide +kernel
theorem dX6_swap_9 : decode cX6_swap 9 = .ok (.imul, 1) := by decide +kernel
theorem dX6_swap_10 : decode cX6_swap 10 = .ok (.ishl, 1) := by decide +kernel
theorem dX6_swap_11 : decode cX6_swap 11 = .ok (.ixor, 1) := by decide +kernel
theorem dX6_swap_12 : decode cX6_swap 12 = .ok (.iload_n 2, 1) := by decide +kernel
theorem dX6_swap_13 : decode cX6_swap 13 = .ok (.iconst 4, 1) := by decide +kernel
theorem dX6_swap_14 : decode cX6_swap 14 = .ok (.iload_n 1, 1) := by decide +kernel
theorem dX6_swap_15 : decode cX6_swap 15 = .ok (.imul, 1) := by decide +kernel
theorem dX6_swap_16 : decode cX6_swap 16 = .ok (.ishl, 1) := by decide +kernel
theorem dX6_swap_17 : decode cX6_swap 17 = .ok (.ixor, 1) := by decide +kernel
theorem dX6_swap_18 : decode cX6_swap 18 = .ok (.ireturn, 1) := by decide +kernel
set_option maxRecDepth 20000 in
theorem ggX6_carried_X6_reverse : GoodIn wsX6_carried wsX6_reverse := goodIn_r _ [4] (by decide +kernel) (by decide +kernel)
set_option maxRecDepth 20000 in
theorem gX6_carried_X6_reverse : GoodIn wsX6_carried (va_wsS RX6 64 yX6_reverse wsX6_reverse) := goodIn_app (goodIn_of _ (by decide +kernel)) ggX6_carried_X6_reverse
set_option maxRecDepth 20000 in
theorem ggX6_carried_X6_chain : GoodIn wsX6_carried wsX6_chain := goodIn_r _ [7] (by decide +kernel) (by decide +kernel)
set_option maxRecDepth 20000 in
theorem gX6_carried_X6_chain : GoodIn wsX6_carried (va_wsS RX6 57 yX6_chain wsX6_chain) := goodIn_app (goodIn_of _ (by decide +kernel)) ggX6_carried_X6_chain
theorem dX6_carried_0 : decode cX6_carried 0 = .ok (.iload_n 1, 1) := by decide +kernel
theorem dX6_carried_1 : decode cX6_carried 1 = .ok (.invokestatic 64, 3) := by decide +kernel
theorem dX6_carried_4 : decode cX6_carried 4 = .ok (.iload_n 0, 1) := by decide +kernel
theorem dX6_carried_5 : decode cX6_carried 5 = .ok (.invokestatic 57, 3) := by decide +kernel
theorem dX6_carried_8 : decode cX6_carried 8 = .ok (.iload_n 1, 1) := by decide +kernel
theorem dX6_carried_9 : decode cX6_carried 9 = .ok (.invokestatic 57, 3) := by decide +kernel
theorem dX6_carried_12 : decode cX6_carried 12 = .ok (.ireturn, 1) := by decide +kernel
set_option maxRecDepth 20000 in
theorem ggX6_commutator_X6_reverse : GoodIn wsX6_commutator wsX6_reverse := goodIn_r _ [4] (by decide +kernel) (by decide +kernel)
set_option maxRecDepth 20000 in
theorem gX6_commutator_X6_reverse : GoodIn wsX6_commutator (va_wsS RX6 64 yX6_reverse wsX6_reverse) := goodIn_app (goodIn_of _ (by decide +kernel)) ggX6_commutator_X6_reverse
set_option maxRecDepth 20000 in
theorem ggX6_commutator_X6_chain : GoodIn wsX6_commutator wsX6_chain := goodIn_r _ [7] (by decide +kernel) (by decide +kernel)
set_option maxRecDepth 20000 in
theorem gX6_commutator_X6_chain : GoodIn wsX6_commutator (va_wsS RX6 57 yX6_chain wsX6_chain) := goodIn_app (goodIn_of _ (by decide +kernel)) ggX6_commutator_X6_chain
theorem dX6_commutator_0 : decode cX6_commutator 0 = .ok (.iload_n 0, 1) := by decide +kernel
theorem dX6_commutator_1 : decode cX6_commutator 1 = .ok (.invokestatic 64, 3) := by decide +kernel
theorem dX6_commutator_4 : decode cX6_commutator 4 = .ok (.iload_n 1, 1) := by decide +kernel
theorem dX6_commutator_5 : decode cX6_commutator 5 = .ok (.invokestatic 64, 3) := by decide +kernel
theorem dX6_commutator_8 : decode cX6_commutator 8 = .ok (.invokestatic 57, 3) := by decide +kernel
theorem dX6_commutator_11 : decode cX6_commutator 11 = .ok (.iload_n 0, 1) := by decide +kernel
theorem dX6_commutator_12 : decode cX6_commutator 12 = .ok (.iload_n 1, 1) := by decide +kernel
theorem dX6_commutator_13 : decode cX6_commutator 13 = .ok (.invokestatic 57, 3) := by decide +kernel
theorem dX6_commutator_16 : decode cX6_commutator 16 = .ok (.invokestatic 57, 3) := by decide +kernel
theorem dX6_commutator_19 : decode cX6_commutator 19 = .ok (.ireturn, 1) := by decide +kernel
set_option maxRecDepth 20000 in
theorem ggX6_timesToOne_X6_chain : GoodIn wsX6_timesToOne wsX6_chain := goodIn_r _ [5] (by decide +kernel) (by decide +kernel)
set_option maxRecDepth 20000 in
theorem gX6_timesToOne_X6_chain : GoodIn wsX6_timesToOne (va_wsS RX6 57 yX6_chain wsX6_chain) := goodIn_app (goodIn_of _ (by decide +kernel)) ggX6_timesToOne_X6_chain
theorem dX6_timesToOne_0 : decode cX6_timesToOne 0 = .ok (.iload_n 0, 1) := by decide +kernel
theorem dX6_timesToOne_1 : decode cX6_timesToOne 1 = .ok (.istore_n 1, 1) := by decide +kernel
theorem dX6_timesToOne_2 : decode cX6_timesToOne 2 = .ok (.iconst 1, 1) := by decide +kernel
theorem dX6_timesToOne_3 : decode cX6_timesToOne 3 = .ok (.istore_n 2, 1) := by decide +kernel
theorem dX6_timesToOne_4 : decode cX6_timesToOne 4 = .ok (.iload_n 1, 1) := by decide +kernel
theorem dX6_timesToOne_5 : decode cX6_timesToOne 5 = .ok (.ldc 73, 2) := by decide +kernel
theorem dX6_timesToOne_7 : decode cX6_timesToOne 7 = .ok (.if_icmp .eq 22, 3) := by decide +kernel
theorem dX6_timesToOne_10 : decode cX6_timesToOne 10 = .ok (.iload_n 2, 1) := by decide +kernel
theorem dX6_timesToOne_11 : decode cX6_timesToOne 11 = .ok (.sipush 1000, 3) := by decide +kernel
theorem dX6_timesToOne_14 : decode cX6_timesToOne 14 = .ok (.if_icmp .ge 15, 3) := by decide +kernel
theorem dX6_timesToOne_17 : decode cX6_timesToOne 17 = .ok (.iload_n 1, 1) := by decide +kernel
theorem dX6_timesToOne_18 : decode cX6_timesToOne 18 = .ok (.iload_n 0, 1) := by decide +kernel
theorem dX6_timesToOne_19 : decode cX6_timesToOne 19 = .ok (.invokestatic 57, 3) := by decide +kernel
theorem dX6_timesToOne_22 : decode cX6_timesToOne 22 = .ok (.istore_n 1, 1) := by decide +kernel
theorem dX6_timesToOne_23 : decode cX6_timesToOne 23 = .ok (.iinc 2 1, 3) := by decide +kernel
theorem dX6_timesToOne_26 : decode cX6_timesToOne 26 = .ok (.goto (-22), 3) := by decide +kernel
theorem dX6_timesToOne_29 : decode cX6_timesToOne 29 = .ok (.iload_n 2, 1) := by decide +kernel
theorem dX6_timesToOne_30 : decode cX6_timesToOne 30 = .ok (.ireturn, 1) := by decide +kernel
set_option maxRecDepth 20000 in
theorem ggX6_pointsLeft_X6_image : GoodIn wsX6_pointsLeft wsX6_image := goodIn_r _ [4] (by decide +kernel) (by decide +kernel)
set_option maxRecDepth 20000 in
theorem gX6_pointsLeft_X6_image : GoodIn wsX6_pointsLeft (va_wsS RX6 50 yX6_image wsX6_image) := goodIn_app (goodIn_of _ (by decide +kernel)) ggX6_pointsLeft_X6_image
theorem dX6_pointsLeft_0 : decode cX6_pointsLeft 0 = .ok (.iconst 0, 1) := by decide +kernel
theorem dX6_pointsLeft_1 : decode cX6_pointsLeft 1 = .ok (.istore_n 1, 1) := by decide +kernel
theorem dX6_pointsLeft_2 : decode cX6_pointsLeft 2 = .ok (.iconst 0, 1) := by decide +kernel
theorem dX6_pointsLeft_3 : decode cX6_pointsLeft 3 = .ok (.istore_n 2, 1) := by decide +kernel
theorem dX6_pointsLeft_4 : decode cX6_pointsLeft 4 = .ok (.iload_n 2, 1) := by decide +kernel
theorem dX6_pointsLeft_5 : decode cX6_pointsLeft 5 = .ok (.bipush 8, 2) := by decide +kernel
theorem dX6_pointsLeft_7 : decode cX6_pointsLeft 7 = .ok (.if_icmp .ge 21, 3) := by decide +kernel
theorem dX6_pointsLeft_10 : decode cX6_pointsLeft 10 = .ok (.iload_n 0, 1) := by decide +kernel
theorem dX6_pointsLeft_11 : decode cX6_pointsLeft 11 = .ok (.iload_n 2, 1) := by decide +kernel
theorem dX6_pointsLeft_12 : decode cX6_pointsLeft 12 = .ok (.invokestatic 50, 3) := by decide +kernel
theorem dX6_pointsLeft_15 : decode cX6_pointsLeft 15 = .ok (.iload_n 2, 1) := by decide +kernel
theorem dX6_pointsLeft_16 : decode cX6_pointsLeft 16 = .ok (.if_icmp .ne 6, 3) := by decide +kernel
theorem dX6_pointsLeft_19 : decode cX6_pointsLeft 19 = .ok (.iinc 1 1, 3) := by decide +kernel
theorem dX6_pointsLeft_22 : decode cX6_pointsLeft 22 = .ok (.iinc 2 1, 3) := by decide +kernel
theorem dX6_pointsLeft_25 : decode cX6_pointsLeft 25 = .ok (.goto (-21), 3) := by decide +kernel
theorem dX6_pointsLeft_28 : decode cX6_pointsLeft 28 = .ok (.iload_n 1, 1) := by decide +kernel
theorem dX6_pointsLeft_29 : decode cX6_pointsLeft 29 = .ok (.ireturn, 1) := by decide +kernel
set_option maxRecDepth 20000 in
theorem ggX6_isEven_X6_image : GoodIn wsX6_isEven wsX6_image := goodIn_r _ [4] (by decide +kernel) (by decide +kernel)
set_option maxRecDepth 20000 in
theorem gX6_isEven_X6_image : GoodIn wsX6_isEven (va_wsS RX6 50 yX6_image wsX6_image) := goodIn_app (goodIn_of _ (by decide +kernel)) ggX6_isEven_X6_image
theorem dX6_isEven_0 : decode cX6_isEven 0 = .ok (.iconst 0, 1) := by decide +kernel
theorem dX6_isEven_1 : decode cX6_isEven 1 = .ok (.istore_n 1, 1) := by decide +kernel
theorem dX6_isEven_2 : decode cX6_isEven 2 = .ok (.iconst 0, 1) := by decide +kernel
theorem dX6_isEven_3 : decode cX6_isEven 3 = .ok (.istore_n 2, 1) := by decide +kernel
theorem dX6_isEven_4 : decode cX6_isEven 4 = .ok (.iload_n 2, 1) := by decide +kernel
theorem dX6_isEven_5 : decode cX6_isEven 5 = .ok (.bipush 8, 2) := by decide +kernel
theorem dX6_isEven_7 : decode cX6_isEven 7 = .ok (.if_icmp .ge 41, 3) := by decide +kernel
theorem dX6_isEven_10 : decode cX6_isEven 10 = .ok (.iload_n 2, 1) := by decide +kernel
theorem dX6_isEven_11 : decode cX6_isEven 11 = .ok (.iconst 1, 1) := by decide +kernel
theorem dX6_isEven_12 : decode cX6_isEven 12 = .ok (.iadd, 1) := by decide +kernel
theorem dX6_isEven_13 : decode cX6_isEven 13 = .ok (.istore_n 3, 1) := by decide +kernel
theorem dX6_isEven_14 : decode cX6_isEven 14 = .ok (.iload_n 3, 1) := by decide +kernel
theorem dX6_isEven_15 : decode cX6_isEven 15 = .ok (.bipush 8, 2) := by decide +kernel
theorem dX6_isEven_17 : decode cX6_isEven 17 = .ok (.if_icmp .ge 25, 3) := by decide +kernel
theorem dX6_isEven_20 : decode cX6_isEven 20 = .ok (.iload_n 0, 1) := by decide +kernel
theorem dX6_isEven_21 : decode cX6_isEven 21 = .ok (.iload_n 2, 1) := by decide +kernel
theorem dX6_isEven_22 : decode cX6_isEven 22 = .ok (.invokestatic 50, 3) := by decide +kernel
theorem dX6_isEven_25 : decode cX6_isEven 25 = .ok (.iload_n 0, 1) := by decide +kernel
theorem dX6_isEven_26 : decode cX6_isEven 26 = .ok (.iload_n 3, 1) := by decide +kernel
theorem dX6_isEven_27 : decode cX6_isEven 27 = .ok (.invokestatic 50, 3) := by decide +kernel
theorem dX6_isEven_30 : decode cX6_isEven 30 = .ok (.if_icmp .le 6, 3) := by decide +kernel
theorem dX6_isEven_33 : decode cX6_isEven 33 = .ok (.iinc 1 1, 3) := by decide +kernel
theorem dX6_isEven_36 : decode cX6_isEven 36 = .ok (.iinc 3 1, 3) := by decide +kernel
theorem dX6_isEven_39 : decode cX6_isEven 39 = .ok (.goto (-25), 3) := by decide +kernel
theorem dX6_isEven_42 : decode cX6_isEven 42 = .ok (.iinc 2 1, 3) := by decide +kernel
theorem dX6_isEven_45 : decode cX6_isEven 45 = .ok (.goto (-41), 3) := by decide +kernel
theorem dX6_isEven_48 : decode cX6_isEven 48 = .ok (.iload_n 1, 1) := by decide +kernel
theorem dX6_isEven_49 : decode cX6_isEven 49 = .ok (.iconst 1, 1) := by decide +kernel
theorem dX6_isEven_50 : decode cX6_isEven 50 = .ok (.iand, 1) := by decide +kernel
theorem dX6_isEven_51 : decode cX6_isEven 51 = .ok (.ifCond .ne 7, 3) := by decide +kernel
theorem dX6_isEven_54 : decode cX6_isEven 54 = .ok (.iconst 1, 1) := by decide +kernel
theorem dX6_isEven_55 : decode cX6_isEven 55 = .ok (.goto 4, 3) := by decide +kernel
theorem dX6_isEven_58 : decode cX6_isEven 58 = .ok (.iconst 0, 1) := by decide +kernel
theorem dX6_isEven_59 : decode cX6_isEven 59 = .ok (.ireturn, 1) := by decide +kernel
