theorem dX4_init_0 : decode cX4_init 0 = .ok (.aload_n 0, 1) := by decide +kernel
theorem dX4_init_1 : decode cX4_init 1 = .ok (.invokespecial 5, 3) := by decide +kernel
theorem dX4_init_4 : decode cX4_init 4 = .ok (.aload_n 0, 1) := by decide +kernel
theorem dX4_init_5 : decode cX4_init 5 = .ok (.bipush 64, 2) := by decide +kernel
theorem dX4_init_7 : decode cX4_init 7 = .ok (.newarray .int, 2) := by decide +kernel
theorem dX4_init_9 : decode cX4_init 9 = .ok (.putfield 11, 3) := by decide +kernel
theorem dX4_init_12 : decode cX4_init 12 = .ok (.aload_n 0, 1) := by decide +kernel
theorem dX4_init_13 : decode cX4_init 13 = .ok (.bipush 64, 2) := by decide +kernel
theorem dX4_init_15 : decode cX4_init 15 = .ok (.newarray .int, 2) := by decide +kernel
theorem dX4_init_17 : decode cX4_init 17 = .ok (.putfield 15, 3) := by decide +kernel
theorem dX4_init_20 : decode cX4_init 20 = .ok (.aload_n 0, 1) := by decide +kernel
theorem dX4_init_21 : decode cX4_init 21 = .ok (.bipush 8, 2) := by decide +kernel
theorem dX4_init_23 : decode cX4_init 23 = .ok (.newarray .int, 2) := by decide +kernel
theorem dX4_init_25 : decode cX4_init 25 = .ok (.putfield 18, 3) := by decide +kernel
theorem dX4_init_28 : decode cX4_init 28 = .ok (.aload_n 0, 1) := by decide +kernel
theorem dX4_init_29 : decode cX4_init 29 = .ok (.bipush 28, 2) := by decide +kernel
theorem dX4_init_31 : decode cX4_init 31 = .ok (.newarray .int, 2) := by decide +kernel
theorem dX4_init_33 : decode cX4_init 33 = .ok (.putfield 21, 3) := by decide +kernel
theorem dX4_init_36 : decode cX4_init 36 = .ok (.aload_n 0, 1) := by decide +kernel
theorem dX4_init_37 : decode cX4_init 37 = .ok (.bipush 16, 2) := by decide +kernel
theorem dX4_init_39 : decode cX4_init 39 = .ok (.newarray .int, 2) := by decide +kernel
theorem dX4_init_41 : decode cX4_init 41 = .ok (.putfield 24, 3) := by decide +kernel
theorem dX4_init_44 : decode cX4_init 44 = .ok (.return_, 1) := by decide +kernel
theorem dX4_clear_0 : decode cX4_clear 0 = .ok (.iconst 0, 1) := by decide +kernel
theorem dX4_clear_1 : decode cX4_clear 1 = .ok (.istore_n 1, 1) := by decide +kernel
theorem dX4_clear_2 : decode cX4_clear 2 = .ok (.iload_n 1, 1) := by decide +kernel
theorem dX4_clear_3 : decode cX4_clear 3 = .ok (.bipush 8, 2) := by decide +kernel
theorem dX4_clear_5 : decode cX4_clear 5 = .ok (.if_icmp .ge 18, 3) := by decide +kernel
theorem dX4_clear_8 : decode cX4_clear 8 = .ok (.aload_n 0, 1) := by decide +kernel
theorem dX4_clear_9 : decode cX4_clear 9 = .ok (.getfield 18, 3) := by decide +kernel
theorem dX4_clear_12 : decode cX4_clear 12 = .ok (.iload_n 1, 1) := by decide +kernel
theorem dX4_clear_13 : decode cX4_clear 13 = .ok (.iconst 1, 1) := by decide +kernel
theorem dX4_clear_14 : decode cX4_clear 14 = .ok (.iload_n 1, 1) := by decide +kernel
theorem dX4_clear_15 : decode cX4_clear 15 = .ok (.ishl, 1) := by decide +kernel
theorem dX4_clear_16 : decode cX4_clear 16 = .ok (.iastore, 1) := by decide +kernel
theorem dX4_clear_17 : decode cX4_clear 17 = .ok (.iinc 1 1, 3) := by decide +kernel
theorem dX4_clear_20 : decode cX4_clear 20 = .ok (.goto (-18), 3) := by decide +kernel
theorem dX4_clear_23 : decode cX4_clear 23 = .ok (.aload_n 0, 1) := by decide +kernel
theorem dX4_clear_24 : decode cX4_clear 24 = .ok (.iconst 0, 1) := by decide +kernel
theorem dX4_clear_25 : decode cX4_clear 25 = .ok (.putfield 27, 3) := by decide +kernel
theorem dX4_clear_28 : decode cX4_clear 28 = .ok (.aload_n 0, 1) := by decide +kernel
theorem dX4_clear_29 : decode cX4_clear 29 = .ok (.iconst 0, 1) := by decide +kernel
theorem dX4_clear_30 : decode cX4_clear 30 = .ok (.putfield 31, 3) := by decide +kernel
theorem dX4_clear_33 : decode cX4_clear 33 = .ok (.return_, 1) := by decide +kernel
theorem dX4_copyFrom_0 : decode cX4_copyFrom 0 = .ok (.aload_n 1, 1) := by decide +kernel
theorem dX4_copyFrom_1 : decode cX4_copyFrom 1 = .ok (.getfield 11, 3) := by decide +kernel
theorem dX4_copyFrom_4 : decode cX4_copyFrom 4 = .ok (.iconst 0, 1) := by decide +kernel
theorem dX4_copyFrom_5 : decode cX4_copyFrom 5 = .ok (.aload_n 0, 1) := by decide +kernel
theorem dX4_copyFrom_6 : decode cX4_copyFrom 6 = .ok (.getfield 11, 3) := by decide +kernel
theorem dX4_copyFrom_9 : decode cX4_copyFrom 9 = .ok (.iconst 0, 1) := by decide +kernel
theorem dX4_copyFrom_10 : decode cX4_copyFrom 10 = .ok (.bipush 64, 2) := by decide +kernel
theorem dX4_copyFrom_12 : decode cX4_copyFrom 12 = .ok (.invokestatic 34, 3) := by decide +kernel
theorem dX4_copyFrom_15 : decode cX4_copyFrom 15 = .ok (.aload_n 1, 1) := by decide +kernel
theorem dX4_copyFrom_16 : decode cX4_copyFrom 16 = .ok (.getfield 15, 3) := by decide +kernel
theorem dX4_copyFrom_19 : decode cX4_copyFrom 19 = .ok (.iconst 0, 1) := by decide +kernel
theorem dX4_copyFrom_20 : decode cX4_copyFrom 20 = .ok (.aload_n 0, 1) := by decide +kernel
theorem dX4_copyFrom_21 : decode cX4_copyFrom 21 = .ok (.getfield 15, 3) := by decide +kernel
theorem dX4_copyFrom_24 : decode cX4_copyFrom 24 = .ok (.iconst 0, 1) := by decide +kernel
theorem dX4_copyFrom_25 : decode cX4_copyFrom 25 = .ok (.bipush 64, 2) := by decide +kernel
theorem dX4_copyFrom_27 : decode cX4_copyFrom 27 = .ok (.invokestatic 34, 3) := by decide +kernel
theorem dX4_copyFrom_30 : decode cX4_copyFrom 30 = .ok (.aload_n 1, 1) := by decide +kernel
theorem dX4_copyFrom_31 : decode cX4_copyFrom 31 = .ok (.getfield 18, 3) := by decide +kernel
theorem dX4_copyFrom_34 : decode cX4_copyFrom 34 = .ok (.iconst 0, 1) := by decide +kernel
theorem dX4_copyFrom_35 : decode cX4_copyFrom 35 = .ok (.aload_n 0, 1) := by decide +kernel
theorem dX4_copyFrom_36 : decode cX4_copyFrom 36 = .ok (.getfield 18, 3) := by decide +kernel
theorem dX4_copyFrom_39 : decode cX4_copyFrom 39 = .ok (.iconst 0, 1) := by decide +kernel
theorem dX4_copyFrom_40 : decode cX4_copyFrom 40 = .ok (.bipush 8, 2) := by decide +kernel
theorem dX4_copyFrom_42 : decode cX4_copyFrom 42 = .ok (.invokestatic 34, 3) := by decide +kernel
theorem dX4_copyFrom_45 : decode cX4_copyFrom 45 = .ok (.aload_n 1, 1) := by decide +kernel
theorem dX4_copyFrom_46 : decode cX4_copyFrom 46 = .ok (.getfield 21, 3) := by decide +kernel
theorem dX4_copyFrom_49 : decode cX4_copyFrom 49 = .ok (.iconst 0, 1) := by decide +kernel
theorem dX4_copyFrom_50 : decode cX4_copyFrom 50 = .ok (.aload_n 0, 1) := by decide +kernel
theorem dX4_copyFrom_51 : decode cX4_copyFrom 51 = .ok (.getfield 21, 3) := by decide +kernel
theorem dX4_copyFrom_54 : decode cX4_copyFrom 54 = .ok (.iconst 0, 1) := by decide +kernel
theorem dX4_copyFrom_55 : decode cX4_copyFrom 55 = .ok (.bipush 28, 2) := by decide +kernel
theorem dX4_copyFrom_57 : decode cX4_copyFrom 57 = .ok (.invokestatic 34, 3) := by decide +kernel
theorem dX4_copyFrom_60 : decode cX4_copyFrom 60 = .ok (.aload_n 1, 1) := by decide +kernel
theorem dX4_copyFrom_61 : decode cX4_copyFrom 61 = .ok (.getfield 24, 3) := by decide +kernel
theorem dX4_copyFrom_64 : decode cX4_copyFrom 64 = .ok (.iconst 0, 1) := by decide +kernel
theorem dX4_copyFrom_65 : decode cX4_copyFrom 65 = .ok (.aload_n 0, 1) := by decide +kernel
theorem dX4_copyFrom_66 : decode cX4_copyFrom 66 = .ok (.getfield 24, 3) := by decide +kernel
theorem dX4_copyFrom_69 : decode cX4_copyFrom 69 = .ok (.iconst 0, 1) := by decide +kernel
theorem dX4_copyFrom_70 : decode cX4_copyFrom 70 = .ok (.bipush 16, 2) := by decide +kernel
theorem dX4_copyFrom_72 : decode cX4_copyFrom 72 = .ok (.invokestatic 34, 3) := by decide +kernel
theorem dX4_copyFrom_75 : decode cX4_copyFrom 75 = .ok (.aload_n 0, 1) := by decide +kernel
theorem dX4_copyFrom_76 : decode cX4_copyFrom 76 = .ok (.aload_n 1, 1) := by decide +kernel
theorem dX4_copyFrom_77 : decode cX4_copyFrom 77 = .ok (.getfield 27, 3) := by decide +kernel
theorem dX4_copyFrom_80 : decode cX4_copyFrom 80 = .ok (.putfield 27, 3) := by decide +kernel
theorem dX4_copyFrom_83 : decode cX4_copyFrom 83 = .ok (.aload_n 0, 1) := by decide +kernel
theorem dX4_copyFrom_84 : decode cX4_copyFrom 84 = .ok (.aload_n 1, 1) := by decide +kernel
theorem dX4_copyFrom_85 : decode cX4_copyFrom 85 = .ok (.getfield 31, 3) := by decide +kernel
theorem dX4_copyFrom_88 : decode cX4_copyFrom 88 = .ok (.putfield 31, 3) := by decide +kernel
theorem dX4_copyFrom_91 : decode cX4_copyFrom 91 = .ok (.return_, 1) := by decide +kernel
set_option maxRecDepth 20000 in
theorem ggX4_join_X4_settle : GoodIn wsX4_join wsX4_settle := goodIn_r _ [8, 9, 10, 11, 12, 1, 13, 14, 15, 16, 17, 18, 7, 19, 20, 21, 22, 23, 24, 25, 26, 27, 35, 36, 37, 38, 39, 40, 41] (by decide +kernel) (by decide +kernel)
set_option maxRecDepth 20000 in
theorem gX4_join_X4_settle : GoodIn wsX4_join (wsV RX4 40 RX4 yX4_settle wsX4_settle) := goodIn_app (goodIn_of _ (by decide +kernel)) ggX4_join_X4_settle
set_option maxRecDepth 20000 in
theorem ggX4_join_X4_spreadFrom : GoodIn wsX4_join wsX4_spreadFrom := goodIn_r _ [31, 1, 13, 10, 32, 33, 7, 34, 26, 15, 27, 4, 5, 6, 8, 9, 11, 12, 14, 16, 17, 18, 19, 20, 21, 22, 23, 24, 25, 35, 36, 37, 38, 39, 40, 41] (by decide +kernel) (by decide +kernel)
set_option maxRecDepth 20000 in
theorem gX4_join_X4_spreadFrom : GoodIn wsX4_join (wsV RX4 44 RX4 yX4_spreadFrom wsX4_spreadFrom) := goodIn_app (goodIn_of _ (by decide +kernel)) ggX4_join_X4_spreadFrom
theorem dX4_join_0 : decode cX4_join 0 = .ok (.aload_n 0, 1) := by decide +kernel
theorem dX4_join_1 : decode cX4_join 1 = .ok (.getfield 27, 3) := by decide +kernel
theorem dX4_join_4 : decode cX4_join 4 = .ok (.istore_n 2, 1) := by decide +kernel
theorem dX4_join_5 : decode cX4_join 5 = .ok (.aload_n 0, 1) := by decide +kernel
theorem dX4_join_6 : decode cX4_join 6 = .ok (.iload_n 1, 1) := by decide +kernel
theorem dX4_join_7 : decode cX4_join 7 = .ok (.invokevirtual 40, 3) := by decide +kernel
theorem dX4_join_10 : decode cX4_join 10 = .ok (.aload_n 0, 1) := by decide +kernel
theorem dX4_join_11 : decode cX4_join 11 = .ok (.getfield 27, 3) := by decide +kernel
theorem dX4_join_14 : decode cX4_join 14 = .ok (.iload_n 2, 1) := by decide +kernel
theorem dX4_join_15 : decode cX4_join 15 = .ok (.if_icmp .ne 5, 3) := by decide +kernel
theorem dX4_join_18 : decode cX4_join 18 = .ok (.iconst 0, 1) := by decide +kernel
theorem dX4_join_19 : decode cX4_join 19 = .ok (.ireturn, 1) := by decide +kernel
theorem dX4_join_20 : decode cX4_join 20 = .ok (.aload_n 0, 1) := by decide +kernel
theorem dX4_join_21 : decode cX4_join 21 = .ok (.getfield 31, 3) := by decide +kernel
theorem dX4_join_24 : decode cX4_join 24 = .ok (.bipush 16, 2) := by decide +kernel
theorem dX4_join_26 : decode cX4_join 26 = .ok (.if_icmp .ge 23, 3) := by decide +kernel
theorem dX4_join_29 : decode cX4_join 29 = .ok (.aload_n 0, 1) := by decide +kernel
theorem dX4_join_30 : decode cX4_join 30 = .ok (.getfield 24, 3) := by decide +kernel
theorem dX4_join_33 : decode cX4_join 33 = .ok (.aload_n 0, 1) := by decide +kernel
theorem dX4_join_34 : decode cX4_join 34 = .ok (.getfield 31, 3) := by decide +kernel
theorem dX4_join_37 : decode cX4_join 37 = .ok (.iload_n 1, 1) := by decide +kernel
theorem dX4_join_38 : decode cX4_join 38 = .ok (.iastore, 1) := by decide +kernel
theorem dX4_join_39 : decode cX4_join 39 = .ok (.aload_n 0, 1) := by decide +kernel
theorem dX4_join_40 : decode cX4_join 40 = .ok (.dup, 1) := by decide +kernel
theorem dX4_join_41 : decode cX4_join 41 = .ok (.getfield 31, 3) := by decide +kernel
theorem dX4_join_44 : decode cX4_join 44 = .ok (.iconst 1, 1) := by decide +kernel
theorem dX4_join_45 : decode cX4_join 45 = .ok (.iadd, 1) := by decide +kernel
theorem dX4_join_46 : decode cX4_join 46 = .ok (.putfield 31, 3) := by decide +kernel
theorem dX4_join_49 : decode cX4_join 49 = .ok (.aload_n 0, 1) := by decide +kernel
theorem dX4_join_50 : decode cX4_join 50 = .ok (.iload_n 2, 1) := by decide +kernel
theorem dX4_join_51 : decode cX4_join 51 = .ok (.invokevirtual 44, 3) := by decide +kernel
theorem dX4_join_54 : decode cX4_join 54 = .ok (.iconst 1, 1) := by decide +kernel
theorem dX4_join_55 : decode cX4_join 55 = .ok (.ireturn, 1) := by decide +kernel
set_option maxRecDepth 20000 in
theorem ggX4_joinAll_X4_join : GoodIn wsX4_joinAll wsX4_join := goodIn_r _ [7, 8, 1, 2, 9, 10, 11, 6, 12, 13, 14, 15, 16, 17, 18, 19, 20, 21, 22, 23, 24, 25, 26, 27, 28, 29, 30, 31, 32, 33, 34, 35, 36, 37, 38, 39, 40, 41, 42, 43, 44, 45] (by decide +kernel) (by decide +kernel)
set_option maxRecDepth 20000 in
theorem gX4_joinAll_X4_join : GoodIn wsX4_joinAll (wsV RX4 47 RX4 yX4_join wsX4_join) := goodIn_app (goodIn_of _ (by decide +kernel)) ggX4_joinAll_X4_join
theorem dX4_joinAll_0 : decode cX4_joinAll 0 = .ok (.iconst 0, 1) := by decide +kernel
theorem dX4_joinAll_1 : decode cX4_joinAll 1 = .ok (.istore_n 2, 1) := by decide +kernel
theorem dX4_joinAll_2 : decode cX4_joinAll 2 = .ok (.iload_n 2, 1) := by decide +kernel
theorem dX4_joinAll_3 : decode cX4_joinAll 3 = .ok (.aload_n 1, 1) := by decide +kernel
theorem dX4_joinAll_4 : decode cX4_joinAll 4 = .ok (.getfield 31, 3) := by decide +kernel
theorem dX4_joinAll_7 : decode cX4_joinAll 7 = .ok (.if_icmp .ge 20, 3) := by decide +kernel
theorem dX4_joinAll_10 : decode cX4_joinAll 10 = .ok (.aload_n 0, 1) := by decide +kernel
theorem dX4_joinAll_11 : decode cX4_joinAll 11 = .ok (.aload_n 1, 1) := by decide +kernel
theorem dX4_joinAll_12 : decode cX4_joinAll 12 = .ok (.getfield 24, 3) := by decide +kernel
theorem dX4_joinAll_15 : decode cX4_joinAll 15 = .ok (.iload_n 2, 1) := by decide +kernel
theorem dX4_joinAll_16 : decode cX4_joinAll 16 = .ok (.iaload, 1) := by decide +kernel
theorem dX4_joinAll_17 : decode cX4_joinAll 17 = .ok (.invokevirtual 47, 3) := by decide +kernel
theorem dX4_joinAll_20 : decode cX4_joinAll 20 = .ok (.pop, 1) := by decide +kernel
theorem dX4_joinAll_21 : decode cX4_joinAll 21 = .ok (.iinc 2 1, 3) := by decide +kernel
theorem dX4_joinAll_24 : decode cX4_joinAll 24 = .ok (.goto (-22), 3) := by decide +kernel
theorem dX4_joinAll_27 : decode cX4_joinAll 27 = .ok (.return_, 1) := by decide +kernel
set_option maxRecDepth 20000 in
theorem ggX4_closeUnder_X6_carried : GoodIn wsX4_closeUnder wsX6_carried := goodIn_r _ [5, 6, 7, 4, 8, 9, 10, 11] (by decide +kernel) (by decide +kernel)
set_option maxRecDepth 20000 in
theorem gX4_closeUnder_X6_carried_n51 : GoodIn wsX4_closeUnder (wsX6_carried) := ggX4_closeUnder_X6_carried
set_option maxRecDepth 20000 in
theorem ggX4_closeUnder_X4_join : GoodIn wsX4_closeUnder wsX4_join := goodIn_r _ [16, 17, 1, 2, 18, 19, 20, 15, 21, 22, 23, 24, 25, 26, 27, 4, 28, 29, 30, 31, 32, 33, 34, 35, 7, 8, 10, 11, 36, 37, 38, 39, 40, 41, 42, 43, 44, 45, 46, 47, 48, 49] (by decide +kernel) (by decide +kernel)
set_option maxRecDepth 20000 in
theorem gX4_closeUnder_X4_join : GoodIn wsX4_closeUnder (wsV RX4 47 RX4 yX4_join wsX4_join) := goodIn_app (goodIn_of _ (by decide +kernel)) ggX4_closeUnder_X4_join
theorem dX4_closeUnder_0 : decode cX4_closeUnder 0 = .ok (.iconst 0, 1) := by decide +kernel
theorem dX4_closeUnder_1 : decode cX4_closeUnder 1 = .ok (.istore_n 2, 1) := by decide +kernel
theorem dX4_closeUnder_2 : decode cX4_closeUnder 2 = .ok (.iload_n 2, 1) := by decide +kernel
theorem dX4_closeUnder_3 : decode cX4_closeUnder 3 = .ok (.aload_n 0, 1) := by decide +kernel
theorem dX4_closeUnder_4 : decode cX4_closeUnder 4 = .ok (.getfield 31, 3) := by decide +kernel
theorem dX4_closeUnder_7 : decode cX4_closeUnder 7 = .ok (.if_icmp .ge 51, 3) := by decide +kernel
theorem dX4_closeUnder_10 : decode cX4_closeUnder 10 = .ok (.iload_n 2, 1) := by decide +kernel
theorem dX4_closeUnder_11 : decode cX4_closeUnder 11 = .ok (.bipush 16, 2) := by decide +kernel
theorem dX4_closeUnder_13 : decode cX4_closeUnder 13 = .ok (.if_icmp .ge 45, 3) := by decide +kernel
theorem dX4_closeUnder_16 : decode cX4_closeUnder 16 = .ok (.iconst 0, 1) := by decide +kernel
theorem dX4_closeUnder_17 : decode cX4_closeUnder 17 = .ok (.istore_n 3, 1) := by decide +kernel
theorem dX4_closeUnder_18 : decode cX4_closeUnder 18 = .ok (.iload_n 3, 1) := by decide +kernel
theorem dX4_closeUnder_19 : decode cX4_closeUnder 19 = .ok (.aload_n 1, 1) := by decide +kernel
theorem dX4_closeUnder_20 : decode cX4_closeUnder 20 = .ok (.getfield 31, 3) := by decide +kernel
theorem dX4_closeUnder_23 : decode cX4_closeUnder 23 = .ok (.if_icmp .ge 29, 3) := by decide +kernel
theorem dX4_closeUnder_26 : decode cX4_closeUnder 26 = .ok (.aload_n 0, 1) := by decide +kernel
theorem dX4_closeUnder_27 : decode cX4_closeUnder 27 = .ok (.aload_n 0, 1) := by decide +kernel
theorem dX4_closeUnder_28 : decode cX4_closeUnder 28 = .ok (.getfield 24, 3) := by decide +kernel
theorem dX4_closeUnder_31 : decode cX4_closeUnder 31 = .ok (.iload_n 2, 1) := by decide +kernel
theorem dX4_closeUnder_32 : decode cX4_closeUnder 32 = .ok (.iaload, 1) := by decide +kernel
theorem dX4_closeUnder_33 : decode cX4_closeUnder 33 = .ok (.aload_n 1, 1) := by decide +kernel
theorem dX4_closeUnder_34 : decode cX4_closeUnder 34 = .ok (.getfield 24, 3) := by decide +kernel
theorem dX4_closeUnder_37 : decode cX4_closeUnder 37 = .ok (.iload_n 3, 1) := by decide +kernel
theorem dX4_closeUnder_38 : decode cX4_closeUnder 38 = .ok (.iaload, 1) := by decide +kernel
theorem dX4_closeUnder_39 : decode cX4_closeUnder 39 = .ok (.invokestatic 51, 3) := by decide +kernel
theorem dX4_closeUnder_42 : decode cX4_closeUnder 42 = .ok (.invokevirtual 47, 3) := by decide +kernel
theorem dX4_closeUnder_45 : decode cX4_closeUnder 45 = .ok (.pop, 1) := by decide +kernel
theorem dX4_closeUnder_46 : decode cX4_closeUnder 46 = .ok (.iinc 3 1, 3) := by decide +kernel
theorem dX4_closeUnder_49 : decode cX4_closeUnder 49 = .ok (.goto (-31), 3) := by decide +kernel
theorem dX4_closeUnder_52 : decode cX4_closeUnder 52 = .ok (.iinc 2 1, 3) := by decide +kernel
theorem dX4_closeUnder_55 : decode cX4_closeUnder 55 = .ok (.goto (-53), 3) := by decide +kernel
theorem dX4_closeUnder_58 : decode cX4_closeUnder 58 = .ok (.return_, 1) := by decide +kernel
set_option maxRecDepth 20000 in
theorem ggX4_becomeCarried_X4_clear : GoodIn wsX4_becomeCarried wsX4_clear := goodIn_r _ [7, 8, 9, 1, 47, 48, 49, 50, 51, 52, 53] (by decide +kernel) (by decide +kernel)
set_option maxRecDepth 20000 in
theorem gX4_becomeCarried_X4_clear : GoodIn wsX4_becomeCarried (wsV RX4 55 RX4 yX4_clear wsX4_clear) := goodIn_app (goodIn_of _ (by decide +kernel)) ggX4_becomeCarried_X4_clear
set_option maxRecDepth 20000 in
theorem ggX4_becomeCarried_X6_carried : GoodIn wsX4_becomeCarried wsX6_carried := goodIn_r _ [12, 13, 14, 11, 15, 16, 17, 18] (by decide +kernel) (by decide +kernel)
set_option maxRecDepth 20000 in
theorem gX4_becomeCarried_X6_carried_n51 : GoodIn wsX4_becomeCarried (wsX6_carried) := ggX4_becomeCarried_X6_carried
set_option maxRecDepth 20000 in
theorem ggX4_becomeCarried_X4_join : GoodIn wsX4_becomeCarried wsX4_join := goodIn_r _ [22, 9, 1, 2, 23, 24, 25, 6, 26, 27, 28, 29, 8, 30, 31, 11, 32, 33, 34, 35, 36, 37, 38, 39, 14, 15, 17, 18, 40, 41, 42, 43, 44, 45, 46, 47, 48, 49, 50, 51, 52, 53] (by decide +kernel) (by decide +kernel)
set_option maxRecDepth 20000 in
theorem gX4_becomeCarried_X4_join : GoodIn wsX4_becomeCarried (wsV RX4 47 RX4 yX4_join wsX4_join) := goodIn_app (goodIn_of _ (by decide +kernel)) ggX4_becomeCarried_X4_join
theorem dX4_becomeCarried_0 : decode cX4_becomeCarried 0 = .ok (.aload_n 0, 1) := by decide +kernel
theorem dX4_becomeCarried_1 : decode cX4_becomeCarried 1 = .ok (.invokevirtual 55, 3) := by decide +kernel
theorem dX4_becomeCarried_4 : decode cX4_becomeCarried 4 = .ok (.iconst 0, 1) := by decide +kernel
theorem dX4_becomeCarried_5 : decode cX4_becomeCarried 5 = .ok (.istore_n 3, 1) := by decide +kernel
theorem dX4_becomeCarried_6 : decode cX4_becomeCarried 6 = .ok (.iload_n 3, 1) := by decide +kernel
theorem dX4_becomeCarried_7 : decode cX4_becomeCarried 7 = .ok (.aload_n 1, 1) := by decide +kernel
theorem dX4_becomeCarried_8 : decode cX4_becomeCarried 8 = .ok (.getfield 31, 3) := by decide +kernel
theorem dX4_becomeCarried_11 : decode cX4_becomeCarried 11 = .ok (.if_icmp .ge 24, 3) := by decide +kernel
theorem dX4_becomeCarried_14 : decode cX4_becomeCarried 14 = .ok (.aload_n 0, 1) := by decide +kernel
theorem dX4_becomeCarried_15 : decode cX4_becomeCarried 15 = .ok (.aload_n 1, 1) := by decide +kernel
theorem dX4_becomeCarried_16 : decode cX4_becomeCarried 16 = .ok (.getfield 24, 3) := by decide +kernel
theorem dX4_becomeCarried_19 : decode cX4_becomeCarried 19 = .ok (.iload_n 3, 1) := by decide +kernel
theorem dX4_becomeCarried_20 : decode cX4_becomeCarried 20 = .ok (.iaload, 1) := by decide +kernel
theorem dX4_becomeCarried_21 : decode cX4_becomeCarried 21 = .ok (.iload_n 2, 1) := by decide +kernel
theorem dX4_becomeCarried_22 : decode cX4_becomeCarried 22 = .ok (.invokestatic 51, 3) := by decide +kernel
theorem dX4_becomeCarried_25 : decode cX4_becomeCarried 25 = .ok (.invokevirtual 47, 3) := by decide +kernel
theorem dX4_becomeCarried_28 : decode cX4_becomeCarried 28 = .ok (.pop, 1) := by decide +kernel
theorem dX4_becomeCarried_29 : decode cX4_becomeCarried 29 = .ok (.iinc 3 1, 3) := by decide +kernel
theorem dX4_becomeCarried_32 : decode cX4_becomeCarried 32 = .ok (.goto (-26), 3) := by decide +kernel
theorem dX4_becomeCarried_35 : decode cX4_becomeCarried 35 = .ok (.return_, 1) := by decide +kernel
set_option maxRecDepth 20000 in
theorem ggX4_becomeDown_X4_clear : GoodIn wsX4_becomeDown wsX4_clear := goodIn_r _ [7, 8, 9, 1, 53, 54, 55, 56, 57, 58, 59] (by decide +kernel) (by decide +kernel)
set_option maxRecDepth 20000 in
theorem gX4_becomeDown_X4_clear : GoodIn wsX4_becomeDown (wsV RX4 55 RX4 yX4_clear wsX4_clear) := goodIn_app (goodIn_of _ (by decide +kernel)) ggX4_becomeDown_X4_clear
set_option maxRecDepth 20000 in
theorem ggX4_becomeDown_X6_commutator : GoodIn wsX4_becomeDown wsX6_commutator := goodIn_r _ [12, 13, 14, 11, 15, 16, 17, 18] (by decide +kernel) (by decide +kernel)
set_option maxRecDepth 20000 in
theorem gX4_becomeDown_X6_commutator_n58 : GoodIn wsX4_becomeDown (wsX6_commutator) := ggX4_becomeDown_X6_commutator
set_option maxRecDepth 20000 in
theorem ggX4_becomeDown_X4_join : GoodIn wsX4_becomeDown wsX4_join := goodIn_r _ [22, 9, 1, 2, 23, 24, 25, 6, 26, 27, 28, 29, 8, 30, 31, 11, 32, 33, 34, 35, 36, 37, 38, 39, 14, 15, 17, 18, 40, 41, 42, 43, 44, 45, 46, 53, 54, 55, 56, 57, 58, 59] (by decide +kernel) (by decide +kernel)
set_option maxRecDepth 20000 in
theorem gX4_becomeDown_X4_join : GoodIn wsX4_becomeDown (wsV RX4 47 RX4 yX4_join wsX4_join) := goodIn_app (goodIn_of _ (by decide +kernel)) ggX4_becomeDown_X4_join
set_option maxRecDepth 20000 in
theorem ggX4_becomeDown_X4_closeUnder : GoodIn wsX4_becomeDown wsX4_closeUnder := goodIn_r _ [50, 1, 2, 51, 11, 52, 13, 14, 15, 16, 17, 18, 19, 20, 21, 6, 22, 9, 23, 24, 25, 26, 27, 28, 29, 8, 30, 31, 32, 33, 34, 35, 36, 37, 38, 39, 40, 41, 42, 43, 44, 45, 46, 53, 54, 55, 56, 57, 58, 59] (by decide +kernel) (by decide +kernel)
set_option maxRecDepth 20000 in
theorem gX4_becomeDown_X4_closeUnder : GoodIn wsX4_becomeDown (wsV RX4 61 RX4 yX4_closeUnder wsX4_closeUnder) := goodIn_app (goodIn_of _ (by decide +kernel)) ggX4_becomeDown_X4_closeUnder
theorem dX4_becomeDown_0 : decode cX4_becomeDown 0 = .ok (.aload_n 0, 1) := by decide +kernel
theorem dX4_becomeDown_1 : decode cX4_becomeDown 1 = .ok (.invokevirtual 55, 3) := by decide +kernel
theorem dX4_becomeDown_4 : decode cX4_becomeDown 4 = .ok (.iconst 0, 1) := by decide +kernel
theorem dX4_becomeDown_5 : decode cX4_becomeDown 5 = .ok (.istore_n 2, 1) := by decide +kernel
theorem dX4_becomeDown_6 : decode cX4_becomeDown 6 = .ok (.iload_n 2, 1) := by decide +kernel
theorem dX4_becomeDown_7 : decode cX4_becomeDown 7 = .ok (.aload_n 1, 1) := by decide +kernel
theorem dX4_becomeDown_8 : decode cX4_becomeDown 8 = .ok (.getfield 31, 3) := by decide +kernel
theorem dX4_becomeDown_11 : decode cX4_becomeDown 11 = .ok (.if_icmp .ge 42, 3) := by decide +kernel
theorem dX4_becomeDown_14 : decode cX4_becomeDown 14 = .ok (.iconst 0, 1) := by decide +kernel
theorem dX4_becomeDown_15 : decode cX4_becomeDown 15 = .ok (.istore_n 3, 1) := by decide +kernel
theorem dX4_becomeDown_16 : decode cX4_becomeDown 16 = .ok (.iload_n 3, 1) := by decide +kernel
theorem dX4_becomeDown_17 : decode cX4_becomeDown 17 = .ok (.iload_n 2, 1) := by decide +kernel
theorem dX4_becomeDown_18 : decode cX4_becomeDown 18 = .ok (.if_icmp .ge 29, 3) := by decide +kernel
theorem dX4_becomeDown_21 : decode cX4_becomeDown 21 = .ok (.aload_n 0, 1) := by decide +kernel
theorem dX4_becomeDown_22 : decode cX4_becomeDown 22 = .ok (.aload_n 1, 1) := by decide +kernel
theorem dX4_becomeDown_23 : decode cX4_becomeDown 23 = .ok (.getfield 24, 3) := by decide +kernel
theorem dX4_becomeDown_26 : decode cX4_becomeDown 26 = .ok (.iload_n 2, 1) := by decide +kernel
theorem dX4_becomeDown_27 : decode cX4_becomeDown 27 = .ok (.iaload, 1) := by decide +kernel
theorem dX4_becomeDown_28 : decode cX4_becomeDown 28 = .ok (.aload_n 1, 1) := by decide +kernel
theorem dX4_becomeDown_29 : decode cX4_becomeDown 29 = .ok (.getfield 24, 3) := by decide +kernel
theorem dX4_becomeDown_32 : decode cX4_becomeDown 32 = .ok (.iload_n 3, 1) := by decide +kernel
theorem dX4_becomeDown_33 : decode cX4_becomeDown 33 = .ok (.iaload, 1) := by decide +kernel
theorem dX4_becomeDown_34 : decode cX4_becomeDown 34 = .ok (.invokestatic 58, 3) := by decide +kernel
theorem dX4_becomeDown_37 : decode cX4_becomeDown 37 = .ok (.invokevirtual 47, 3) := by decide +kernel
theorem dX4_becomeDown_40 : decode cX4_becomeDown 40 = .ok (.pop, 1) := by decide +kernel
theorem dX4_becomeDown_41 : decode cX4_becomeDown 41 = .ok (.iinc 3 1, 3) := by decide +kernel
theorem dX4_becomeDown_44 : decode cX4_becomeDown 44 = .ok (.goto (-28), 3) := by decide +kernel
theorem dX4_becomeDown_47 : decode cX4_becomeDown 47 = .ok (.iinc 2 1, 3) := by decide +kernel
theorem dX4_becomeDown_50 : decode cX4_becomeDown 50 = .ok (.goto (-44), 3) := by decide +kernel
theorem dX4_becomeDown_53 : decode cX4_becomeDown 53 = .ok (.aload_n 0, 1) := by decide +kernel
theorem dX4_becomeDown_54 : decode cX4_becomeDown 54 = .ok (.aload_n 1, 1) := by decide +kernel
theorem dX4_becomeDown_55 : decode cX4_becomeDown 55 = .ok (.invokevirtual 61, 3) := by decide +kernel
theorem dX4_becomeDown_58 : decode cX4_becomeDown 58 = .ok (.return_, 1) := by decide +kernel
set_option maxRecDepth 20000 in
theorem ggX4_gather_X4_clear : GoodIn wsX4_gather wsX4_clear := goodIn_r _ [5, 6, 7, 8, 85, 86, 87, 88, 89, 90, 91] (by decide +kernel) (by decide +kernel)
set_option maxRecDepth 20000 in
theorem gX4_gather_X4_clear : GoodIn wsX4_gather (wsV RX4 55 RX4 yX4_clear wsX4_clear) := goodIn_app (goodIn_of _ (by decide +kernel)) ggX4_gather_X4_clear
set_option maxRecDepth 20000 in
theorem ggX4_gather_X4_reaches : GoodIn wsX4_gather wsX4_reaches := goodIn_r _ [12, 6, 85, 86, 87, 88, 89, 90, 91] (by decide +kernel) (by decide +kernel)
set_option maxRecDepth 20000 in
theorem gX4_gather_X4_reaches : GoodIn wsX4_gather (wsV RX4 65 RX4 yX4_reaches wsX4_reaches) := goodIn_app (goodIn_of _ (by decide +kernel)) ggX4_gather_X4_reaches
set_option maxRecDepth 20000 in
theorem ggX4_gather_X4_searchCell : GoodIn wsX4_gather wsX4_searchCell := goodIn_r _ [16, 17, 18, 19, 4, 20, 21, 22, 23, 24, 25, 26, 27, 28, 29, 30, 31, 32, 33, 34, 35, 36, 37, 38, 39, 40, 41, 42, 43, 44, 45, 46, 47, 48, 49, 50, 51, 52, 53, 54, 9, 10, 11, 12, 6, 55, 56, 57, 58, 59, 60, 61, 62, 63, 64, 65, 66, 85, 86, 87, 88, 89, 90, 91, 92, 93, 94, 95, 96] (by decide +kernel) (by decide +kernel)
set_option maxRecDepth 20000 in
theorem gX4_gather_X4_searchCell : GoodIn wsX4_gather (wsV RX4 69 RX4 yX4_searchCell wsX4_searchCell) := goodIn_app (goodIn_of _ (by decide +kernel)) ggX4_gather_X4_searchCell
set_option maxRecDepth 20000 in
theorem ggX4_gather_X4_join : GoodIn wsX4_gather wsX4_join := goodIn_r _ [70, 7, 8, 71, 72, 73, 74, 4, 75, 76, 17, 54, 6, 77, 29, 30, 31, 18, 19, 20, 9, 10, 11, 12, 61, 62, 55, 56, 78, 79, 80, 81, 82, 83, 84, 85, 86, 87, 88, 89, 90, 91] (by decide +kernel) (by decide +kernel)
set_option maxRecDepth 20000 in
theorem gX4_gather_X4_join : GoodIn wsX4_gather (wsV RX4 47 RX4 yX4_join wsX4_join) := goodIn_app (goodIn_of _ (by decide +kernel)) ggX4_gather_X4_join
theorem dX4_gather_0 : decode cX4_gather 0 = .ok (.aload_n 0, 1) := by decide +kernel
theorem dX4_gather_1 : decode cX4_gather 1 = .ok (.invokevirtual 55, 3) := by decide +kernel
theorem dX4_gather_4 : decode cX4_gather 4 = .ok (.bipush 7, 2) := by decide +kernel
theorem dX4_gather_6 : decode cX4_gather 6 = .ok (.istore_n 3, 1) := by decide +kernel
theorem dX4_gather_7 : decode cX4_gather 7 = .ok (.iload_n 3, 1) := by decide +kernel
theorem dX4_gather_8 : decode cX4_gather 8 = .ok (.ifCond .lt 69, 3) := by decide +kernel
theorem dX4_gather_11 : decode cX4_gather 11 = .ok (.iload_n 3, 1) := by decide +kernel
theorem dX4_gather_12 : decode cX4_gather 12 = .ok (.iconst 1, 1) := by decide +kernel
theorem dX4_gather_13 : decode cX4_gather 13 = .ok (.iadd, 1) := by decide +kernel
theorem dX4_gather_14 : decode cX4_gather 14 = .ok (.istore 4, 2) := by decide +kernel
theorem dX4_gather_16 : decode cX4_gather 16 = .ok (.iload 4, 2) := by decide +kernel
theorem dX4_gather_18 : decode cX4_gather 18 = .ok (.bipush 8, 2) := by decide +kernel
theorem dX4_gather_20 : decode cX4_gather 20 = .ok (.if_icmp .ge 51, 3) := by decide +kernel
theorem dX4_gather_23 : decode cX4_gather 23 = .ok (.aload_n 1, 1) := by decide +kernel
theorem dX4_gather_24 : decode cX4_gather 24 = .ok (.iload_n 3, 1) := by decide +kernel
theorem dX4_gather_25 : decode cX4_gather 25 = .ok (.iload 4, 2) := by decide +kernel
theorem dX4_gather_27 : decode cX4_gather 27 = .ok (.invokevirtual 65, 3) := by decide +kernel
theorem dX4_gather_30 : decode cX4_gather 30 = .ok (.ifCond .eq 35, 3) := by decide +kernel
theorem dX4_gather_33 : decode cX4_gather 33 = .ok (.aload_n 0, 1) := by decide +kernel
theorem dX4_gather_34 : decode cX4_gather 34 = .ok (.iload_n 3, 1) := by decide +kernel
theorem dX4_gather_35 : decode cX4_gather 35 = .ok (.iload 4, 2) := by decide +kernel
theorem dX4_gather_37 : decode cX4_gather 37 = .ok (.invokevirtual 65, 3) := by decide +kernel
theorem dX4_gather_40 : decode cX4_gather 40 = .ok (.ifCond .ne 25, 3) := by decide +kernel
theorem dX4_gather_43 : decode cX4_gather 43 = .ok (.aload_n 1, 1) := by decide +kernel
theorem dX4_gather_44 : decode cX4_gather 44 = .ok (.aload_n 2, 1) := by decide +kernel
theorem dX4_gather_45 : decode cX4_gather 45 = .ok (.iload_n 3, 1) := by decide +kernel
theorem dX4_gather_46 : decode cX4_gather 46 = .ok (.iload 4, 2) := by decide +kernel
theorem dX4_gather_48 : decode cX4_gather 48 = .ok (.invokevirtual 69, 3) := by decide +kernel
theorem dX4_gather_51 : decode cX4_gather 51 = .ok (.istore 5, 2) := by decide +kernel
theorem dX4_gather_53 : decode cX4_gather 53 = .ok (.iload 5, 2) := by decide +kernel
theorem dX4_gather_55 : decode cX4_gather 55 = .ok (.ifCond .eq 10, 3) := by decide +kernel
theorem dX4_gather_58 : decode cX4_gather 58 = .ok (.aload_n 0, 1) := by decide +kernel
theorem dX4_gather_59 : decode cX4_gather 59 = .ok (.iload 5, 2) := by decide +kernel
theorem dX4_gather_61 : decode cX4_gather 61 = .ok (.invokevirtual 47, 3) := by decide +kernel
theorem dX4_gather_64 : decode cX4_gather 64 = .ok (.pop, 1) := by decide +kernel
theorem dX4_gather_65 : decode cX4_gather 65 = .ok (.iinc 4 1, 3) := by decide +kernel
theorem dX4_gather_68 : decode cX4_gather 68 = .ok (.goto (-52), 3) := by decide +kernel
theorem dX4_gather_71 : decode cX4_gather 71 = .ok (.iinc 3 (-1), 3) := by decide +kernel
theorem dX4_gather_74 : decode cX4_gather 74 = .ok (.goto (-67), 3) := by decide +kernel
theorem dX4_gather_77 : decode cX4_gather 77 = .ok (.return_, 1) := by decide +kernel
set_option maxRecDepth 20000 in
theorem ggX4_holds_X4_holdsStart : GoodIn wsX4_holds wsX4_holdsStart := goodIn_r _ [5, 6, 7, 8, 9, 10, 11, 12, 4, 13, 14, 15, 16, 17, 18, 19, 20, 21, 22, 23, 24, 25, 26] (by decide +kernel) (by decide +kernel)
set_option maxRecDepth 20000 in
theorem gX4_holds_X4_holdsStart : GoodIn wsX4_holds (wsV RX4 73 RX4 yX4_holdsStart wsX4_holdsStart) := goodIn_app (goodIn_of _ (by decide +kernel)) ggX4_holds_X4_holdsStart
theorem dX4_holds_0 : decode cX4_holds 0 = .ok (.aload_n 0, 1) := by decide +kernel
theorem dX4_holds_1 : decode cX4_holds 1 = .ok (.iload_n 1, 1) := by decide +kernel
theorem dX4_holds_2 : decode cX4_holds 2 = .ok (.bipush 7, 2) := by decide +kernel
theorem dX4_holds_4 : decode cX4_holds 4 = .ok (.invokevirtual 73, 3) := by decide +kernel
theorem dX4_holds_7 : decode cX4_holds 7 = .ok (.ireturn, 1) := by decide +kernel
set_option maxRecDepth 20000 in
theorem ggX4_holdsStart_X6_image : GoodIn wsX4_holdsStart wsX6_image := goodIn_r _ [4] (by decide +kernel) (by decide +kernel)
set_option maxRecDepth 20000 in
theorem gX4_holdsStart_X6_image_n76 : GoodIn wsX4_holdsStart (wsX6_image) := ggX4_holdsStart_X6_image
set_option maxRecDepth 20000 in
theorem ggX4_holdsStart_X4_reaches : GoodIn wsX4_holdsStart wsX4_reaches := goodIn_r _ [9, 10, 16, 17, 18, 19, 20, 21, 22] (by decide +kernel) (by decide +kernel)
set_option maxRecDepth 20000 in
theorem gX4_holdsStart_X4_reaches : GoodIn wsX4_holdsStart (wsV RX4 65 RX4 yX4_reaches wsX4_reaches) := goodIn_app (goodIn_of _ (by decide +kernel)) ggX4_holdsStart_X4_reaches
set_option maxRecDepth 20000 in
theorem ggX4_holdsStart_X4_cellOf : GoodIn wsX4_holdsStart wsX4_cellOf := goodIn_r _ [13] (by decide +kernel) (by decide +kernel)
set_option maxRecDepth 20000 in
theorem gX4_holdsStart_X4_cellOf : GoodIn wsX4_holdsStart (va_wsS RX4 79 yX4_cellOf wsX4_cellOf) := goodIn_app (goodIn_of _ (by decide +kernel)) ggX4_holdsStart_X4_cellOf
set_option maxRecDepth 20000 in
theorem ggX4_holdsStart_X6_chain : GoodIn wsX4_holdsStart wsX6_chain := goodIn_r _ [15] (by decide +kernel) (by decide +kernel)
set_option maxRecDepth 20000 in
theorem gX4_holdsStart_X6_chain_n82 : GoodIn wsX4_holdsStart (wsX6_chain) := ggX4_holdsStart_X6_chain
theorem dX4_holdsStart_0 : decode cX4_holdsStart 0 = .ok (.iload_n 1, 1) := by decide +kernel
theorem dX4_holdsStart_1 : decode cX4_holdsStart 1 = .ok (.istore_n 3, 1) := by decide +kernel
theorem dX4_holdsStart_2 : decode cX4_holdsStart 2 = .ok (.iconst 0, 1) := by decide +kernel
theorem dX4_holdsStart_3 : decode cX4_holdsStart 3 = .ok (.istore 4, 2) := by decide +kernel
theorem dX4_holdsStart_5 : decode cX4_holdsStart 5 = .ok (.iload 4, 2) := by decide +kernel
theorem dX4_holdsStart_7 : decode cX4_holdsStart 7 = .ok (.iload_n 2, 1) := by decide +kernel
theorem dX4_holdsStart_8 : decode cX4_holdsStart 8 = .ok (.if_icmp .gt 61, 3) := by decide +kernel
theorem dX4_holdsStart_11 : decode cX4_holdsStart 11 = .ok (.iload 4, 2) := by decide +kernel
theorem dX4_holdsStart_13 : decode cX4_holdsStart 13 = .ok (.bipush 8, 2) := by decide +kernel
theorem dX4_holdsStart_15 : decode cX4_holdsStart 15 = .ok (.if_icmp .ge 54, 3) := by decide +kernel
theorem dX4_holdsStart_18 : decode cX4_holdsStart 18 = .ok (.iload_n 3, 1) := by decide +kernel
theorem dX4_holdsStart_19 : decode cX4_holdsStart 19 = .ok (.iload 4, 2) := by decide +kernel
theorem dX4_holdsStart_21 : decode cX4_holdsStart 21 = .ok (.invokestatic 76, 3) := by decide +kernel
theorem dX4_holdsStart_24 : decode cX4_holdsStart 24 = .ok (.istore 5, 2) := by decide +kernel
theorem dX4_holdsStart_26 : decode cX4_holdsStart 26 = .ok (.aload_n 0, 1) := by decide +kernel
theorem dX4_holdsStart_27 : decode cX4_holdsStart 27 = .ok (.iload 4, 2) := by decide +kernel
theorem dX4_holdsStart_29 : decode cX4_holdsStart 29 = .ok (.iload 5, 2) := by decide +kernel
theorem dX4_holdsStart_31 : decode cX4_holdsStart 31 = .ok (.invokevirtual 65, 3) := by decide +kernel
theorem dX4_holdsStart_34 : decode cX4_holdsStart 34 = .ok (.ifCond .ne 5, 3) := by decide +kernel
theorem dX4_holdsStart_37 : decode cX4_holdsStart 37 = .ok (.iconst 0, 1) := by decide +kernel
theorem dX4_holdsStart_38 : decode cX4_holdsStart 38 = .ok (.ireturn, 1) := by decide +kernel
theorem dX4_holdsStart_39 : decode cX4_holdsStart 39 = .ok (.iload 5, 2) := by decide +kernel
theorem dX4_holdsStart_41 : decode cX4_holdsStart 41 = .ok (.iload 4, 2) := by decide +kernel
theorem dX4_holdsStart_43 : decode cX4_holdsStart 43 = .ok (.if_icmp .eq 20, 3) := by decide +kernel
theorem dX4_holdsStart_46 : decode cX4_holdsStart 46 = .ok (.iload_n 3, 1) := by decide +kernel
theorem dX4_holdsStart_47 : decode cX4_holdsStart 47 = .ok (.aload_n 0, 1) := by decide +kernel
theorem dX4_holdsStart_48 : decode cX4_holdsStart 48 = .ok (.getfield 15, 3) := by decide +kernel
theorem dX4_holdsStart_51 : decode cX4_holdsStart 51 = .ok (.iload 4, 2) := by decide +kernel
theorem dX4_holdsStart_53 : decode cX4_holdsStart 53 = .ok (.iload 5, 2) := by decide +kernel
theorem dX4_holdsStart_55 : decode cX4_holdsStart 55 = .ok (.invokestatic 79, 3) := by decide +kernel
theorem dX4_holdsStart_58 : decode cX4_holdsStart 58 = .ok (.iaload, 1) := by decide +kernel
theorem dX4_holdsStart_59 : decode cX4_holdsStart 59 = .ok (.invokestatic 82, 3) := by decide +kernel
theorem dX4_holdsStart_62 : decode cX4_holdsStart 62 = .ok (.istore_n 3, 1) := by decide +kernel
theorem dX4_holdsStart_63 : decode cX4_holdsStart 63 = .ok (.iinc 4 1, 3) := by decide +kernel
theorem dX4_holdsStart_66 : decode cX4_holdsStart 66 = .ok (.goto (-61), 3) := by decide +kernel
theorem dX4_holdsStart_69 : decode cX4_holdsStart 69 = .ok (.iconst 1, 1) := by decide +kernel
theorem dX4_holdsStart_70 : decode cX4_holdsStart 70 = .ok (.ireturn, 1) := by decide +kernel
set_option maxRecDepth 20000 in
theorem ggX4_isWithin_X4_holds : GoodIn wsX4_isWithin wsX4_holds := goodIn_r _ [7, 8, 9, 10, 6, 11, 12, 13, 14, 15, 16, 17, 18, 19, 20, 21, 22, 23, 24, 25, 26, 27, 28, 29, 30, 31, 32] (by decide +kernel) (by decide +kernel)
set_option maxRecDepth 20000 in
theorem gX4_isWithin_X4_holds : GoodIn wsX4_isWithin (wsV RX4 85 RX4 yX4_holds wsX4_holds) := goodIn_app (goodIn_of _ (by decide +kernel)) ggX4_isWithin_X4_holds
theorem dX4_isWithin_0 : decode cX4_isWithin 0 = .ok (.iconst 0, 1) := by decide +kernel
theorem dX4_isWithin_1 : decode cX4_isWithin 1 = .ok (.istore_n 2, 1) := by decide +kernel
theorem dX4_isWithin_2 : decode cX4_isWithin 2 = .ok (.iload_n 2, 1) := by decide +kernel
theorem dX4_isWithin_3 : decode cX4_isWithin 3 = .ok (.aload_n 0, 1) := by decide +kernel
theorem dX4_isWithin_4 : decode cX4_isWithin 4 = .ok (.getfield 31, 3) := by decide +kernel
theorem dX4_isWithin_7 : decode cX4_isWithin 7 = .ok (.if_icmp .ge 24, 3) := by decide +kernel
theorem dX4_isWithin_10 : decode cX4_isWithin 10 = .ok (.aload_n 1, 1) := by decide +kernel
theorem dX4_isWithin_11 : decode cX4_isWithin 11 = .ok (.aload_n 0, 1) := by decide +kernel
theorem dX4_isWithin_12 : decode cX4_isWithin 12 = .ok (.getfield 24, 3) := by decide +kernel
theorem dX4_isWithin_15 : decode cX4_isWithin 15 = .ok (.iload_n 2, 1) := by decide +kernel
theorem dX4_isWithin_16 : decode cX4_isWithin 16 = .ok (.iaload, 1) := by decide +kernel
theorem dX4_isWithin_17 : decode cX4_isWithin 17 = .ok (.invokevirtual 85, 3) := by decide +kernel
theorem dX4_isWithin_20 : decode cX4_isWithin 20 = .ok (.ifCond .ne 5, 3) := by decide +kernel
theorem dX4_isWithin_23 : decode cX4_isWithin 23 = .ok (.iconst 0, 1) := by decide +kernel
theorem dX4_isWithin_24 : decode cX4_isWithin 24 = .ok (.ireturn, 1) := by decide +kernel
theorem dX4_isWithin_25 : decode cX4_isWithin 25 = .ok (.iinc 2 1, 3) := by decide +kernel
theorem dX4_isWithin_28 : decode cX4_isWithin 28 = .ok (.goto (-26), 3) := by decide +kernel
theorem dX4_isWithin_31 : decode cX4_isWithin 31 = .ok (.iconst 1, 1) := by decide +kernel
theorem dX4_isWithin_32 : decode cX4_isWithin 32 = .ok (.ireturn, 1) := by decide +kernel
set_option maxRecDepth 20000 in
theorem ggX4_staysUnder_X6_carried : GoodIn wsX4_staysUnder wsX6_carried := goodIn_r _ [5, 6, 7, 4, 8, 9, 10, 11] (by decide +kernel) (by decide +kernel)
set_option maxRecDepth 20000 in
theorem gX4_staysUnder_X6_carried_n51 : GoodIn wsX4_staysUnder (wsX6_carried) := ggX4_staysUnder_X6_carried
set_option maxRecDepth 20000 in
theorem ggX4_staysUnder_X4_holds : GoodIn wsX4_staysUnder wsX4_holds := goodIn_r _ [16, 17, 18, 19, 15, 20, 21, 22, 4, 23, 24, 25, 26, 27, 28, 29, 30, 31, 10, 11, 32, 33, 34, 35, 36, 37, 38] (by decide +kernel) (by decide +kernel)
set_option maxRecDepth 20000 in
theorem gX4_staysUnder_X4_holds : GoodIn wsX4_staysUnder (wsV RX4 85 RX4 yX4_holds wsX4_holds) := goodIn_app (goodIn_of _ (by decide +kernel)) ggX4_staysUnder_X4_holds
theorem dX4_staysUnder_0 : decode cX4_staysUnder 0 = .ok (.iconst 0, 1) := by decide +kernel
theorem dX4_staysUnder_1 : decode cX4_staysUnder 1 = .ok (.istore_n 2, 1) := by decide +kernel
theorem dX4_staysUnder_2 : decode cX4_staysUnder 2 = .ok (.iload_n 2, 1) := by decide +kernel
theorem dX4_staysUnder_3 : decode cX4_staysUnder 3 = .ok (.aload_n 0, 1) := by decide +kernel
theorem dX4_staysUnder_4 : decode cX4_staysUnder 4 = .ok (.getfield 31, 3) := by decide +kernel
theorem dX4_staysUnder_7 : decode cX4_staysUnder 7 = .ok (.if_icmp .ge 49, 3) := by decide +kernel
theorem dX4_staysUnder_10 : decode cX4_staysUnder 10 = .ok (.iconst 0, 1) := by decide +kernel
theorem dX4_staysUnder_11 : decode cX4_staysUnder 11 = .ok (.istore_n 3, 1) := by decide +kernel
theorem dX4_staysUnder_12 : decode cX4_staysUnder 12 = .ok (.iload_n 3, 1) := by decide +kernel
theorem dX4_staysUnder_13 : decode cX4_staysUnder 13 = .ok (.aload_n 1, 1) := by decide +kernel
theorem dX4_staysUnder_14 : decode cX4_staysUnder 14 = .ok (.getfield 31, 3) := by decide +kernel
theorem dX4_staysUnder_17 : decode cX4_staysUnder 17 = .ok (.if_icmp .ge 33, 3) := by decide +kernel
theorem dX4_staysUnder_20 : decode cX4_staysUnder 20 = .ok (.aload_n 0, 1) := by decide +kernel
theorem dX4_staysUnder_21 : decode cX4_staysUnder 21 = .ok (.aload_n 0, 1) := by decide +kernel
theorem dX4_staysUnder_22 : decode cX4_staysUnder 22 = .ok (.getfield 24, 3) := by decide +kernel
theorem dX4_staysUnder_25 : decode cX4_staysUnder 25 = .ok (.iload_n 2, 1) := by decide +kernel
theorem dX4_staysUnder_26 : decode cX4_staysUnder 26 = .ok (.iaload, 1) := by decide +kernel
theorem dX4_staysUnder_27 : decode cX4_staysUnder 27 = .ok (.aload_n 1, 1) := by decide +kernel
theorem dX4_staysUnder_28 : decode cX4_staysUnder 28 = .ok (.getfield 24, 3) := by decide +kernel
theorem dX4_staysUnder_31 : decode cX4_staysUnder 31 = .ok (.iload_n 3, 1) := by decide +kernel
theorem dX4_staysUnder_32 : decode cX4_staysUnder 32 = .ok (.iaload, 1) := by decide +kernel
theorem dX4_staysUnder_33 : decode cX4_staysUnder 33 = .ok (.invokestatic 51, 3) := by decide +kernel
theorem dX4_staysUnder_36 : decode cX4_staysUnder 36 = .ok (.invokevirtual 85, 3) := by decide +kernel
theorem dX4_staysUnder_39 : decode cX4_staysUnder 39 = .ok (.ifCond .ne 5, 3) := by decide +kernel
theorem dX4_staysUnder_42 : decode cX4_staysUnder 42 = .ok (.iconst 0, 1) := by decide +kernel
theorem dX4_staysUnder_43 : decode cX4_staysUnder 43 = .ok (.ireturn, 1) := by decide +kernel
theorem dX4_staysUnder_44 : decode cX4_staysUnder 44 = .ok (.iinc 3 1, 3) := by decide +kernel
theorem dX4_staysUnder_47 : decode cX4_staysUnder 47 = .ok (.goto (-35), 3) := by decide +kernel
theorem dX4_staysUnder_50 : decode cX4_staysUnder 50 = .ok (.iinc 2 1, 3) := by decide +kernel
theorem dX4_staysUnder_53 : decode cX4_staysUnder 53 = .ok (.goto (-51), 3) := by decide +kernel
theorem dX4_staysUnder_56 : decode cX4_staysUnder 56 = .ok (.iconst 1, 1) := by decide +kernel
theorem dX4_staysUnder_57 : decode cX4_staysUnder 57 = .ok (.ireturn, 1) := by decide +kernel
set_option maxRecDepth 20000 in
theorem ggX4_turnsFrom_J6_bitCount_0f7a4 : GoodIn wsX4_turnsFrom wsJ6_bitCount_0f7a4 := goodIn_r _ [5, 6, 7, 8] (by decide +kernel) (by decide +kernel)
set_option maxRecDepth 20000 in
theorem gX4_turnsFrom_J6_bitCount_0f7a4 : GoodIn wsX4_turnsFrom (va_wsS RX4 88 yJ6_bitCount_0f7a4 wsJ6_bitCount_0f7a4) := goodIn_app (goodIn_of _ (by decide +kernel)) ggX4_turnsFrom_J6_bitCount_0f7a4
theorem dX4_turnsFrom_0 : decode cX4_turnsFrom 0 = .ok (.iconst 1, 1) := by decide +kernel
theorem dX4_turnsFrom_1 : decode cX4_turnsFrom 1 = .ok (.istore_n 2, 1) := by decide +kernel
theorem dX4_turnsFrom_2 : decode cX4_turnsFrom 2 = .ok (.iload_n 1, 1) := by decide +kernel
theorem dX4_turnsFrom_3 : decode cX4_turnsFrom 3 = .ok (.istore_n 3, 1) := by decide +kernel
theorem dX4_turnsFrom_4 : decode cX4_turnsFrom 4 = .ok (.iload_n 3, 1) := by decide +kernel
theorem dX4_turnsFrom_5 : decode cX4_turnsFrom 5 = .ok (.bipush 8, 2) := by decide +kernel
theorem dX4_turnsFrom_7 : decode cX4_turnsFrom 7 = .ok (.if_icmp .ge 21, 3) := by decide +kernel
theorem dX4_turnsFrom_10 : decode cX4_turnsFrom 10 = .ok (.iload_n 2, 1) := by decide +kernel
theorem dX4_turnsFrom_11 : decode cX4_turnsFrom 11 = .ok (.aload_n 0, 1) := by decide +kernel
theorem dX4_turnsFrom_12 : decode cX4_turnsFrom 12 = .ok (.getfield 18, 3) := by decide +kernel
theorem dX4_turnsFrom_15 : decode cX4_turnsFrom 15 = .ok (.iload_n 3, 1) := by decide +kernel
theorem dX4_turnsFrom_16 : decode cX4_turnsFrom 16 = .ok (.iaload, 1) := by decide +kernel
theorem dX4_turnsFrom_17 : decode cX4_turnsFrom 17 = .ok (.invokestatic 88, 3) := by decide +kernel
theorem dX4_turnsFrom_20 : decode cX4_turnsFrom 20 = .ok (.imul, 1) := by decide +kernel
theorem dX4_turnsFrom_21 : decode cX4_turnsFrom 21 = .ok (.istore_n 2, 1) := by decide +kernel
theorem dX4_turnsFrom_22 : decode cX4_turnsFrom 22 = .ok (.iinc 3 1, 3) := by decide +kernel
theorem dX4_turnsFrom_25 : decode cX4_turnsFrom 25 = .ok (.goto (-21), 3) := by decide +kernel
theorem dX4_turnsFrom_28 : decode cX4_turnsFrom 28 = .ok (.iload_n 2, 1) := by decide +kernel
theorem dX4_turnsFrom_29 : decode cX4_turnsFrom 29 = .ok (.ireturn, 1) := by decide +kernel
set_option maxRecDepth 20000 in
theorem ggX4_orbitFrom_X4_levelOf : GoodIn wsX4_orbitFrom wsX4_levelOf := goodIn_r _ [7] (by decide +kernel) (by decide +kernel)
set_option maxRecDepth 20000 in
theorem gX4_orbitFrom_X4_levelOf : GoodIn wsX4_orbitFrom (va_wsS RX4 94 yX4_levelOf wsX4_levelOf) := goodIn_app (goodIn_of _ (by decide +kernel)) ggX4_orbitFrom_X4_levelOf
set_option maxRecDepth 20000 in
theorem ggX4_orbitFrom_X4_imageOfSet : GoodIn wsX4_orbitFrom wsX4_imageOfSet := goodIn_r _ [10, 11, 12, 13] (by decide +kernel) (by decide +kernel)
set_option maxRecDepth 20000 in
theorem gX4_orbitFrom_X4_imageOfSet : GoodIn wsX4_orbitFrom (va_wsS RX4 97 yX4_imageOfSet wsX4_imageOfSet) := goodIn_app (goodIn_of _ (by decide +kernel)) ggX4_orbitFrom_X4_imageOfSet
theorem dX4_orbitFrom_0 : decode cX4_orbitFrom 0 = .ok (.iconst 1, 1) := by decide +kernel
theorem dX4_orbitFrom_1 : decode cX4_orbitFrom 1 = .ok (.iload_n 2, 1) := by decide +kernel
theorem dX4_orbitFrom_2 : decode cX4_orbitFrom 2 = .ok (.ishl, 1) := by decide +kernel
theorem dX4_orbitFrom_3 : decode cX4_orbitFrom 3 = .ok (.istore_n 3, 1) := by decide +kernel
theorem dX4_orbitFrom_4 : decode cX4_orbitFrom 4 = .ok (.iconst 0, 1) := by decide +kernel
theorem dX4_orbitFrom_5 : decode cX4_orbitFrom 5 = .ok (.istore 4, 2) := by decide +kernel
theorem dX4_orbitFrom_7 : decode cX4_orbitFrom 7 = .ok (.iconst 0, 1) := by decide +kernel
theorem dX4_orbitFrom_8 : decode cX4_orbitFrom 8 = .ok (.istore 5, 2) := by decide +kernel
theorem dX4_orbitFrom_10 : decode cX4_orbitFrom 10 = .ok (.iload 5, 2) := by decide +kernel
theorem dX4_orbitFrom_12 : decode cX4_orbitFrom 12 = .ok (.bipush 8, 2) := by decide +kernel
theorem dX4_orbitFrom_14 : decode cX4_orbitFrom 14 = .ok (.if_icmp .ge 69, 3) := by decide +kernel
theorem dX4_orbitFrom_17 : decode cX4_orbitFrom 17 = .ok (.iload_n 3, 1) := by decide +kernel
theorem dX4_orbitFrom_18 : decode cX4_orbitFrom 18 = .ok (.iload 4, 2) := by decide +kernel
theorem dX4_orbitFrom_20 : decode cX4_orbitFrom 20 = .ok (.if_icmp .eq 63, 3) := by decide +kernel
theorem dX4_orbitFrom_23 : decode cX4_orbitFrom 23 = .ok (.iload_n 3, 1) := by decide +kernel
theorem dX4_orbitFrom_24 : decode cX4_orbitFrom 24 = .ok (.istore 4, 2) := by decide +kernel
theorem dX4_orbitFrom_26 : decode cX4_orbitFrom 26 = .ok (.iconst 0, 1) := by decide +kernel
theorem dX4_orbitFrom_27 : decode cX4_orbitFrom 27 = .ok (.istore 6, 2) := by decide +kernel
theorem dX4_orbitFrom_29 : decode cX4_orbitFrom 29 = .ok (.iload 6, 2) := by decide +kernel
theorem dX4_orbitFrom_31 : decode cX4_orbitFrom 31 = .ok (.aload_n 0, 1) := by decide +kernel
theorem dX4_orbitFrom_32 : decode cX4_orbitFrom 32 = .ok (.getfield 27, 3) := by decide +kernel
theorem dX4_orbitFrom_35 : decode cX4_orbitFrom 35 = .ok (.if_icmp .ge 42, 3) := by decide +kernel
theorem dX4_orbitFrom_38 : decode cX4_orbitFrom 38 = .ok (.aload_n 0, 1) := by decide +kernel
theorem dX4_orbitFrom_39 : decode cX4_orbitFrom 39 = .ok (.getfield 21, 3) := by decide +kernel
theorem dX4_orbitFrom_42 : decode cX4_orbitFrom 42 = .ok (.iload 6, 2) := by decide +kernel
theorem dX4_orbitFrom_44 : decode cX4_orbitFrom 44 = .ok (.iaload, 1) := by decide +kernel
theorem dX4_orbitFrom_45 : decode cX4_orbitFrom 45 = .ok (.invokestatic 94, 3) := by decide +kernel
theorem dX4_orbitFrom_48 : decode cX4_orbitFrom 48 = .ok (.iload_n 1, 1) := by decide +kernel
theorem dX4_orbitFrom_49 : decode cX4_orbitFrom 49 = .ok (.if_icmp .lt 22, 3) := by decide +kernel
theorem dX4_orbitFrom_52 : decode cX4_orbitFrom 52 = .ok (.iload_n 3, 1) := by decide +kernel
theorem dX4_orbitFrom_53 : decode cX4_orbitFrom 53 = .ok (.aload_n 0, 1) := by decide +kernel
theorem dX4_orbitFrom_54 : decode cX4_orbitFrom 54 = .ok (.getfield 11, 3) := by decide +kernel
theorem dX4_orbitFrom_57 : decode cX4_orbitFrom 57 = .ok (.aload_n 0, 1) := by decide +kernel
theorem dX4_orbitFrom_58 : decode cX4_orbitFrom 58 = .ok (.getfield 21, 3) := by decide +kernel
theorem dX4_orbitFrom_61 : decode cX4_orbitFrom 61 = .ok (.iload 6, 2) := by decide +kernel
theorem dX4_orbitFrom_63 : decode cX4_orbitFrom 63 = .ok (.iaload, 1) := by decide +kernel
theorem dX4_orbitFrom_64 : decode cX4_orbitFrom 64 = .ok (.iaload, 1) := by decide +kernel
theorem dX4_orbitFrom_65 : decode cX4_orbitFrom 65 = .ok (.iload_n 3, 1) := by decide +kernel
theorem dX4_orbitFrom_66 : decode cX4_orbitFrom 66 = .ok (.invokestatic 97, 3) := by decide +kernel
theorem dX4_orbitFrom_69 : decode cX4_orbitFrom 69 = .ok (.ior, 1) := by decide +kernel
theorem dX4_orbitFrom_70 : decode cX4_orbitFrom 70 = .ok (.istore_n 3, 1) := by decide +kernel
theorem dX4_orbitFrom_71 : decode cX4_orbitFrom 71 = .ok (.iinc 6 1, 3) := by decide +kernel
theorem dX4_orbitFrom_74 : decode cX4_orbitFrom 74 = .ok (.goto (-45), 3) := by decide +kernel
theorem dX4_orbitFrom_77 : decode cX4_orbitFrom 77 = .ok (.iinc 5 1, 3) := by decide +kernel
theorem dX4_orbitFrom_80 : decode cX4_orbitFrom 80 = .ok (.goto (-70), 3) := by decide +kernel
theorem dX4_orbitFrom_83 : decode cX4_orbitFrom 83 = .ok (.iload_n 3, 1) := by decide +kernel
theorem dX4_orbitFrom_84 : decode cX4_orbitFrom 84 = .ok (.ireturn, 1) := by decide +kernel
set_option maxRecDepth 20000 in
theorem ggX4_blockOf_X4_merge : GoodIn wsX4_blockOf wsX4_merge := goodIn_r _ [7, 8, 9, 10] (by decide +kernel) (by decide +kernel)
set_option maxRecDepth 20000 in
theorem gX4_blockOf_X4_merge : GoodIn wsX4_blockOf (va_wsS RX4 101 yX4_merge wsX4_merge) := goodIn_app (goodIn_of _ (by decide +kernel)) ggX4_blockOf_X4_merge
set_option maxRecDepth 20000 in
theorem ggX4_blockOf_X4_mergeImages : GoodIn wsX4_blockOf wsX4_mergeImages := goodIn_r _ [13, 8, 9, 10, 4, 5, 6, 7] (by decide +kernel) (by decide +kernel)
set_option maxRecDepth 20000 in
theorem gX4_blockOf_X4_mergeImages : GoodIn wsX4_blockOf (va_wsS RX4 105 yX4_mergeImages wsX4_mergeImages) := goodIn_app (goodIn_of _ (by decide +kernel)) ggX4_blockOf_X4_mergeImages
set_option maxRecDepth 20000 in
theorem ggX4_blockOf_X6_image : GoodIn wsX4_blockOf wsX6_image := goodIn_r _ [10] (by decide +kernel) (by decide +kernel)
set_option maxRecDepth 20000 in
theorem gX4_blockOf_X6_image_n76 : GoodIn wsX4_blockOf (wsX6_image) := ggX4_blockOf_X6_image
theorem dX4_blockOf_0 : decode cX4_blockOf 0 = .ok (.ldc 100, 2) := by decide +kernel
theorem dX4_blockOf_2 : decode cX4_blockOf 2 = .ok (.iload_n 1, 1) := by decide +kernel
theorem dX4_blockOf_3 : decode cX4_blockOf 3 = .ok (.iload_n 2, 1) := by decide +kernel
theorem dX4_blockOf_4 : decode cX4_blockOf 4 = .ok (.invokestatic 101, 3) := by decide +kernel
theorem dX4_blockOf_7 : decode cX4_blockOf 7 = .ok (.istore_n 3, 1) := by decide +kernel
theorem dX4_blockOf_8 : decode cX4_blockOf 8 = .ok (.iconst 0, 1) := by decide +kernel
theorem dX4_blockOf_9 : decode cX4_blockOf 9 = .ok (.istore 4, 2) := by decide +kernel
theorem dX4_blockOf_11 : decode cX4_blockOf 11 = .ok (.iload 4, 2) := by decide +kernel
theorem dX4_blockOf_13 : decode cX4_blockOf 13 = .ok (.bipush 8, 2) := by decide +kernel
theorem dX4_blockOf_15 : decode cX4_blockOf 15 = .ok (.if_icmp .ge 39, 3) := by decide +kernel
theorem dX4_blockOf_18 : decode cX4_blockOf 18 = .ok (.iconst 0, 1) := by decide +kernel
theorem dX4_blockOf_19 : decode cX4_blockOf 19 = .ok (.istore 5, 2) := by decide +kernel
theorem dX4_blockOf_21 : decode cX4_blockOf 21 = .ok (.iload 5, 2) := by decide +kernel
theorem dX4_blockOf_23 : decode cX4_blockOf 23 = .ok (.aload_n 0, 1) := by decide +kernel
theorem dX4_blockOf_24 : decode cX4_blockOf 24 = .ok (.getfield 31, 3) := by decide +kernel
theorem dX4_blockOf_27 : decode cX4_blockOf 27 = .ok (.if_icmp .ge 21, 3) := by decide +kernel
theorem dX4_blockOf_30 : decode cX4_blockOf 30 = .ok (.iload_n 3, 1) := by decide +kernel
theorem dX4_blockOf_31 : decode cX4_blockOf 31 = .ok (.aload_n 0, 1) := by decide +kernel
theorem dX4_blockOf_32 : decode cX4_blockOf 32 = .ok (.getfield 24, 3) := by decide +kernel
theorem dX4_blockOf_35 : decode cX4_blockOf 35 = .ok (.iload 5, 2) := by decide +kernel
theorem dX4_blockOf_37 : decode cX4_blockOf 37 = .ok (.iaload, 1) := by decide +kernel
theorem dX4_blockOf_38 : decode cX4_blockOf 38 = .ok (.invokestatic 105, 3) := by decide +kernel
theorem dX4_blockOf_41 : decode cX4_blockOf 41 = .ok (.istore_n 3, 1) := by decide +kernel
theorem dX4_blockOf_42 : decode cX4_blockOf 42 = .ok (.iinc 5 1, 3) := by decide +kernel
theorem dX4_blockOf_45 : decode cX4_blockOf 45 = .ok (.goto (-24), 3) := by decide +kernel
theorem dX4_blockOf_48 : decode cX4_blockOf 48 = .ok (.iinc 4 1, 3) := by decide +kernel
theorem dX4_blockOf_51 : decode cX4_blockOf 51 = .ok (.goto (-40), 3) := by decide +kernel
theorem dX4_blockOf_54 : decode cX4_blockOf 54 = .ok (.iconst 0, 1) := by decide +kernel
theorem dX4_blockOf_55 : decode cX4_blockOf 55 = .ok (.istore 4, 2) := by decide +kernel
theorem dX4_blockOf_57 : decode cX4_blockOf 57 = .ok (.iconst 0, 1) := by decide +kernel
theorem dX4_blockOf_58 : decode cX4_blockOf 58 = .ok (.istore 5, 2) := by decide +kernel
theorem dX4_blockOf_60 : decode cX4_blockOf 60 = .ok (.iload 5, 2) := by decide +kernel
theorem dX4_blockOf_62 : decode cX4_blockOf 62 = .ok (.bipush 8, 2) := by decide +kernel
theorem dX4_blockOf_64 : decode cX4_blockOf 64 = .ok (.if_icmp .ge 32, 3) := by decide +kernel
theorem dX4_blockOf_67 : decode cX4_blockOf 67 = .ok (.iload_n 3, 1) := by decide +kernel
theorem dX4_blockOf_68 : decode cX4_blockOf 68 = .ok (.iload 5, 2) := by decide +kernel
theorem dX4_blockOf_70 : decode cX4_blockOf 70 = .ok (.invokestatic 76, 3) := by decide +kernel
theorem dX4_blockOf_73 : decode cX4_blockOf 73 = .ok (.iload_n 3, 1) := by decide +kernel
theorem dX4_blockOf_74 : decode cX4_blockOf 74 = .ok (.iload_n 1, 1) := by decide +kernel
theorem dX4_blockOf_75 : decode cX4_blockOf 75 = .ok (.invokestatic 76, 3) := by decide +kernel
theorem dX4_blockOf_78 : decode cX4_blockOf 78 = .ok (.if_icmp .ne 12, 3) := by decide +kernel
theorem dX4_blockOf_81 : decode cX4_blockOf 81 = .ok (.iload 4, 2) := by decide +kernel
theorem dX4_blockOf_83 : decode cX4_blockOf 83 = .ok (.iconst 1, 1) := by decide +kernel
theorem dX4_blockOf_84 : decode cX4_blockOf 84 = .ok (.iload 5, 2) := by decide +kernel
theorem dX4_blockOf_86 : decode cX4_blockOf 86 = .ok (.ishl, 1) := by decide +kernel
theorem dX4_blockOf_87 : decode cX4_blockOf 87 = .ok (.ior, 1) := by decide +kernel
theorem dX4_blockOf_88 : decode cX4_blockOf 88 = .ok (.istore 4, 2) := by decide +kernel
theorem dX4_blockOf_90 : decode cX4_blockOf 90 = .ok (.iinc 5 1, 3) := by decide +kernel
theorem dX4_blockOf_93 : decode cX4_blockOf 93 = .ok (.goto (-33), 3) := by decide +kernel
theorem dX4_blockOf_96 : decode cX4_blockOf 96 = .ok (.iload 4, 2) := by decide +kernel
theorem dX4_blockOf_98 : decode cX4_blockOf 98 = .ok (.ireturn, 1) := by decide +kernel
set_option maxRecDepth 20000 in
theorem ggX4_turnsThatLeave_X4_reaches : GoodIn wsX4_turnsThatLeave wsX4_reaches := goodIn_r _ [6, 7, 43, 44, 45, 46, 47, 48, 49] (by decide +kernel) (by decide +kernel)
set_option maxRecDepth 20000 in
theorem gX4_turnsThatLeave_X4_reaches : GoodIn wsX4_turnsThatLeave (wsV RX4 65 RX4 yX4_reaches wsX4_reaches) := goodIn_app (goodIn_of _ (by decide +kernel)) ggX4_turnsThatLeave_X4_reaches
set_option maxRecDepth 20000 in
theorem ggX4_turnsThatLeave_X4_orbitFrom : GoodIn wsX4_turnsThatLeave wsX4_orbitFrom := goodIn_r _ [11, 12, 13, 1, 14, 15, 5, 16, 17, 18, 19, 20, 21, 22, 43, 44, 45, 46, 47, 48, 49] (by decide +kernel) (by decide +kernel)
set_option maxRecDepth 20000 in
theorem gX4_turnsThatLeave_X4_orbitFrom : GoodIn wsX4_turnsThatLeave (wsV RX4 108 RX4 yX4_orbitFrom wsX4_orbitFrom) := goodIn_app (goodIn_of _ (by decide +kernel)) ggX4_turnsThatLeave_X4_orbitFrom
set_option maxRecDepth 20000 in
theorem ggX4_turnsThatLeave_X4_cellOf : GoodIn wsX4_turnsThatLeave wsX4_cellOf := goodIn_r _ [25] (by decide +kernel) (by decide +kernel)
set_option maxRecDepth 20000 in
theorem gX4_turnsThatLeave_X4_cellOf : GoodIn wsX4_turnsThatLeave (va_wsS RX4 79 yX4_cellOf wsX4_cellOf) := goodIn_app (goodIn_of _ (by decide +kernel)) ggX4_turnsThatLeave_X4_cellOf
set_option maxRecDepth 20000 in
theorem ggX4_turnsThatLeave_J6_bitCount_0f7a4 : GoodIn wsX4_turnsThatLeave wsJ6_bitCount_0f7a4 := goodIn_r _ [29, 30, 31, 32] (by decide +kernel) (by decide +kernel)
set_option maxRecDepth 20000 in
theorem gX4_turnsThatLeave_J6_bitCount_0f7a4 : GoodIn wsX4_turnsThatLeave (va_wsS RX4 88 yJ6_bitCount_0f7a4 wsJ6_bitCount_0f7a4) := goodIn_app (goodIn_of _ (by decide +kernel)) ggX4_turnsThatLeave_J6_bitCount_0f7a4
set_option maxRecDepth 20000 in
theorem ggX4_turnsThatLeave_X4_countLeaving : GoodIn wsX4_turnsThatLeave wsX4_countLeaving := goodIn_r _ [36, 2, 3, 4, 5, 6, 7, 37, 38, 39, 40, 1, 23, 24, 25, 41, 21, 42, 20, 22, 33, 34, 35, 43, 44, 45, 46, 47, 48, 49] (by decide +kernel) (by decide +kernel)
set_option maxRecDepth 20000 in
theorem gX4_turnsThatLeave_X4_countLeaving : GoodIn wsX4_turnsThatLeave (wsV RX4 111 RX4 yX4_countLeaving wsX4_countLeaving) := goodIn_app (goodIn_of _ (by decide +kernel)) ggX4_turnsThatLeave_X4_countLeaving
theorem dX4_turnsThatLeave_0 : decode cX4_turnsThatLeave 0 = .ok (.iload_n 1, 1) := by decide +kernel
theorem dX4_turnsThatLeave_1 : decode cX4_turnsThatLeave 1 = .ok (.bipush 8, 2) := by decide +kernel
theorem dX4_turnsThatLeave_3 : decode cX4_turnsThatLeave 3 = .ok (.if_icmp .ne 7, 3) := by decide +kernel
theorem dX4_turnsThatLeave_6 : decode cX4_turnsThatLeave 6 = .ok (.iconst 1, 1) := by decide +kernel
theorem dX4_turnsThatLeave_7 : decode cX4_turnsThatLeave 7 = .ok (.goto 4, 3) := by decide +kernel
theorem dX4_turnsThatLeave_10 : decode cX4_turnsThatLeave 10 = .ok (.iconst 0, 1) := by decide +kernel
theorem dX4_turnsThatLeave_11 : decode cX4_turnsThatLeave 11 = .ok (.istore_n 2, 1) := by decide +kernel
theorem dX4_turnsThatLeave_12 : decode cX4_turnsThatLeave 12 = .ok (.iconst 0, 1) := by decide +kernel
theorem dX4_turnsThatLeave_13 : decode cX4_turnsThatLeave 13 = .ok (.istore_n 3, 1) := by decide +kernel
theorem dX4_turnsThatLeave_14 : decode cX4_turnsThatLeave 14 = .ok (.iload_n 3, 1) := by decide +kernel
theorem dX4_turnsThatLeave_15 : decode cX4_turnsThatLeave 15 = .ok (.bipush 8, 2) := by decide +kernel
theorem dX4_turnsThatLeave_17 : decode cX4_turnsThatLeave 17 = .ok (.if_icmp .ge 102, 3) := by decide +kernel
theorem dX4_turnsThatLeave_20 : decode cX4_turnsThatLeave 20 = .ok (.iconst 0, 1) := by decide +kernel
theorem dX4_turnsThatLeave_21 : decode cX4_turnsThatLeave 21 = .ok (.istore 4, 2) := by decide +kernel
theorem dX4_turnsThatLeave_23 : decode cX4_turnsThatLeave 23 = .ok (.iload_n 3, 1) := by decide +kernel
theorem dX4_turnsThatLeave_24 : decode cX4_turnsThatLeave 24 = .ok (.iconst 1, 1) := by decide +kernel
theorem dX4_turnsThatLeave_25 : decode cX4_turnsThatLeave 25 = .ok (.iadd, 1) := by decide +kernel
theorem dX4_turnsThatLeave_26 : decode cX4_turnsThatLeave 26 = .ok (.istore 5, 2) := by decide +kernel
theorem dX4_turnsThatLeave_28 : decode cX4_turnsThatLeave 28 = .ok (.iload 5, 2) := by decide +kernel
theorem dX4_turnsThatLeave_30 : decode cX4_turnsThatLeave 30 = .ok (.bipush 8, 2) := by decide +kernel
theorem dX4_turnsThatLeave_32 : decode cX4_turnsThatLeave 32 = .ok (.if_icmp .ge 81, 3) := by decide +kernel
theorem dX4_turnsThatLeave_35 : decode cX4_turnsThatLeave 35 = .ok (.aload_n 0, 1) := by decide +kernel
theorem dX4_turnsThatLeave_36 : decode cX4_turnsThatLeave 36 = .ok (.iload_n 3, 1) := by decide +kernel
theorem dX4_turnsThatLeave_37 : decode cX4_turnsThatLeave 37 = .ok (.iload 5, 2) := by decide +kernel
theorem dX4_turnsThatLeave_39 : decode cX4_turnsThatLeave 39 = .ok (.invokevirtual 65, 3) := by decide +kernel
theorem dX4_turnsThatLeave_42 : decode cX4_turnsThatLeave 42 = .ok (.ifCond .eq 65, 3) := by decide +kernel
theorem dX4_turnsThatLeave_45 : decode cX4_turnsThatLeave 45 = .ok (.iload 4, 2) := by decide +kernel
theorem dX4_turnsThatLeave_47 : decode cX4_turnsThatLeave 47 = .ok (.iload 5, 2) := by decide +kernel
theorem dX4_turnsThatLeave_49 : decode cX4_turnsThatLeave 49 = .ok (.ishr, 1) := by decide +kernel
theorem dX4_turnsThatLeave_50 : decode cX4_turnsThatLeave 50 = .ok (.iconst 1, 1) := by decide +kernel
theorem dX4_turnsThatLeave_51 : decode cX4_turnsThatLeave 51 = .ok (.iand, 1) := by decide +kernel
theorem dX4_turnsThatLeave_52 : decode cX4_turnsThatLeave 52 = .ok (.ifCond .ne 55, 3) := by decide +kernel
theorem dX4_turnsThatLeave_55 : decode cX4_turnsThatLeave 55 = .ok (.aload_n 0, 1) := by decide +kernel
theorem dX4_turnsThatLeave_56 : decode cX4_turnsThatLeave 56 = .ok (.iload_n 3, 1) := by decide +kernel
theorem dX4_turnsThatLeave_57 : decode cX4_turnsThatLeave 57 = .ok (.iconst 1, 1) := by decide +kernel
theorem dX4_turnsThatLeave_58 : decode cX4_turnsThatLeave 58 = .ok (.iadd, 1) := by decide +kernel
theorem dX4_turnsThatLeave_59 : decode cX4_turnsThatLeave 59 = .ok (.iload 5, 2) := by decide +kernel
theorem dX4_turnsThatLeave_61 : decode cX4_turnsThatLeave 61 = .ok (.invokevirtual 108, 3) := by decide +kernel
theorem dX4_turnsThatLeave_64 : decode cX4_turnsThatLeave 64 = .ok (.istore 6, 2) := by decide +kernel
theorem dX4_turnsThatLeave_66 : decode cX4_turnsThatLeave 66 = .ok (.aload_n 0, 1) := by decide +kernel
theorem dX4_turnsThatLeave_67 : decode cX4_turnsThatLeave 67 = .ok (.getfield 11, 3) := by decide +kernel
theorem dX4_turnsThatLeave_70 : decode cX4_turnsThatLeave 70 = .ok (.iload_n 3, 1) := by decide +kernel
theorem dX4_turnsThatLeave_71 : decode cX4_turnsThatLeave 71 = .ok (.iload 5, 2) := by decide +kernel
theorem dX4_turnsThatLeave_73 : decode cX4_turnsThatLeave 73 = .ok (.invokestatic 79, 3) := by decide +kernel
theorem dX4_turnsThatLeave_76 : decode cX4_turnsThatLeave 76 = .ok (.iaload, 1) := by decide +kernel
theorem dX4_turnsThatLeave_77 : decode cX4_turnsThatLeave 77 = .ok (.istore 7, 2) := by decide +kernel
theorem dX4_turnsThatLeave_79 : decode cX4_turnsThatLeave 79 = .ok (.iload_n 2, 1) := by decide +kernel
theorem dX4_turnsThatLeave_80 : decode cX4_turnsThatLeave 80 = .ok (.iload 6, 2) := by decide +kernel
theorem dX4_turnsThatLeave_82 : decode cX4_turnsThatLeave 82 = .ok (.invokestatic 88, 3) := by decide +kernel
theorem dX4_turnsThatLeave_85 : decode cX4_turnsThatLeave 85 = .ok (.aload_n 0, 1) := by decide +kernel
theorem dX4_turnsThatLeave_86 : decode cX4_turnsThatLeave 86 = .ok (.iload_n 1, 1) := by decide +kernel
theorem dX4_turnsThatLeave_87 : decode cX4_turnsThatLeave 87 = .ok (.iload_n 3, 1) := by decide +kernel
theorem dX4_turnsThatLeave_88 : decode cX4_turnsThatLeave 88 = .ok (.isub, 1) := by decide +kernel
theorem dX4_turnsThatLeave_89 : decode cX4_turnsThatLeave 89 = .ok (.iload_n 3, 1) := by decide +kernel
theorem dX4_turnsThatLeave_90 : decode cX4_turnsThatLeave 90 = .ok (.iconst 1, 1) := by decide +kernel
theorem dX4_turnsThatLeave_91 : decode cX4_turnsThatLeave 91 = .ok (.iadd, 1) := by decide +kernel
theorem dX4_turnsThatLeave_92 : decode cX4_turnsThatLeave 92 = .ok (.iload 7, 2) := by decide +kernel
theorem dX4_turnsThatLeave_94 : decode cX4_turnsThatLeave 94 = .ok (.invokevirtual 111, 3) := by decide +kernel
theorem dX4_turnsThatLeave_97 : decode cX4_turnsThatLeave 97 = .ok (.imul, 1) := by decide +kernel
theorem dX4_turnsThatLeave_98 : decode cX4_turnsThatLeave 98 = .ok (.iadd, 1) := by decide +kernel
theorem dX4_turnsThatLeave_99 : decode cX4_turnsThatLeave 99 = .ok (.istore_n 2, 1) := by decide +kernel
theorem dX4_turnsThatLeave_100 : decode cX4_turnsThatLeave 100 = .ok (.iload 4, 2) := by decide +kernel
theorem dX4_turnsThatLeave_102 : decode cX4_turnsThatLeave 102 = .ok (.iload 6, 2) := by decide +kernel
theorem dX4_turnsThatLeave_104 : decode cX4_turnsThatLeave 104 = .ok (.ior, 1) := by decide +kernel
theorem dX4_turnsThatLeave_105 : decode cX4_turnsThatLeave 105 = .ok (.istore 4, 2) := by decide +kernel
theorem dX4_turnsThatLeave_107 : decode cX4_turnsThatLeave 107 = .ok (.iinc 5 1, 3) := by decide +kernel
theorem dX4_turnsThatLeave_110 : decode cX4_turnsThatLeave 110 = .ok (.goto (-82), 3) := by decide +kernel
theorem dX4_turnsThatLeave_113 : decode cX4_turnsThatLeave 113 = .ok (.iinc 3 1, 3) := by decide +kernel
theorem dX4_turnsThatLeave_116 : decode cX4_turnsThatLeave 116 = .ok (.goto (-102), 3) := by decide +kernel
theorem dX4_turnsThatLeave_119 : decode cX4_turnsThatLeave 119 = .ok (.iload_n 2, 1) := by decide +kernel
theorem dX4_turnsThatLeave_120 : decode cX4_turnsThatLeave 120 = .ok (.ireturn, 1) := by decide +kernel
set_option maxRecDepth 20000 in
theorem ggX4_turnAt_X4_turnsFrom : GoodIn wsX4_turnAt wsX4_turnsFrom := goodIn_r _ [7, 2, 8, 9, 10, 11, 12, 13, 14, 37, 38, 39, 40, 41, 42, 43] (by decide +kernel) (by decide +kernel)
set_option maxRecDepth 20000 in
theorem gX4_turnAt_X4_turnsFrom : GoodIn wsX4_turnAt (wsV RX4 114 RX4 yX4_turnsFrom wsX4_turnsFrom) := goodIn_app (goodIn_of _ (by decide +kernel)) ggX4_turnAt_X4_turnsFrom
set_option maxRecDepth 20000 in
theorem ggX4_turnAt_X4_imageOfSet : GoodIn wsX4_turnAt wsX4_imageOfSet := goodIn_r _ [17, 18, 19, 20] (by decide +kernel) (by decide +kernel)
set_option maxRecDepth 20000 in
theorem gX4_turnAt_X4_imageOfSet : GoodIn wsX4_turnAt (va_wsS RX4 97 yX4_imageOfSet wsX4_imageOfSet) := goodIn_app (goodIn_of _ (by decide +kernel)) ggX4_turnAt_X4_imageOfSet
set_option maxRecDepth 20000 in
theorem ggX4_turnAt_X4_descend : GoodIn wsX4_turnAt wsX4_descend := goodIn_r _ [24, 25, 19, 26, 18, 20, 27, 28, 29, 6, 30, 31, 32, 33, 34, 35, 36, 37, 38, 39, 40, 41, 42, 43] (by decide +kernel) (by decide +kernel)
set_option maxRecDepth 20000 in
theorem gX4_turnAt_X4_descend : GoodIn wsX4_turnAt (wsV RX4 117 RX4 yX4_descend wsX4_descend) := goodIn_app (goodIn_of _ (by decide +kernel)) ggX4_turnAt_X4_descend
theorem dX4_turnAt_0 : decode cX4_turnAt 0 = .ok (.iload_n 1, 1) := by decide +kernel
theorem dX4_turnAt_1 : decode cX4_turnAt 1 = .ok (.istore_n 2, 1) := by decide +kernel
theorem dX4_turnAt_2 : decode cX4_turnAt 2 = .ok (.ldc 100, 2) := by decide +kernel
theorem dX4_turnAt_4 : decode cX4_turnAt 4 = .ok (.istore_n 3, 1) := by decide +kernel
theorem dX4_turnAt_5 : decode cX4_turnAt 5 = .ok (.iconst 0, 1) := by decide +kernel
theorem dX4_turnAt_6 : decode cX4_turnAt 6 = .ok (.istore 4, 2) := by decide +kernel
theorem dX4_turnAt_8 : decode cX4_turnAt 8 = .ok (.iload 4, 2) := by decide +kernel
theorem dX4_turnAt_10 : decode cX4_turnAt 10 = .ok (.bipush 8, 2) := by decide +kernel
theorem dX4_turnAt_12 : decode cX4_turnAt 12 = .ok (.if_icmp .ge 83, 3) := by decide +kernel
theorem dX4_turnAt_15 : decode cX4_turnAt 15 = .ok (.aload_n 0, 1) := by decide +kernel
theorem dX4_turnAt_16 : decode cX4_turnAt 16 = .ok (.iload 4, 2) := by decide +kernel
theorem dX4_turnAt_18 : decode cX4_turnAt 18 = .ok (.iconst 1, 1) := by decide +kernel
theorem dX4_turnAt_19 : decode cX4_turnAt 19 = .ok (.iadd, 1) := by decide +kernel
theorem dX4_turnAt_20 : decode cX4_turnAt 20 = .ok (.invokevirtual 114, 3) := by decide +kernel
theorem dX4_turnAt_23 : decode cX4_turnAt 23 = .ok (.istore 5, 2) := by decide +kernel
theorem dX4_turnAt_25 : decode cX4_turnAt 25 = .ok (.iload_n 3, 1) := by decide +kernel
theorem dX4_turnAt_26 : decode cX4_turnAt 26 = .ok (.aload_n 0, 1) := by decide +kernel
theorem dX4_turnAt_27 : decode cX4_turnAt 27 = .ok (.getfield 18, 3) := by decide +kernel
theorem dX4_turnAt_30 : decode cX4_turnAt 30 = .ok (.iload 4, 2) := by decide +kernel
theorem dX4_turnAt_32 : decode cX4_turnAt 32 = .ok (.iaload, 1) := by decide +kernel
theorem dX4_turnAt_33 : decode cX4_turnAt 33 = .ok (.invokestatic 97, 3) := by decide +kernel
theorem dX4_turnAt_36 : decode cX4_turnAt 36 = .ok (.istore 6, 2) := by decide +kernel
theorem dX4_turnAt_38 : decode cX4_turnAt 38 = .ok (.iconst 0, 1) := by decide +kernel
theorem dX4_turnAt_39 : decode cX4_turnAt 39 = .ok (.istore 7, 2) := by decide +kernel
theorem dX4_turnAt_41 : decode cX4_turnAt 41 = .ok (.iload 7, 2) := by decide +kernel
theorem dX4_turnAt_43 : decode cX4_turnAt 43 = .ok (.bipush 8, 2) := by decide +kernel
theorem dX4_turnAt_45 : decode cX4_turnAt 45 = .ok (.if_icmp .ge 44, 3) := by decide +kernel
theorem dX4_turnAt_48 : decode cX4_turnAt 48 = .ok (.iload 6, 2) := by decide +kernel
theorem dX4_turnAt_50 : decode cX4_turnAt 50 = .ok (.iload 7, 2) := by decide +kernel
theorem dX4_turnAt_52 : decode cX4_turnAt 52 = .ok (.ishr, 1) := by decide +kernel
theorem dX4_turnAt_53 : decode cX4_turnAt 53 = .ok (.iconst 1, 1) := by decide +kernel
theorem dX4_turnAt_54 : decode cX4_turnAt 54 = .ok (.iand, 1) := by decide +kernel
theorem dX4_turnAt_55 : decode cX4_turnAt 55 = .ok (.iconst 1, 1) := by decide +kernel
theorem dX4_turnAt_56 : decode cX4_turnAt 56 = .ok (.if_icmp .ne 27, 3) := by decide +kernel
theorem dX4_turnAt_59 : decode cX4_turnAt 59 = .ok (.iload_n 2, 1) := by decide +kernel
theorem dX4_turnAt_60 : decode cX4_turnAt 60 = .ok (.iload 5, 2) := by decide +kernel
theorem dX4_turnAt_62 : decode cX4_turnAt 62 = .ok (.if_icmp .ge 16, 3) := by decide +kernel
theorem dX4_turnAt_65 : decode cX4_turnAt 65 = .ok (.aload_n 0, 1) := by decide +kernel
theorem dX4_turnAt_66 : decode cX4_turnAt 66 = .ok (.iload 4, 2) := by decide +kernel
theorem dX4_turnAt_68 : decode cX4_turnAt 68 = .ok (.iload_n 3, 1) := by decide +kernel
theorem dX4_turnAt_69 : decode cX4_turnAt 69 = .ok (.iload 7, 2) := by decide +kernel
theorem dX4_turnAt_71 : decode cX4_turnAt 71 = .ok (.invokevirtual 117, 3) := by decide +kernel
theorem dX4_turnAt_74 : decode cX4_turnAt 74 = .ok (.istore_n 3, 1) := by decide +kernel
theorem dX4_turnAt_75 : decode cX4_turnAt 75 = .ok (.goto 14, 3) := by decide +kernel
theorem dX4_turnAt_78 : decode cX4_turnAt 78 = .ok (.iload_n 2, 1) := by decide +kernel
theorem dX4_turnAt_79 : decode cX4_turnAt 79 = .ok (.iload 5, 2) := by decide +kernel
theorem dX4_turnAt_81 : decode cX4_turnAt 81 = .ok (.isub, 1) := by decide +kernel
theorem dX4_turnAt_82 : decode cX4_turnAt 82 = .ok (.istore_n 2, 1) := by decide +kernel
theorem dX4_turnAt_83 : decode cX4_turnAt 83 = .ok (.iinc 7 1, 3) := by decide +kernel
theorem dX4_turnAt_86 : decode cX4_turnAt 86 = .ok (.goto (-45), 3) := by decide +kernel
theorem dX4_turnAt_89 : decode cX4_turnAt 89 = .ok (.iinc 4 1, 3) := by decide +kernel
theorem dX4_turnAt_92 : decode cX4_turnAt 92 = .ok (.goto (-84), 3) := by decide +kernel
theorem dX4_turnAt_95 : decode cX4_turnAt 95 = .ok (.iload_n 3, 1) := by decide +kernel
theorem dX4_turnAt_96 : decode cX4_turnAt 96 = .ok (.ireturn, 1) := by decide +kernel
set_option maxRecDepth 20000 in
theorem ggX4_turnsAheadOf_X6_image : GoodIn wsX4_turnsAheadOf wsX6_image := goodIn_r _ [5] (by decide +kernel) (by decide +kernel)
set_option maxRecDepth 20000 in
theorem gX4_turnsAheadOf_X6_image_n76 : GoodIn wsX4_turnsAheadOf (wsX6_image) := ggX4_turnsAheadOf_X6_image
set_option maxRecDepth 20000 in
theorem ggX4_turnsAheadOf_X4_imageOfSet : GoodIn wsX4_turnsAheadOf wsX4_imageOfSet := goodIn_r _ [9, 3, 4, 5] (by decide +kernel) (by decide +kernel)
set_option maxRecDepth 20000 in
theorem gX4_turnsAheadOf_X4_imageOfSet : GoodIn wsX4_turnsAheadOf (va_wsS RX4 97 yX4_imageOfSet wsX4_imageOfSet) := goodIn_app (goodIn_of _ (by decide +kernel)) ggX4_turnsAheadOf_X4_imageOfSet
set_option maxRecDepth 20000 in
theorem ggX4_turnsAheadOf_J6_bitCount_0f7a4 : GoodIn wsX4_turnsAheadOf wsJ6_bitCount_0f7a4 := goodIn_r _ [13, 14, 15, 16] (by decide +kernel) (by decide +kernel)
set_option maxRecDepth 20000 in
theorem gX4_turnsAheadOf_J6_bitCount_0f7a4 : GoodIn wsX4_turnsAheadOf (va_wsS RX4 88 yJ6_bitCount_0f7a4 wsJ6_bitCount_0f7a4) := goodIn_app (goodIn_of _ (by decide +kernel)) ggX4_turnsAheadOf_J6_bitCount_0f7a4
set_option maxRecDepth 20000 in
theorem ggX4_turnsAheadOf_X4_turnsFrom : GoodIn wsX4_turnsAheadOf wsX4_turnsFrom := goodIn_r _ [20, 2, 10, 11, 12, 13, 14, 15, 16, 37, 38, 39, 40, 41, 42, 43] (by decide +kernel) (by decide +kernel)
set_option maxRecDepth 20000 in
theorem gX4_turnsAheadOf_X4_turnsFrom : GoodIn wsX4_turnsAheadOf (wsV RX4 114 RX4 yX4_turnsFrom wsX4_turnsFrom) := goodIn_app (goodIn_of _ (by decide +kernel)) ggX4_turnsAheadOf_X4_turnsFrom
set_option maxRecDepth 20000 in
theorem ggX4_turnsAheadOf_X4_descend : GoodIn wsX4_turnsAheadOf wsX4_descend := goodIn_r _ [24, 25, 4, 26, 3, 5, 27, 28, 29, 8, 30, 31, 32, 33, 34, 35, 36, 37, 38, 39, 40, 41, 42, 43] (by decide +kernel) (by decide +kernel)
set_option maxRecDepth 20000 in
theorem gX4_turnsAheadOf_X4_descend : GoodIn wsX4_turnsAheadOf (wsV RX4 117 RX4 yX4_descend wsX4_descend) := goodIn_app (goodIn_of _ (by decide +kernel)) ggX4_turnsAheadOf_X4_descend
theorem dX4_turnsAheadOf_0 : decode cX4_turnsAheadOf 0 = .ok (.iconst 0, 1) := by decide +kernel
theorem dX4_turnsAheadOf_1 : decode cX4_turnsAheadOf 1 = .ok (.istore_n 2, 1) := by decide +kernel
theorem dX4_turnsAheadOf_2 : decode cX4_turnsAheadOf 2 = .ok (.ldc 100, 2) := by decide +kernel
theorem dX4_turnsAheadOf_4 : decode cX4_turnsAheadOf 4 = .ok (.istore_n 3, 1) := by decide +kernel
theorem dX4_turnsAheadOf_5 : decode cX4_turnsAheadOf 5 = .ok (.iconst 0, 1) := by decide +kernel
theorem dX4_turnsAheadOf_6 : decode cX4_turnsAheadOf 6 = .ok (.istore 4, 2) := by decide +kernel
theorem dX4_turnsAheadOf_8 : decode cX4_turnsAheadOf 8 = .ok (.iload 4, 2) := by decide +kernel
theorem dX4_turnsAheadOf_10 : decode cX4_turnsAheadOf 10 = .ok (.bipush 8, 2) := by decide +kernel
theorem dX4_turnsAheadOf_12 : decode cX4_turnsAheadOf 12 = .ok (.if_icmp .ge 80, 3) := by decide +kernel
theorem dX4_turnsAheadOf_15 : decode cX4_turnsAheadOf 15 = .ok (.iload_n 1, 1) := by decide +kernel
theorem dX4_turnsAheadOf_16 : decode cX4_turnsAheadOf 16 = .ok (.iload 4, 2) := by decide +kernel
theorem dX4_turnsAheadOf_18 : decode cX4_turnsAheadOf 18 = .ok (.invokestatic 76, 3) := by decide +kernel
theorem dX4_turnsAheadOf_21 : decode cX4_turnsAheadOf 21 = .ok (.istore 5, 2) := by decide +kernel
theorem dX4_turnsAheadOf_23 : decode cX4_turnsAheadOf 23 = .ok (.iload_n 3, 1) := by decide +kernel
theorem dX4_turnsAheadOf_24 : decode cX4_turnsAheadOf 24 = .ok (.aload_n 0, 1) := by decide +kernel
theorem dX4_turnsAheadOf_25 : decode cX4_turnsAheadOf 25 = .ok (.getfield 18, 3) := by decide +kernel
theorem dX4_turnsAheadOf_28 : decode cX4_turnsAheadOf 28 = .ok (.iload 4, 2) := by decide +kernel
theorem dX4_turnsAheadOf_30 : decode cX4_turnsAheadOf 30 = .ok (.iaload, 1) := by decide +kernel
theorem dX4_turnsAheadOf_31 : decode cX4_turnsAheadOf 31 = .ok (.invokestatic 97, 3) := by decide +kernel
theorem dX4_turnsAheadOf_34 : decode cX4_turnsAheadOf 34 = .ok (.istore 6, 2) := by decide +kernel
theorem dX4_turnsAheadOf_36 : decode cX4_turnsAheadOf 36 = .ok (.iload 6, 2) := by decide +kernel
theorem dX4_turnsAheadOf_38 : decode cX4_turnsAheadOf 38 = .ok (.iconst 1, 1) := by decide +kernel
theorem dX4_turnsAheadOf_39 : decode cX4_turnsAheadOf 39 = .ok (.iload 5, 2) := by decide +kernel
theorem dX4_turnsAheadOf_41 : decode cX4_turnsAheadOf 41 = .ok (.ishl, 1) := by decide +kernel
theorem dX4_turnsAheadOf_42 : decode cX4_turnsAheadOf 42 = .ok (.iconst 1, 1) := by decide +kernel
theorem dX4_turnsAheadOf_43 : decode cX4_turnsAheadOf 43 = .ok (.isub, 1) := by decide +kernel
theorem dX4_turnsAheadOf_44 : decode cX4_turnsAheadOf 44 = .ok (.iand, 1) := by decide +kernel
theorem dX4_turnsAheadOf_45 : decode cX4_turnsAheadOf 45 = .ok (.istore 7, 2) := by decide +kernel
theorem dX4_turnsAheadOf_47 : decode cX4_turnsAheadOf 47 = .ok (.iload_n 2, 1) := by decide +kernel
theorem dX4_turnsAheadOf_48 : decode cX4_turnsAheadOf 48 = .ok (.iload 7, 2) := by decide +kernel
theorem dX4_turnsAheadOf_50 : decode cX4_turnsAheadOf 50 = .ok (.invokestatic 88, 3) := by decide +kernel
theorem dX4_turnsAheadOf_53 : decode cX4_turnsAheadOf 53 = .ok (.aload_n 0, 1) := by decide +kernel
theorem dX4_turnsAheadOf_54 : decode cX4_turnsAheadOf 54 = .ok (.iload 4, 2) := by decide +kernel
theorem dX4_turnsAheadOf_56 : decode cX4_turnsAheadOf 56 = .ok (.iconst 1, 1) := by decide +kernel
theorem dX4_turnsAheadOf_57 : decode cX4_turnsAheadOf 57 = .ok (.iadd, 1) := by decide +kernel
theorem dX4_turnsAheadOf_58 : decode cX4_turnsAheadOf 58 = .ok (.invokevirtual 114, 3) := by decide +kernel
theorem dX4_turnsAheadOf_61 : decode cX4_turnsAheadOf 61 = .ok (.imul, 1) := by decide +kernel
theorem dX4_turnsAheadOf_62 : decode cX4_turnsAheadOf 62 = .ok (.iadd, 1) := by decide +kernel
theorem dX4_turnsAheadOf_63 : decode cX4_turnsAheadOf 63 = .ok (.istore_n 2, 1) := by decide +kernel
theorem dX4_turnsAheadOf_64 : decode cX4_turnsAheadOf 64 = .ok (.iload 6, 2) := by decide +kernel
theorem dX4_turnsAheadOf_66 : decode cX4_turnsAheadOf 66 = .ok (.iload 5, 2) := by decide +kernel
theorem dX4_turnsAheadOf_68 : decode cX4_turnsAheadOf 68 = .ok (.ishr, 1) := by decide +kernel
theorem dX4_turnsAheadOf_69 : decode cX4_turnsAheadOf 69 = .ok (.iconst 1, 1) := by decide +kernel
theorem dX4_turnsAheadOf_70 : decode cX4_turnsAheadOf 70 = .ok (.iand, 1) := by decide +kernel
theorem dX4_turnsAheadOf_71 : decode cX4_turnsAheadOf 71 = .ok (.ifCond .ne 5, 3) := by decide +kernel
theorem dX4_turnsAheadOf_74 : decode cX4_turnsAheadOf 74 = .ok (.iload_n 2, 1) := by decide +kernel
theorem dX4_turnsAheadOf_75 : decode cX4_turnsAheadOf 75 = .ok (.ireturn, 1) := by decide +kernel
theorem dX4_turnsAheadOf_76 : decode cX4_turnsAheadOf 76 = .ok (.aload_n 0, 1) := by decide +kernel
theorem dX4_turnsAheadOf_77 : decode cX4_turnsAheadOf 77 = .ok (.iload 4, 2) := by decide +kernel
theorem dX4_turnsAheadOf_79 : decode cX4_turnsAheadOf 79 = .ok (.iload_n 3, 1) := by decide +kernel
theorem dX4_turnsAheadOf_80 : decode cX4_turnsAheadOf 80 = .ok (.iload 5, 2) := by decide +kernel
theorem dX4_turnsAheadOf_82 : decode cX4_turnsAheadOf 82 = .ok (.invokevirtual 117, 3) := by decide +kernel
theorem dX4_turnsAheadOf_85 : decode cX4_turnsAheadOf 85 = .ok (.istore_n 3, 1) := by decide +kernel
theorem dX4_turnsAheadOf_86 : decode cX4_turnsAheadOf 86 = .ok (.iinc 4 1, 3) := by decide +kernel
theorem dX4_turnsAheadOf_89 : decode cX4_turnsAheadOf 89 = .ok (.goto (-81), 3) := by decide +kernel
theorem dX4_turnsAheadOf_92 : decode cX4_turnsAheadOf 92 = .ok (.iload_n 2, 1) := by decide +kernel
theorem dX4_turnsAheadOf_93 : decode cX4_turnsAheadOf 93 = .ok (.ireturn, 1) := by decide +kernel
set_option maxRecDepth 20000 in
theorem ggX4_firstThat_X4_search : GoodIn wsX4_firstThat wsX4_search := goodIn_r _ [6, 7, 8, 9, 10, 11, 12, 13, 14, 5, 15, 16, 17, 18, 19, 20, 21, 22, 23, 24, 25, 26, 27, 28, 29, 30, 31, 32, 33, 34, 35, 36, 37, 38, 39, 40, 41, 42, 43, 44, 45, 46, 47, 48, 49, 50, 51, 52, 53, 54, 55, 56, 57, 2, 3, 4, 58, 59, 60, 61, 62, 63, 64, 65, 66, 67, 68, 69] (by decide +kernel) (by decide +kernel)
set_option maxRecDepth 20000 in
theorem gX4_firstThat_X4_search : GoodIn wsX4_firstThat (wsV RX4 120 RX4 yX4_search wsX4_search) := goodIn_app (goodIn_of _ (by decide +kernel)) ggX4_firstThat_X4_search
theorem dX4_firstThat_0 : decode cX4_firstThat 0 = .ok (.aload_n 0, 1) := by decide +kernel
theorem dX4_firstThat_1 : decode cX4_firstThat 1 = .ok (.aload_n 1, 1) := by decide +kernel
theorem dX4_firstThat_2 : decode cX4_firstThat 2 = .ok (.iconst 0, 1) := by decide +kernel
theorem dX4_firstThat_3 : decode cX4_firstThat 3 = .ok (.ldc 100, 2) := by decide +kernel
theorem dX4_firstThat_5 : decode cX4_firstThat 5 = .ok (.invokevirtual 120, 3) := by decide +kernel
theorem dX4_firstThat_8 : decode cX4_firstThat 8 = .ok (.ireturn, 1) := by decide +kernel
theorem dX4_reaches_0 : decode cX4_reaches 0 = .ok (.aload_n 0, 1) := by decide +kernel
theorem dX4_reaches_1 : decode cX4_reaches 1 = .ok (.getfield 18, 3) := by decide +kernel
theorem dX4_reaches_4 : decode cX4_reaches 4 = .ok (.iload_n 1, 1) := by decide +kernel
theorem dX4_reaches_5 : decode cX4_reaches 5 = .ok (.iaload, 1) := by decide +kernel
theorem dX4_reaches_6 : decode cX4_reaches 6 = .ok (.iload_n 2, 1) := by decide +kernel
theorem dX4_reaches_7 : decode cX4_reaches 7 = .ok (.ishr, 1) := by decide +kernel
theorem dX4_reaches_8 : decode cX4_reaches 8 = .ok (.iconst 1, 1) := by decide +kernel
theorem dX4_reaches_9 : decode cX4_reaches 9 = .ok (.iand, 1) := by decide +kernel
theorem dX4_reaches_10 : decode cX4_reaches 10 = .ok (.iconst 1, 1) := by decide +kernel
theorem dX4_reaches_11 : decode cX4_reaches 11 = .ok (.if_icmp .ne 7, 3) := by decide +kernel
theorem dX4_reaches_14 : decode cX4_reaches 14 = .ok (.iconst 1, 1) := by decide +kernel
theorem dX4_reaches_15 : decode cX4_reaches 15 = .ok (.goto 4, 3) := by decide +kernel
theorem dX4_reaches_18 : decode cX4_reaches 18 = .ok (.iconst 0, 1) := by decide +kernel
theorem dX4_reaches_19 : decode cX4_reaches 19 = .ok (.ireturn, 1) := by decide +kernel
set_option maxRecDepth 20000 in
theorem ggX4_settle_X6_image : GoodIn wsX4_settle wsX6_image := goodIn_r _ [9] (by decide +kernel) (by decide +kernel)
set_option maxRecDepth 20000 in
theorem gX4_settle_X6_image_n76 : GoodIn wsX4_settle (wsX6_image) := ggX4_settle_X6_image
set_option maxRecDepth 20000 in
theorem ggX4_settle_X4_cellOf : GoodIn wsX4_settle wsX4_cellOf := goodIn_r _ [13] (by decide +kernel) (by decide +kernel)
set_option maxRecDepth 20000 in
theorem gX4_settle_X4_cellOf : GoodIn wsX4_settle (va_wsS RX4 79 yX4_cellOf wsX4_cellOf) := goodIn_app (goodIn_of _ (by decide +kernel)) ggX4_settle_X4_cellOf
set_option maxRecDepth 20000 in
theorem ggX4_settle_X4_reaches : GoodIn wsX4_settle wsX4_reaches := goodIn_r _ [17, 4, 22, 23, 24, 25, 26, 27, 28] (by decide +kernel) (by decide +kernel)
set_option maxRecDepth 20000 in
theorem gX4_settle_X4_reaches : GoodIn wsX4_settle (wsV RX4 65 RX4 yX4_reaches wsX4_reaches) := goodIn_app (goodIn_of _ (by decide +kernel)) ggX4_settle_X4_reaches
set_option maxRecDepth 20000 in
theorem ggX4_settle_X6_reverse : GoodIn wsX4_settle wsX6_reverse := goodIn_r _ [19] (by decide +kernel) (by decide +kernel)
set_option maxRecDepth 20000 in
theorem gX4_settle_X6_reverse_n123 : GoodIn wsX4_settle (wsX6_reverse) := ggX4_settle_X6_reverse
set_option maxRecDepth 20000 in
theorem ggX4_settle_X6_chain : GoodIn wsX4_settle wsX6_chain := goodIn_r _ [21] (by decide +kernel) (by decide +kernel)
set_option maxRecDepth 20000 in
theorem gX4_settle_X6_chain_n82 : GoodIn wsX4_settle (wsX6_chain) := ggX4_settle_X6_chain
theorem dX4_settle_0 : decode cX4_settle 0 = .ok (.iload_n 1, 1) := by decide +kernel
theorem dX4_settle_1 : decode cX4_settle 1 = .ok (.istore_n 2, 1) := by decide +kernel
theorem dX4_settle_2 : decode cX4_settle 2 = .ok (.iconst 0, 1) := by decide +kernel
theorem dX4_settle_3 : decode cX4_settle 3 = .ok (.istore_n 3, 1) := by decide +kernel
theorem dX4_settle_4 : decode cX4_settle 4 = .ok (.iload_n 3, 1) := by decide +kernel
theorem dX4_settle_5 : decode cX4_settle 5 = .ok (.bipush 8, 2) := by decide +kernel
theorem dX4_settle_7 : decode cX4_settle 7 = .ok (.if_icmp .ge 121, 3) := by decide +kernel
theorem dX4_settle_10 : decode cX4_settle 10 = .ok (.iload_n 2, 1) := by decide +kernel
theorem dX4_settle_11 : decode cX4_settle 11 = .ok (.ldc 100, 2) := by decide +kernel
theorem dX4_settle_13 : decode cX4_settle 13 = .ok (.if_icmp .eq 115, 3) := by decide +kernel
theorem dX4_settle_16 : decode cX4_settle 16 = .ok (.iload_n 2, 1) := by decide +kernel
theorem dX4_settle_17 : decode cX4_settle 17 = .ok (.iload_n 3, 1) := by decide +kernel
theorem dX4_settle_18 : decode cX4_settle 18 = .ok (.invokestatic 76, 3) := by decide +kernel
theorem dX4_settle_21 : decode cX4_settle 21 = .ok (.istore 4, 2) := by decide +kernel
theorem dX4_settle_23 : decode cX4_settle 23 = .ok (.iload_n 3, 1) := by decide +kernel
theorem dX4_settle_24 : decode cX4_settle 24 = .ok (.iload 4, 2) := by decide +kernel
theorem dX4_settle_26 : decode cX4_settle 26 = .ok (.invokestatic 79, 3) := by decide +kernel
theorem dX4_settle_29 : decode cX4_settle 29 = .ok (.istore 5, 2) := by decide +kernel
theorem dX4_settle_31 : decode cX4_settle 31 = .ok (.aload_n 0, 1) := by decide +kernel
theorem dX4_settle_32 : decode cX4_settle 32 = .ok (.iload_n 3, 1) := by decide +kernel
theorem dX4_settle_33 : decode cX4_settle 33 = .ok (.iload 4, 2) := by decide +kernel
theorem dX4_settle_35 : decode cX4_settle 35 = .ok (.invokevirtual 65, 3) := by decide +kernel
theorem dX4_settle_38 : decode cX4_settle 38 = .ok (.ifCond .ne 66, 3) := by decide +kernel
theorem dX4_settle_41 : decode cX4_settle 41 = .ok (.aload_n 0, 1) := by decide +kernel
theorem dX4_settle_42 : decode cX4_settle 42 = .ok (.getfield 11, 3) := by decide +kernel
theorem dX4_settle_45 : decode cX4_settle 45 = .ok (.iload 5, 2) := by decide +kernel
theorem dX4_settle_47 : decode cX4_settle 47 = .ok (.iload_n 2, 1) := by decide +kernel
theorem dX4_settle_48 : decode cX4_settle 48 = .ok (.iastore, 1) := by decide +kernel
theorem dX4_settle_49 : decode cX4_settle 49 = .ok (.aload_n 0, 1) := by decide +kernel
theorem dX4_settle_50 : decode cX4_settle 50 = .ok (.getfield 15, 3) := by decide +kernel
theorem dX4_settle_53 : decode cX4_settle 53 = .ok (.iload 5, 2) := by decide +kernel
theorem dX4_settle_55 : decode cX4_settle 55 = .ok (.iload_n 2, 1) := by decide +kernel
theorem dX4_settle_56 : decode cX4_settle 56 = .ok (.invokestatic 123, 3) := by decide +kernel
theorem dX4_settle_59 : decode cX4_settle 59 = .ok (.iastore, 1) := by decide +kernel
theorem dX4_settle_60 : decode cX4_settle 60 = .ok (.aload_n 0, 1) := by decide +kernel
theorem dX4_settle_61 : decode cX4_settle 61 = .ok (.getfield 18, 3) := by decide +kernel
theorem dX4_settle_64 : decode cX4_settle 64 = .ok (.iload_n 3, 1) := by decide +kernel
theorem dX4_settle_65 : decode cX4_settle 65 = .ok (.dup2, 1) := by decide +kernel
theorem dX4_settle_66 : decode cX4_settle 66 = .ok (.iaload, 1) := by decide +kernel
theorem dX4_settle_67 : decode cX4_settle 67 = .ok (.iconst 1, 1) := by decide +kernel
theorem dX4_settle_68 : decode cX4_settle 68 = .ok (.iload 4, 2) := by decide +kernel
theorem dX4_settle_70 : decode cX4_settle 70 = .ok (.ishl, 1) := by decide +kernel
theorem dX4_settle_71 : decode cX4_settle 71 = .ok (.ior, 1) := by decide +kernel
theorem dX4_settle_72 : decode cX4_settle 72 = .ok (.iastore, 1) := by decide +kernel
theorem dX4_settle_73 : decode cX4_settle 73 = .ok (.aload_n 0, 1) := by decide +kernel
theorem dX4_settle_74 : decode cX4_settle 74 = .ok (.getfield 27, 3) := by decide +kernel
theorem dX4_settle_77 : decode cX4_settle 77 = .ok (.bipush 28, 2) := by decide +kernel
theorem dX4_settle_79 : decode cX4_settle 79 = .ok (.if_icmp .ge 24, 3) := by decide +kernel
theorem dX4_settle_82 : decode cX4_settle 82 = .ok (.aload_n 0, 1) := by decide +kernel
theorem dX4_settle_83 : decode cX4_settle 83 = .ok (.getfield 21, 3) := by decide +kernel
theorem dX4_settle_86 : decode cX4_settle 86 = .ok (.aload_n 0, 1) := by decide +kernel
theorem dX4_settle_87 : decode cX4_settle 87 = .ok (.getfield 27, 3) := by decide +kernel
theorem dX4_settle_90 : decode cX4_settle 90 = .ok (.iload 5, 2) := by decide +kernel
theorem dX4_settle_92 : decode cX4_settle 92 = .ok (.iastore, 1) := by decide +kernel
theorem dX4_settle_93 : decode cX4_settle 93 = .ok (.aload_n 0, 1) := by decide +kernel
theorem dX4_settle_94 : decode cX4_settle 94 = .ok (.dup, 1) := by decide +kernel
theorem dX4_settle_95 : decode cX4_settle 95 = .ok (.getfield 27, 3) := by decide +kernel
theorem dX4_settle_98 : decode cX4_settle 98 = .ok (.iconst 1, 1) := by decide +kernel
theorem dX4_settle_99 : decode cX4_settle 99 = .ok (.iadd, 1) := by decide +kernel
theorem dX4_settle_100 : decode cX4_settle 100 = .ok (.putfield 27, 3) := by decide +kernel
theorem dX4_settle_103 : decode cX4_settle 103 = .ok (.return_, 1) := by decide +kernel
theorem dX4_settle_104 : decode cX4_settle 104 = .ok (.iload 4, 2) := by decide +kernel
theorem dX4_settle_106 : decode cX4_settle 106 = .ok (.iload_n 3, 1) := by decide +kernel
theorem dX4_settle_107 : decode cX4_settle 107 = .ok (.if_icmp .eq 15, 3) := by decide +kernel
theorem dX4_settle_110 : decode cX4_settle 110 = .ok (.iload_n 2, 1) := by decide +kernel
theorem dX4_settle_111 : decode cX4_settle 111 = .ok (.aload_n 0, 1) := by decide +kernel
theorem dX4_settle_112 : decode cX4_settle 112 = .ok (.getfield 15, 3) := by decide +kernel
theorem dX4_settle_115 : decode cX4_settle 115 = .ok (.iload 5, 2) := by decide +kernel
theorem dX4_settle_117 : decode cX4_settle 117 = .ok (.iaload, 1) := by decide +kernel
theorem dX4_settle_118 : decode cX4_settle 118 = .ok (.invokestatic 82, 3) := by decide +kernel
theorem dX4_settle_121 : decode cX4_settle 121 = .ok (.istore_n 2, 1) := by decide +kernel
theorem dX4_settle_122 : decode cX4_settle 122 = .ok (.iinc 3 1, 3) := by decide +kernel
theorem dX4_settle_125 : decode cX4_settle 125 = .ok (.goto (-121), 3) := by decide +kernel
theorem dX4_settle_128 : decode cX4_settle 128 = .ok (.return_, 1) := by decide +kernel
set_option maxRecDepth 20000 in
theorem ggX4_spreadFrom_X4_levelOf : GoodIn wsX4_spreadFrom wsX4_levelOf := goodIn_r _ [7] (by decide +kernel) (by decide +kernel)
set_option maxRecDepth 20000 in
theorem gX4_spreadFrom_X4_levelOf : GoodIn wsX4_spreadFrom (va_wsS RX4 94 yX4_levelOf wsX4_levelOf) := goodIn_app (goodIn_of _ (by decide +kernel)) ggX4_spreadFrom_X4_levelOf
set_option maxRecDepth 20000 in
theorem ggX4_spreadFrom_X6_chain : GoodIn wsX4_spreadFrom wsX6_chain := goodIn_r _ [10] (by decide +kernel) (by decide +kernel)
set_option maxRecDepth 20000 in
theorem gX4_spreadFrom_X6_chain_n82 : GoodIn wsX4_spreadFrom (wsX6_chain) := ggX4_spreadFrom_X6_chain
set_option maxRecDepth 20000 in
theorem ggX4_spreadFrom_X4_settle : GoodIn wsX4_spreadFrom wsX4_settle := goodIn_r _ [14, 15, 3, 16, 17, 1, 2, 18, 9, 19, 20, 21, 6, 22, 23, 24, 25, 26, 27, 28, 8, 10, 29, 30, 31, 32, 33, 34, 35] (by decide +kernel) (by decide +kernel)
set_option maxRecDepth 20000 in
theorem gX4_spreadFrom_X4_settle : GoodIn wsX4_spreadFrom (wsV RX4 40 RX4 yX4_settle wsX4_settle) := goodIn_app (goodIn_of _ (by decide +kernel)) ggX4_spreadFrom_X4_settle
theorem dX4_spreadFrom_0 : decode cX4_spreadFrom 0 = .ok (.iload_n 1, 1) := by decide +kernel
theorem dX4_spreadFrom_1 : decode cX4_spreadFrom 1 = .ok (.istore_n 2, 1) := by decide +kernel
theorem dX4_spreadFrom_2 : decode cX4_spreadFrom 2 = .ok (.iload_n 2, 1) := by decide +kernel
theorem dX4_spreadFrom_3 : decode cX4_spreadFrom 3 = .ok (.aload_n 0, 1) := by decide +kernel
theorem dX4_spreadFrom_4 : decode cX4_spreadFrom 4 = .ok (.getfield 27, 3) := by decide +kernel
theorem dX4_spreadFrom_7 : decode cX4_spreadFrom 7 = .ok (.if_icmp .ge 113, 3) := by decide +kernel
theorem dX4_spreadFrom_10 : decode cX4_spreadFrom 10 = .ok (.aload_n 0, 1) := by decide +kernel
theorem dX4_spreadFrom_11 : decode cX4_spreadFrom 11 = .ok (.getfield 27, 3) := by decide +kernel
theorem dX4_spreadFrom_14 : decode cX4_spreadFrom 14 = .ok (.bipush 28, 2) := by decide +kernel
theorem dX4_spreadFrom_16 : decode cX4_spreadFrom 16 = .ok (.if_icmp .ge 104, 3) := by decide +kernel
theorem dX4_spreadFrom_19 : decode cX4_spreadFrom 19 = .ok (.aload_n 0, 1) := by decide +kernel
theorem dX4_spreadFrom_20 : decode cX4_spreadFrom 20 = .ok (.getfield 21, 3) := by decide +kernel
theorem dX4_spreadFrom_23 : decode cX4_spreadFrom 23 = .ok (.iload_n 2, 1) := by decide +kernel
theorem dX4_spreadFrom_24 : decode cX4_spreadFrom 24 = .ok (.iaload, 1) := by decide +kernel
theorem dX4_spreadFrom_25 : decode cX4_spreadFrom 25 = .ok (.istore_n 3, 1) := by decide +kernel
theorem dX4_spreadFrom_26 : decode cX4_spreadFrom 26 = .ok (.iconst 0, 1) := by decide +kernel
theorem dX4_spreadFrom_27 : decode cX4_spreadFrom 27 = .ok (.istore 4, 2) := by decide +kernel
theorem dX4_spreadFrom_29 : decode cX4_spreadFrom 29 = .ok (.iload 4, 2) := by decide +kernel
theorem dX4_spreadFrom_31 : decode cX4_spreadFrom 31 = .ok (.iload_n 2, 1) := by decide +kernel
theorem dX4_spreadFrom_32 : decode cX4_spreadFrom 32 = .ok (.if_icmp .gt 82, 3) := by decide +kernel
theorem dX4_spreadFrom_35 : decode cX4_spreadFrom 35 = .ok (.aload_n 0, 1) := by decide +kernel
theorem dX4_spreadFrom_36 : decode cX4_spreadFrom 36 = .ok (.getfield 21, 3) := by decide +kernel
theorem dX4_spreadFrom_39 : decode cX4_spreadFrom 39 = .ok (.iload 4, 2) := by decide +kernel
theorem dX4_spreadFrom_41 : decode cX4_spreadFrom 41 = .ok (.iaload, 1) := by decide +kernel
theorem dX4_spreadFrom_42 : decode cX4_spreadFrom 42 = .ok (.istore 5, 2) := by decide +kernel
theorem dX4_spreadFrom_44 : decode cX4_spreadFrom 44 = .ok (.iload_n 3, 1) := by decide +kernel
theorem dX4_spreadFrom_45 : decode cX4_spreadFrom 45 = .ok (.invokestatic 94, 3) := by decide +kernel
theorem dX4_spreadFrom_48 : decode cX4_spreadFrom 48 = .ok (.iload 5, 2) := by decide +kernel
theorem dX4_spreadFrom_50 : decode cX4_spreadFrom 50 = .ok (.invokestatic 94, 3) := by decide +kernel
theorem dX4_spreadFrom_53 : decode cX4_spreadFrom 53 = .ok (.if_icmp .gt 23, 3) := by decide +kernel
theorem dX4_spreadFrom_56 : decode cX4_spreadFrom 56 = .ok (.aload_n 0, 1) := by decide +kernel
theorem dX4_spreadFrom_57 : decode cX4_spreadFrom 57 = .ok (.aload_n 0, 1) := by decide +kernel
theorem dX4_spreadFrom_58 : decode cX4_spreadFrom 58 = .ok (.getfield 11, 3) := by decide +kernel
theorem dX4_spreadFrom_61 : decode cX4_spreadFrom 61 = .ok (.iload_n 3, 1) := by decide +kernel
theorem dX4_spreadFrom_62 : decode cX4_spreadFrom 62 = .ok (.iaload, 1) := by decide +kernel
theorem dX4_spreadFrom_63 : decode cX4_spreadFrom 63 = .ok (.aload_n 0, 1) := by decide +kernel
theorem dX4_spreadFrom_64 : decode cX4_spreadFrom 64 = .ok (.getfield 11, 3) := by decide +kernel
theorem dX4_spreadFrom_67 : decode cX4_spreadFrom 67 = .ok (.iload 5, 2) := by decide +kernel
theorem dX4_spreadFrom_69 : decode cX4_spreadFrom 69 = .ok (.iaload, 1) := by decide +kernel
theorem dX4_spreadFrom_70 : decode cX4_spreadFrom 70 = .ok (.invokestatic 82, 3) := by decide +kernel
theorem dX4_spreadFrom_73 : decode cX4_spreadFrom 73 = .ok (.invokevirtual 40, 3) := by decide +kernel
theorem dX4_spreadFrom_76 : decode cX4_spreadFrom 76 = .ok (.iload 5, 2) := by decide +kernel
theorem dX4_spreadFrom_78 : decode cX4_spreadFrom 78 = .ok (.invokestatic 94, 3) := by decide +kernel
theorem dX4_spreadFrom_81 : decode cX4_spreadFrom 81 = .ok (.iload_n 3, 1) := by decide +kernel
theorem dX4_spreadFrom_82 : decode cX4_spreadFrom 82 = .ok (.invokestatic 94, 3) := by decide +kernel
theorem dX4_spreadFrom_85 : decode cX4_spreadFrom 85 = .ok (.if_icmp .gt 23, 3) := by decide +kernel
theorem dX4_spreadFrom_88 : decode cX4_spreadFrom 88 = .ok (.aload_n 0, 1) := by decide +kernel
theorem dX4_spreadFrom_89 : decode cX4_spreadFrom 89 = .ok (.aload_n 0, 1) := by decide +kernel
theorem dX4_spreadFrom_90 : decode cX4_spreadFrom 90 = .ok (.getfield 11, 3) := by decide +kernel
theorem dX4_spreadFrom_93 : decode cX4_spreadFrom 93 = .ok (.iload 5, 2) := by decide +kernel
theorem dX4_spreadFrom_95 : decode cX4_spreadFrom 95 = .ok (.iaload, 1) := by decide +kernel
theorem dX4_spreadFrom_96 : decode cX4_spreadFrom 96 = .ok (.aload_n 0, 1) := by decide +kernel
theorem dX4_spreadFrom_97 : decode cX4_spreadFrom 97 = .ok (.getfield 11, 3) := by decide +kernel
theorem dX4_spreadFrom_100 : decode cX4_spreadFrom 100 = .ok (.iload_n 3, 1) := by decide +kernel
theorem dX4_spreadFrom_101 : decode cX4_spreadFrom 101 = .ok (.iaload, 1) := by decide +kernel
theorem dX4_spreadFrom_102 : decode cX4_spreadFrom 102 = .ok (.invokestatic 82, 3) := by decide +kernel
theorem dX4_spreadFrom_105 : decode cX4_spreadFrom 105 = .ok (.invokevirtual 40, 3) := by decide +kernel
theorem dX4_spreadFrom_108 : decode cX4_spreadFrom 108 = .ok (.iinc 4 1, 3) := by decide +kernel
theorem dX4_spreadFrom_111 : decode cX4_spreadFrom 111 = .ok (.goto (-82), 3) := by decide +kernel
theorem dX4_spreadFrom_114 : decode cX4_spreadFrom 114 = .ok (.iinc 2 1, 3) := by decide +kernel
theorem dX4_spreadFrom_117 : decode cX4_spreadFrom 117 = .ok (.goto (-115), 3) := by decide +kernel
theorem dX4_spreadFrom_120 : decode cX4_spreadFrom 120 = .ok (.return_, 1) := by decide +kernel
set_option maxRecDepth 20000 in
theorem ggX4_searchCell_X4_cellOf : GoodIn wsX4_searchCell wsX4_cellOf := goodIn_r _ [5] (by decide +kernel) (by decide +kernel)
set_option maxRecDepth 20000 in
theorem gX4_searchCell_X4_cellOf : GoodIn wsX4_searchCell (va_wsS RX4 79 yX4_cellOf wsX4_cellOf) := goodIn_app (goodIn_of _ (by decide +kernel)) ggX4_searchCell_X4_cellOf
set_option maxRecDepth 20000 in
theorem ggX4_searchCell_X0_fits : GoodIn wsX4_searchCell wsX0_fits := goodIn_r _ [11, 12, 13, 14, 15, 16, 64, 65] (by decide +kernel) (by decide +kernel)
set_option maxRecDepth 20000 in
theorem gX4_searchCell_X0_fits_u126X0 : GoodIn wsX4_searchCell (va_wsU RX4 126 RX0 "TurnGroups$Wish" ⟨"TurnGroups$Wish", "fits", "(II)Z"⟩ yX0_fits wsX0_fits) := goodIn_app (goodIn_of _ (by decide +kernel)) ggX4_searchCell_X0_fits
set_option maxRecDepth 20000 in
theorem ggX4_searchCell_X1_fits : GoodIn wsX4_searchCell wsX1_fits := goodIn_r _ [20, 21, 22, 23, 19, 24, 14, 15, 16, 66, 57, 58, 59, 60, 61, 62, 63] (by decide +kernel) (by decide +kernel)
set_option maxRecDepth 20000 in
theorem gX4_searchCell_X1_fits_u126X1 : GoodIn wsX4_searchCell (va_wsU RX4 126 RX1 "TurnGroups$Wish" ⟨"TurnGroups$Wish", "fits", "(II)Z"⟩ yX1_fits wsX1_fits) := goodIn_app (goodIn_of _ (by decide +kernel)) ggX4_searchCell_X1_fits
set_option maxRecDepth 20000 in
theorem ggX4_searchCell_X2_fits : GoodIn wsX4_searchCell wsX2_fits := goodIn_r _ [28, 29, 14, 15, 16, 67] (by decide +kernel) (by decide +kernel)
set_option maxRecDepth 20000 in
theorem gX4_searchCell_X2_fits_u126X2 : GoodIn wsX4_searchCell (va_wsU RX4 126 RX2 "TurnGroups$Wish" ⟨"TurnGroups$Wish", "fits", "(II)Z"⟩ yX2_fits wsX2_fits) := goodIn_app (goodIn_of _ (by decide +kernel)) ggX4_searchCell_X2_fits
set_option maxRecDepth 20000 in
theorem ggX4_searchCell_X3_fits : GoodIn wsX4_searchCell wsX3_fits := goodIn_r _ [33, 34, 35, 36, 37, 4, 38, 39, 14, 15, 16, 40, 41, 42, 43, 44, 2, 3, 5, 45, 46, 68, 57, 58, 59, 60, 61, 62, 63] (by decide +kernel) (by decide +kernel)
set_option maxRecDepth 20000 in
theorem gX4_searchCell_X3_fits_u126X3 : GoodIn wsX4_searchCell (va_wsU RX4 126 RX3 "TurnGroups$Wish" ⟨"TurnGroups$Wish", "fits", "(II)Z"⟩ yX3_fits wsX3_fits) := goodIn_app (goodIn_of _ (by decide +kernel)) ggX4_searchCell_X3_fits
set_option maxRecDepth 20000 in
theorem ggX4_searchCell_X4_search : GoodIn wsX4_searchCell wsX4_search := goodIn_r _ [50, 51, 15, 52, 14, 16, 40, 41, 42, 4, 43, 44, 53, 54, 55, 56, 1, 2, 3, 5, 45, 46, 6, 7, 8, 9, 10, 11, 12, 13, 17, 18, 19, 20, 21, 22, 23, 24, 25, 26, 27, 28, 29, 30, 31, 32, 33, 34, 35, 36, 37, 38, 39, 47, 48, 49, 57, 58, 59, 60, 61, 62, 63, 64, 65, 66, 67, 68] (by decide +kernel) (by decide +kernel)
set_option maxRecDepth 20000 in
theorem gX4_searchCell_X4_search : GoodIn wsX4_searchCell (wsV RX4 120 RX4 yX4_search wsX4_search) := goodIn_app (goodIn_of _ (by decide +kernel)) ggX4_searchCell_X4_search
theorem dX4_searchCell_0 : decode cX4_searchCell 0 = .ok (.aload_n 0, 1) := by decide +kernel
theorem dX4_searchCell_1 : decode cX4_searchCell 1 = .ok (.getfield 11, 3) := by decide +kernel
theorem dX4_searchCell_4 : decode cX4_searchCell 4 = .ok (.iload_n 2, 1) := by decide +kernel
theorem dX4_searchCell_5 : decode cX4_searchCell 5 = .ok (.iload_n 3, 1) := by decide +kernel
theorem dX4_searchCell_6 : decode cX4_searchCell 6 = .ok (.invokestatic 79, 3) := by decide +kernel
theorem dX4_searchCell_9 : decode cX4_searchCell 9 = .ok (.iaload, 1) := by decide +kernel
theorem dX4_searchCell_10 : decode cX4_searchCell 10 = .ok (.istore 4, 2) := by decide +kernel
theorem dX4_searchCell_12 : decode cX4_searchCell 12 = .ok (.aload_n 1, 1) := by decide +kernel
theorem dX4_searchCell_13 : decode cX4_searchCell 13 = .ok (.iload 4, 2) := by decide +kernel
theorem dX4_searchCell_15 : decode cX4_searchCell 15 = .ok (.iload_n 2, 1) := by decide +kernel
theorem dX4_searchCell_16 : decode cX4_searchCell 16 = .ok (.invokevirtual 126, 3) := by decide +kernel
theorem dX4_searchCell_19 : decode cX4_searchCell 19 = .ok (.ifCond .eq 16, 3) := by decide +kernel
theorem dX4_searchCell_22 : decode cX4_searchCell 22 = .ok (.aload_n 0, 1) := by decide +kernel
theorem dX4_searchCell_23 : decode cX4_searchCell 23 = .ok (.aload_n 1, 1) := by decide +kernel
theorem dX4_searchCell_24 : decode cX4_searchCell 24 = .ok (.iload_n 2, 1) := by decide +kernel
theorem dX4_searchCell_25 : decode cX4_searchCell 25 = .ok (.iconst 1, 1) := by decide +kernel
theorem dX4_searchCell_26 : decode cX4_searchCell 26 = .ok (.iadd, 1) := by decide +kernel
theorem dX4_searchCell_27 : decode cX4_searchCell 27 = .ok (.iload 4, 2) := by decide +kernel
theorem dX4_searchCell_29 : decode cX4_searchCell 29 = .ok (.invokevirtual 120, 3) := by decide +kernel
theorem dX4_searchCell_32 : decode cX4_searchCell 32 = .ok (.goto 4, 3) := by decide +kernel
theorem dX4_searchCell_35 : decode cX4_searchCell 35 = .ok (.iconst 0, 1) := by decide +kernel
theorem dX4_searchCell_36 : decode cX4_searchCell 36 = .ok (.ireturn, 1) := by decide +kernel
set_option maxRecDepth 20000 in
theorem ggX4_search_X6_reverse : GoodIn wsX4_search wsX6_reverse := goodIn_r _ [3] (by decide +kernel) (by decide +kernel)
set_option maxRecDepth 20000 in
theorem gX4_search_X6_reverse_n123 : GoodIn wsX4_search (wsX6_reverse) := ggX4_search_X6_reverse
set_option maxRecDepth 20000 in
theorem ggX4_search_X6_image : GoodIn wsX4_search wsX6_image := goodIn_r _ [5] (by decide +kernel) (by decide +kernel)
set_option maxRecDepth 20000 in
theorem gX4_search_X6_image_n76 : GoodIn wsX4_search (wsX6_image) := ggX4_search_X6_image
set_option maxRecDepth 20000 in
theorem ggX4_search_X4_reaches : GoodIn wsX4_search wsX4_reaches := goodIn_r _ [10, 11, 56, 57, 58, 59, 60, 61, 62] (by decide +kernel) (by decide +kernel)
set_option maxRecDepth 20000 in
theorem gX4_search_X4_reaches : GoodIn wsX4_search (wsV RX4 65 RX4 yX4_reaches wsX4_reaches) := goodIn_app (goodIn_of _ (by decide +kernel)) ggX4_search_X4_reaches
set_option maxRecDepth 20000 in
theorem ggX4_search_X4_step : GoodIn wsX4_search wsX4_step := goodIn_r _ [15, 16, 17, 18, 9, 19, 20, 2, 21, 56, 57, 58, 59, 60, 61, 62] (by decide +kernel) (by decide +kernel)
set_option maxRecDepth 20000 in
theorem gX4_search_X4_step : GoodIn wsX4_search (wsV RX4 131 RX4 yX4_step wsX4_step) := goodIn_app (goodIn_of _ (by decide +kernel)) ggX4_search_X4_step
set_option maxRecDepth 20000 in
theorem ggX4_search_X0_fits : GoodIn wsX4_search wsX0_fits := goodIn_r _ [27, 28, 29, 4, 2, 5, 63, 64] (by decide +kernel) (by decide +kernel)
set_option maxRecDepth 20000 in
theorem gX4_search_X0_fits_u126X0 : GoodIn wsX4_search (va_wsU RX4 126 RX0 "TurnGroups$Wish" ⟨"TurnGroups$Wish", "fits", "(II)Z"⟩ yX0_fits wsX0_fits) := goodIn_app (goodIn_of _ (by decide +kernel)) ggX4_search_X0_fits
set_option maxRecDepth 20000 in
theorem ggX4_search_X1_fits : GoodIn wsX4_search wsX1_fits := goodIn_r _ [33, 34, 35, 36, 32, 37, 4, 2, 5, 65, 56, 57, 58, 59, 60, 61, 62] (by decide +kernel) (by decide +kernel)
set_option maxRecDepth 20000 in
theorem gX4_search_X1_fits_u126X1 : GoodIn wsX4_search (va_wsU RX4 126 RX1 "TurnGroups$Wish" ⟨"TurnGroups$Wish", "fits", "(II)Z"⟩ yX1_fits wsX1_fits) := goodIn_app (goodIn_of _ (by decide +kernel)) ggX4_search_X1_fits
set_option maxRecDepth 20000 in
theorem ggX4_search_X2_fits : GoodIn wsX4_search wsX2_fits := goodIn_r _ [41, 42, 4, 2, 5, 66] (by decide +kernel) (by decide +kernel)
set_option maxRecDepth 20000 in
theorem gX4_search_X2_fits_u126X2 : GoodIn wsX4_search (va_wsU RX4 126 RX2 "TurnGroups$Wish" ⟨"TurnGroups$Wish", "fits", "(II)Z"⟩ yX2_fits wsX2_fits) := goodIn_app (goodIn_of _ (by decide +kernel)) ggX4_search_X2_fits
set_option maxRecDepth 20000 in
theorem ggX4_search_X3_fits : GoodIn wsX4_search wsX3_fits := goodIn_r _ [46, 47, 48, 49, 50, 9, 51, 52, 4, 2, 5, 6, 7, 8, 10, 11, 17, 18, 19, 20, 21, 67, 56, 57, 58, 59, 60, 61, 62] (by decide +kernel) (by decide +kernel)
set_option maxRecDepth 20000 in
theorem gX4_search_X3_fits_u126X3 : GoodIn wsX4_search (va_wsU RX4 126 RX3 "TurnGroups$Wish" ⟨"TurnGroups$Wish", "fits", "(II)Z"⟩ yX3_fits wsX3_fits) := goodIn_app (goodIn_of _ (by decide +kernel)) ggX4_search_X3_fits
set_option maxRecDepth 20000 in
theorem ggX4_search_X4_search : GoodIn wsX4_search wsX4_search := goodIn_r _ [0, 1, 2, 3, 4, 5, 6, 7, 8, 9, 10, 11, 12, 13, 14, 15, 16, 17, 18, 19, 20, 21, 22, 23, 24, 25, 26, 27, 28, 29, 30, 31, 32, 33, 34, 35, 36, 37, 38, 39, 40, 41, 42, 43, 44, 45, 46, 47, 48, 49, 50, 51, 52, 53, 54, 55, 56, 57, 58, 59, 60, 61, 62, 63, 64, 65, 66, 67] (by decide +kernel) (by decide +kernel)
set_option maxRecDepth 20000 in
theorem gX4_search_X4_search : GoodIn wsX4_search (wsV RX4 120 RX4 yX4_search wsX4_search) := goodIn_app (goodIn_of _ (by decide +kernel)) ggX4_search_X4_search
theorem dX4_search_0 : decode cX4_search 0 = .ok (.iload_n 2, 1) := by decide +kernel
theorem dX4_search_1 : decode cX4_search 1 = .ok (.bipush 8, 2) := by decide +kernel
theorem dX4_search_3 : decode cX4_search 3 = .ok (.if_icmp .lt 5, 3) := by decide +kernel
theorem dX4_search_6 : decode cX4_search 6 = .ok (.iload_n 3, 1) := by decide +kernel
theorem dX4_search_7 : decode cX4_search 7 = .ok (.ireturn, 1) := by decide +kernel
theorem dX4_search_8 : decode cX4_search 8 = .ok (.iload_n 3, 1) := by decide +kernel
theorem dX4_search_9 : decode cX4_search 9 = .ok (.invokestatic 123, 3) := by decide +kernel
theorem dX4_search_12 : decode cX4_search 12 = .ok (.istore 4, 2) := by decide +kernel
theorem dX4_search_14 : decode cX4_search 14 = .ok (.iconst 0, 1) := by decide +kernel
theorem dX4_search_15 : decode cX4_search 15 = .ok (.istore 5, 2) := by decide +kernel
theorem dX4_search_17 : decode cX4_search 17 = .ok (.iload 5, 2) := by decide +kernel
theorem dX4_search_19 : decode cX4_search 19 = .ok (.bipush 8, 2) := by decide +kernel
theorem dX4_search_21 : decode cX4_search 21 = .ok (.if_icmp .ge 72, 3) := by decide +kernel
theorem dX4_search_24 : decode cX4_search 24 = .ok (.iload 4, 2) := by decide +kernel
theorem dX4_search_26 : decode cX4_search 26 = .ok (.iload 5, 2) := by decide +kernel
theorem dX4_search_28 : decode cX4_search 28 = .ok (.invokestatic 76, 3) := by decide +kernel
theorem dX4_search_31 : decode cX4_search 31 = .ok (.istore 6, 2) := by decide +kernel
theorem dX4_search_33 : decode cX4_search 33 = .ok (.aload_n 0, 1) := by decide +kernel
theorem dX4_search_34 : decode cX4_search 34 = .ok (.iload_n 2, 1) := by decide +kernel
theorem dX4_search_35 : decode cX4_search 35 = .ok (.iload 6, 2) := by decide +kernel
theorem dX4_search_37 : decode cX4_search 37 = .ok (.invokevirtual 65, 3) := by decide +kernel
theorem dX4_search_40 : decode cX4_search 40 = .ok (.ifCond .eq 47, 3) := by decide +kernel
theorem dX4_search_43 : decode cX4_search 43 = .ok (.aload_n 0, 1) := by decide +kernel
theorem dX4_search_44 : decode cX4_search 44 = .ok (.iload_n 2, 1) := by decide +kernel
theorem dX4_search_45 : decode cX4_search 45 = .ok (.iload_n 3, 1) := by decide +kernel
theorem dX4_search_46 : decode cX4_search 46 = .ok (.iload 6, 2) := by decide +kernel
theorem dX4_search_48 : decode cX4_search 48 = .ok (.invokevirtual 131, 3) := by decide +kernel
theorem dX4_search_51 : decode cX4_search 51 = .ok (.istore 7, 2) := by decide +kernel
theorem dX4_search_53 : decode cX4_search 53 = .ok (.aload_n 1, 1) := by decide +kernel
theorem dX4_search_54 : decode cX4_search 54 = .ok (.iload 7, 2) := by decide +kernel
theorem dX4_search_56 : decode cX4_search 56 = .ok (.iload_n 2, 1) := by decide +kernel
theorem dX4_search_57 : decode cX4_search 57 = .ok (.invokevirtual 126, 3) := by decide +kernel
theorem dX4_search_60 : decode cX4_search 60 = .ok (.ifCond .eq 16, 3) := by decide +kernel
theorem dX4_search_63 : decode cX4_search 63 = .ok (.aload_n 0, 1) := by decide +kernel
theorem dX4_search_64 : decode cX4_search 64 = .ok (.aload_n 1, 1) := by decide +kernel
theorem dX4_search_65 : decode cX4_search 65 = .ok (.iload_n 2, 1) := by decide +kernel
theorem dX4_search_66 : decode cX4_search 66 = .ok (.iconst 1, 1) := by decide +kernel
theorem dX4_search_67 : decode cX4_search 67 = .ok (.iadd, 1) := by decide +kernel
theorem dX4_search_68 : decode cX4_search 68 = .ok (.iload 7, 2) := by decide +kernel
theorem dX4_search_70 : decode cX4_search 70 = .ok (.invokevirtual 120, 3) := by decide +kernel
theorem dX4_search_73 : decode cX4_search 73 = .ok (.goto 4, 3) := by decide +kernel
theorem dX4_search_76 : decode cX4_search 76 = .ok (.iconst 0, 1) := by decide +kernel
theorem dX4_search_77 : decode cX4_search 77 = .ok (.istore 8, 2) := by decide +kernel
theorem dX4_search_79 : decode cX4_search 79 = .ok (.iload 8, 2) := by decide +kernel
theorem dX4_search_81 : decode cX4_search 81 = .ok (.ifCond .eq 6, 3) := by decide +kernel
theorem dX4_search_84 : decode cX4_search 84 = .ok (.iload 8, 2) := by decide +kernel
theorem dX4_search_86 : decode cX4_search 86 = .ok (.ireturn, 1) := by decide +kernel
theorem dX4_search_87 : decode cX4_search 87 = .ok (.iinc 5 1, 3) := by decide +kernel
theorem dX4_search_90 : decode cX4_search 90 = .ok (.goto (-73), 3) := by decide +kernel
theorem dX4_search_93 : decode cX4_search 93 = .ok (.iconst 0, 1) := by decide +kernel
theorem dX4_search_94 : decode cX4_search 94 = .ok (.ireturn, 1) := by decide +kernel
set_option maxRecDepth 20000 in
theorem ggX4_countLeaving_X4_reaches : GoodIn wsX4_countLeaving wsX4_reaches := goodIn_r _ [5, 6, 23, 24, 25, 26, 27, 28, 29] (by decide +kernel) (by decide +kernel)
set_option maxRecDepth 20000 in
theorem gX4_countLeaving_X4_reaches : GoodIn wsX4_countLeaving (wsV RX4 65 RX4 yX4_reaches wsX4_reaches) := goodIn_app (goodIn_of _ (by decide +kernel)) ggX4_countLeaving_X4_reaches
set_option maxRecDepth 20000 in
theorem ggX4_countLeaving_X4_step : GoodIn wsX4_countLeaving wsX4_step := goodIn_r _ [10, 11, 12, 13, 4, 14, 15, 16, 17, 23, 24, 25, 26, 27, 28, 29] (by decide +kernel) (by decide +kernel)
set_option maxRecDepth 20000 in
theorem gX4_countLeaving_X4_step : GoodIn wsX4_countLeaving (wsV RX4 131 RX4 yX4_step wsX4_step) := goodIn_app (goodIn_of _ (by decide +kernel)) ggX4_countLeaving_X4_step
set_option maxRecDepth 20000 in
theorem ggX4_countLeaving_X6_image : GoodIn wsX4_countLeaving wsX6_image := goodIn_r _ [19] (by decide +kernel) (by decide +kernel)
set_option maxRecDepth 20000 in
theorem gX4_countLeaving_X6_image_n76 : GoodIn wsX4_countLeaving (wsX6_image) := ggX4_countLeaving_X6_image
set_option maxRecDepth 20000 in
theorem ggX4_countLeaving_X4_countLeaving : GoodIn wsX4_countLeaving wsX4_countLeaving := goodIn_r _ [0, 1, 2, 3, 4, 5, 6, 7, 8, 9, 10, 11, 12, 13, 14, 15, 16, 17, 18, 19, 20, 21, 22, 23, 24, 25, 26, 27, 28, 29] (by decide +kernel) (by decide +kernel)
set_option maxRecDepth 20000 in
theorem gX4_countLeaving_X4_countLeaving : GoodIn wsX4_countLeaving (wsV RX4 111 RX4 yX4_countLeaving wsX4_countLeaving) := goodIn_app (goodIn_of _ (by decide +kernel)) ggX4_countLeaving_X4_countLeaving
theorem dX4_countLeaving_0 : decode cX4_countLeaving 0 = .ok (.iload_n 1, 1) := by decide +kernel
theorem dX4_countLeaving_1 : decode cX4_countLeaving 1 = .ok (.ifCond .lt 11, 3) := by decide +kernel
theorem dX4_countLeaving_4 : decode cX4_countLeaving 4 = .ok (.iload_n 1, 1) := by decide +kernel
theorem dX4_countLeaving_5 : decode cX4_countLeaving 5 = .ok (.bipush 8, 2) := by decide +kernel
theorem dX4_countLeaving_7 : decode cX4_countLeaving 7 = .ok (.iload_n 2, 1) := by decide +kernel
theorem dX4_countLeaving_8 : decode cX4_countLeaving 8 = .ok (.isub, 1) := by decide +kernel
theorem dX4_countLeaving_9 : decode cX4_countLeaving 9 = .ok (.if_icmp .le 5, 3) := by decide +kernel
theorem dX4_countLeaving_12 : decode cX4_countLeaving 12 = .ok (.iconst 0, 1) := by decide +kernel
theorem dX4_countLeaving_13 : decode cX4_countLeaving 13 = .ok (.ireturn, 1) := by decide +kernel
theorem dX4_countLeaving_14 : decode cX4_countLeaving 14 = .ok (.iload_n 2, 1) := by decide +kernel
theorem dX4_countLeaving_15 : decode cX4_countLeaving 15 = .ok (.bipush 8, 2) := by decide +kernel
theorem dX4_countLeaving_17 : decode cX4_countLeaving 17 = .ok (.if_icmp .lt 5, 3) := by decide +kernel
theorem dX4_countLeaving_20 : decode cX4_countLeaving 20 = .ok (.iconst 1, 1) := by decide +kernel
theorem dX4_countLeaving_21 : decode cX4_countLeaving 21 = .ok (.ireturn, 1) := by decide +kernel
theorem dX4_countLeaving_22 : decode cX4_countLeaving 22 = .ok (.iconst 0, 1) := by decide +kernel
theorem dX4_countLeaving_23 : decode cX4_countLeaving 23 = .ok (.istore 4, 2) := by decide +kernel
theorem dX4_countLeaving_25 : decode cX4_countLeaving 25 = .ok (.iload_n 2, 1) := by decide +kernel
theorem dX4_countLeaving_26 : decode cX4_countLeaving 26 = .ok (.istore 5, 2) := by decide +kernel
theorem dX4_countLeaving_28 : decode cX4_countLeaving 28 = .ok (.iload 5, 2) := by decide +kernel
theorem dX4_countLeaving_30 : decode cX4_countLeaving 30 = .ok (.bipush 8, 2) := by decide +kernel
theorem dX4_countLeaving_32 : decode cX4_countLeaving 32 = .ok (.if_icmp .ge 64, 3) := by decide +kernel
theorem dX4_countLeaving_35 : decode cX4_countLeaving 35 = .ok (.aload_n 0, 1) := by decide +kernel
theorem dX4_countLeaving_36 : decode cX4_countLeaving 36 = .ok (.iload_n 2, 1) := by decide +kernel
theorem dX4_countLeaving_37 : decode cX4_countLeaving 37 = .ok (.iload 5, 2) := by decide +kernel
theorem dX4_countLeaving_39 : decode cX4_countLeaving 39 = .ok (.invokevirtual 65, 3) := by decide +kernel
theorem dX4_countLeaving_42 : decode cX4_countLeaving 42 = .ok (.ifCond .eq 48, 3) := by decide +kernel
theorem dX4_countLeaving_45 : decode cX4_countLeaving 45 = .ok (.aload_n 0, 1) := by decide +kernel
theorem dX4_countLeaving_46 : decode cX4_countLeaving 46 = .ok (.iload_n 2, 1) := by decide +kernel
theorem dX4_countLeaving_47 : decode cX4_countLeaving 47 = .ok (.iload_n 3, 1) := by decide +kernel
theorem dX4_countLeaving_48 : decode cX4_countLeaving 48 = .ok (.iload 5, 2) := by decide +kernel
theorem dX4_countLeaving_50 : decode cX4_countLeaving 50 = .ok (.invokevirtual 131, 3) := by decide +kernel
theorem dX4_countLeaving_53 : decode cX4_countLeaving 53 = .ok (.istore 6, 2) := by decide +kernel
theorem dX4_countLeaving_55 : decode cX4_countLeaving 55 = .ok (.iload 6, 2) := by decide +kernel
theorem dX4_countLeaving_57 : decode cX4_countLeaving 57 = .ok (.iload_n 2, 1) := by decide +kernel
theorem dX4_countLeaving_58 : decode cX4_countLeaving 58 = .ok (.invokestatic 76, 3) := by decide +kernel
theorem dX4_countLeaving_61 : decode cX4_countLeaving 61 = .ok (.iload_n 2, 1) := by decide +kernel
theorem dX4_countLeaving_62 : decode cX4_countLeaving 62 = .ok (.if_icmp .ne 7, 3) := by decide +kernel
theorem dX4_countLeaving_65 : decode cX4_countLeaving 65 = .ok (.iconst 1, 1) := by decide +kernel
theorem dX4_countLeaving_66 : decode cX4_countLeaving 66 = .ok (.goto 4, 3) := by decide +kernel
theorem dX4_countLeaving_69 : decode cX4_countLeaving 69 = .ok (.iconst 0, 1) := by decide +kernel
theorem dX4_countLeaving_70 : decode cX4_countLeaving 70 = .ok (.istore 7, 2) := by decide +kernel
theorem dX4_countLeaving_72 : decode cX4_countLeaving 72 = .ok (.iload 4, 2) := by decide +kernel
theorem dX4_countLeaving_74 : decode cX4_countLeaving 74 = .ok (.aload_n 0, 1) := by decide +kernel
theorem dX4_countLeaving_75 : decode cX4_countLeaving 75 = .ok (.iload_n 1, 1) := by decide +kernel
theorem dX4_countLeaving_76 : decode cX4_countLeaving 76 = .ok (.iload 7, 2) := by decide +kernel
theorem dX4_countLeaving_78 : decode cX4_countLeaving 78 = .ok (.isub, 1) := by decide +kernel
theorem dX4_countLeaving_79 : decode cX4_countLeaving 79 = .ok (.iload_n 2, 1) := by decide +kernel
theorem dX4_countLeaving_80 : decode cX4_countLeaving 80 = .ok (.iconst 1, 1) := by decide +kernel
theorem dX4_countLeaving_81 : decode cX4_countLeaving 81 = .ok (.iadd, 1) := by decide +kernel
theorem dX4_countLeaving_82 : decode cX4_countLeaving 82 = .ok (.iload 6, 2) := by decide +kernel
theorem dX4_countLeaving_84 : decode cX4_countLeaving 84 = .ok (.invokevirtual 111, 3) := by decide +kernel
theorem dX4_countLeaving_87 : decode cX4_countLeaving 87 = .ok (.iadd, 1) := by decide +kernel
theorem dX4_countLeaving_88 : decode cX4_countLeaving 88 = .ok (.istore 4, 2) := by decide +kernel
theorem dX4_countLeaving_90 : decode cX4_countLeaving 90 = .ok (.iinc 5 1, 3) := by decide +kernel
theorem dX4_countLeaving_93 : decode cX4_countLeaving 93 = .ok (.goto (-65), 3) := by decide +kernel
theorem dX4_countLeaving_96 : decode cX4_countLeaving 96 = .ok (.iload 4, 2) := by decide +kernel
theorem dX4_countLeaving_98 : decode cX4_countLeaving 98 = .ok (.ireturn, 1) := by decide +kernel
set_option maxRecDepth 20000 in
theorem ggX4_step_X4_cellOf : GoodIn wsX4_step wsX4_cellOf := goodIn_r _ [5] (by decide +kernel) (by decide +kernel)
set_option maxRecDepth 20000 in
theorem gX4_step_X4_cellOf : GoodIn wsX4_step (va_wsS RX4 79 yX4_cellOf wsX4_cellOf) := goodIn_app (goodIn_of _ (by decide +kernel)) ggX4_step_X4_cellOf
set_option maxRecDepth 20000 in
theorem ggX4_step_X6_chain : GoodIn wsX4_step wsX6_chain := goodIn_r _ [8] (by decide +kernel) (by decide +kernel)
set_option maxRecDepth 20000 in
theorem gX4_step_X6_chain_n82 : GoodIn wsX4_step (wsX6_chain) := ggX4_step_X6_chain
theorem dX4_step_0 : decode cX4_step 0 = .ok (.iload_n 3, 1) := by decide +kernel
theorem dX4_step_1 : decode cX4_step 1 = .ok (.iload_n 1, 1) := by decide +kernel
theorem dX4_step_2 : decode cX4_step 2 = .ok (.if_icmp .ne 7, 3) := by decide +kernel
theorem dX4_step_5 : decode cX4_step 5 = .ok (.iload_n 2, 1) := by decide +kernel
theorem dX4_step_6 : decode cX4_step 6 = .ok (.goto 17, 3) := by decide +kernel
theorem dX4_step_9 : decode cX4_step 9 = .ok (.aload_n 0, 1) := by decide +kernel
theorem dX4_step_10 : decode cX4_step 10 = .ok (.getfield 11, 3) := by decide +kernel
theorem dX4_step_13 : decode cX4_step 13 = .ok (.iload_n 1, 1) := by decide +kernel
theorem dX4_step_14 : decode cX4_step 14 = .ok (.iload_n 3, 1) := by decide +kernel
theorem dX4_step_15 : decode cX4_step 15 = .ok (.invokestatic 79, 3) := by decide +kernel
theorem dX4_step_18 : decode cX4_step 18 = .ok (.iaload, 1) := by decide +kernel
theorem dX4_step_19 : decode cX4_step 19 = .ok (.iload_n 2, 1) := by decide +kernel
theorem dX4_step_20 : decode cX4_step 20 = .ok (.invokestatic 82, 3) := by decide +kernel
theorem dX4_step_23 : decode cX4_step 23 = .ok (.ireturn, 1) := by decide +kernel
set_option maxRecDepth 20000 in
theorem ggX4_descend_X6_reverse : GoodIn wsX4_descend wsX6_reverse := goodIn_r _ [3] (by decide +kernel) (by decide +kernel)
set_option maxRecDepth 20000 in
theorem gX4_descend_X6_reverse_n123 : GoodIn wsX4_descend (wsX6_reverse) := ggX4_descend_X6_reverse
set_option maxRecDepth 20000 in
theorem ggX4_descend_X6_image : GoodIn wsX4_descend wsX6_image := goodIn_r _ [5] (by decide +kernel) (by decide +kernel)
set_option maxRecDepth 20000 in
theorem gX4_descend_X6_image_n76 : GoodIn wsX4_descend (wsX6_image) := ggX4_descend_X6_image
set_option maxRecDepth 20000 in
theorem ggX4_descend_X4_step : GoodIn wsX4_descend wsX4_step := goodIn_r _ [10, 11, 12, 13, 9, 14, 15, 2, 16, 17, 18, 19, 20, 21, 22, 23] (by decide +kernel) (by decide +kernel)
set_option maxRecDepth 20000 in
theorem gX4_descend_X4_step : GoodIn wsX4_descend (wsV RX4 131 RX4 yX4_step wsX4_step) := goodIn_app (goodIn_of _ (by decide +kernel)) ggX4_descend_X4_step
theorem dX4_descend_0 : decode cX4_descend 0 = .ok (.aload_n 0, 1) := by decide +kernel
theorem dX4_descend_1 : decode cX4_descend 1 = .ok (.iload_n 1, 1) := by decide +kernel
theorem dX4_descend_2 : decode cX4_descend 2 = .ok (.iload_n 2, 1) := by decide +kernel
theorem dX4_descend_3 : decode cX4_descend 3 = .ok (.iload_n 2, 1) := by decide +kernel
theorem dX4_descend_4 : decode cX4_descend 4 = .ok (.invokestatic 123, 3) := by decide +kernel
theorem dX4_descend_7 : decode cX4_descend 7 = .ok (.iload_n 3, 1) := by decide +kernel
theorem dX4_descend_8 : decode cX4_descend 8 = .ok (.invokestatic 76, 3) := by decide +kernel
theorem dX4_descend_11 : decode cX4_descend 11 = .ok (.invokevirtual 131, 3) := by decide +kernel
theorem dX4_descend_14 : decode cX4_descend 14 = .ok (.ireturn, 1) := by decide +kernel
theorem dX4_cellOf_0 : decode cX4_cellOf 0 = .ok (.iload_n 0, 1) := by decide +kernel
theorem dX4_cellOf_1 : decode cX4_cellOf 1 = .ok (.bipush 8, 2) := by decide +kernel
theorem dX4_cellOf_3 : decode cX4_cellOf 3 = .ok (.imul, 1) := by decide +kernel
theorem dX4_cellOf_4 : decode cX4_cellOf 4 = .ok (.iload_n 1, 1) := by decide +kernel
theorem dX4_cellOf_5 : decode cX4_cellOf 5 = .ok (.iadd, 1) := by decide +kernel
theorem dX4_cellOf_6 : decode cX4_cellOf 6 = .ok (.ireturn, 1) := by decide +kernel
theorem dX4_levelOf_0 : decode cX4_levelOf 0 = .ok (.iload_n 0, 1) := by decide +kernel
theorem dX4_levelOf_1 : decode cX4_levelOf 1 = .ok (.bipush 8, 2) := by decide +kernel
theorem dX4_levelOf_3 : decode cX4_levelOf 3 = .ok (.idiv, 1) := by decide +kernel
theorem dX4_levelOf_4 : decode cX4_levelOf 4 = .ok (.ireturn, 1) := by decide +kernel
set_option maxRecDepth 20000 in
theorem ggX4_imageOfSet_X6_image : GoodIn wsX4_imageOfSet wsX6_image := goodIn_r _ [3] (by decide +kernel) (by decide +kernel)
set_option maxRecDepth 20000 in
theorem gX4_imageOfSet_X6_image_n76 : GoodIn wsX4_imageOfSet (wsX6_image) := ggX4_imageOfSet_X6_image
theorem dX4_imageOfSet_0 : decode cX4_imageOfSet 0 = .ok (.iconst 0, 1) := by decide +kernel
theorem dX4_imageOfSet_1 : decode cX4_imageOfSet 1 = .ok (.istore_n 2, 1) := by decide +kernel
theorem dX4_imageOfSet_2 : decode cX4_imageOfSet 2 = .ok (.iconst 0, 1) := by decide +kernel
theorem dX4_imageOfSet_3 : decode cX4_imageOfSet 3 = .ok (.istore_n 3, 1) := by decide +kernel
theorem dX4_imageOfSet_4 : decode cX4_imageOfSet 4 = .ok (.iload_n 3, 1) := by decide +kernel
theorem dX4_imageOfSet_5 : decode cX4_imageOfSet 5 = .ok (.bipush 8, 2) := by decide +kernel
theorem dX4_imageOfSet_7 : decode cX4_imageOfSet 7 = .ok (.if_icmp .ge 28, 3) := by decide +kernel
theorem dX4_imageOfSet_10 : decode cX4_imageOfSet 10 = .ok (.iload_n 1, 1) := by decide +kernel
theorem dX4_imageOfSet_11 : decode cX4_imageOfSet 11 = .ok (.iload_n 3, 1) := by decide +kernel
theorem dX4_imageOfSet_12 : decode cX4_imageOfSet 12 = .ok (.ishr, 1) := by decide +kernel
theorem dX4_imageOfSet_13 : decode cX4_imageOfSet 13 = .ok (.iconst 1, 1) := by decide +kernel
theorem dX4_imageOfSet_14 : decode cX4_imageOfSet 14 = .ok (.iand, 1) := by decide +kernel
theorem dX4_imageOfSet_15 : decode cX4_imageOfSet 15 = .ok (.iconst 1, 1) := by decide +kernel
theorem dX4_imageOfSet_16 : decode cX4_imageOfSet 16 = .ok (.if_icmp .ne 13, 3) := by decide +kernel
theorem dX4_imageOfSet_19 : decode cX4_imageOfSet 19 = .ok (.iload_n 2, 1) := by decide +kernel
theorem dX4_imageOfSet_20 : decode cX4_imageOfSet 20 = .ok (.iconst 1, 1) := by decide +kernel
theorem dX4_imageOfSet_21 : decode cX4_imageOfSet 21 = .ok (.iload_n 0, 1) := by decide +kernel
theorem dX4_imageOfSet_22 : decode cX4_imageOfSet 22 = .ok (.iload_n 3, 1) := by decide +kernel
theorem dX4_imageOfSet_23 : decode cX4_imageOfSet 23 = .ok (.invokestatic 76, 3) := by decide +kernel
theorem dX4_imageOfSet_26 : decode cX4_imageOfSet 26 = .ok (.ishl, 1) := by decide +kernel
theorem dX4_imageOfSet_27 : decode cX4_imageOfSet 27 = .ok (.ior, 1) := by decide +kernel
theorem dX4_imageOfSet_28 : decode cX4_imageOfSet 28 = .ok (.istore_n 2, 1) := by decide +kernel
theorem dX4_imageOfSet_29 : decode cX4_imageOfSet 29 = .ok (.iinc 3 1, 3) := by decide +kernel
theorem dX4_imageOfSet_32 : decode cX4_imageOfSet 32 = .ok (.goto (-28), 3) := by decide +kernel
theorem dX4_imageOfSet_35 : decode cX4_imageOfSet 35 = .ok (.iload_n 2, 1) := by decide +kernel
theorem dX4_imageOfSet_36 : decode cX4_imageOfSet 36 = .ok (.ireturn, 1) := by decide +kernel
set_option maxRecDepth 20000 in
theorem ggX4_mergeImages_X6_image : GoodIn wsX4_mergeImages wsX6_image := goodIn_r _ [3] (by decide +kernel) (by decide +kernel)
set_option maxRecDepth 20000 in
theorem gX4_mergeImages_X6_image_n76 : GoodIn wsX4_mergeImages (wsX6_image) := ggX4_mergeImages_X6_image
set_option maxRecDepth 20000 in
theorem ggX4_mergeImages_X4_merge : GoodIn wsX4_mergeImages wsX4_merge := goodIn_r _ [7, 1, 2, 3] (by decide +kernel) (by decide +kernel)
set_option maxRecDepth 20000 in
theorem gX4_mergeImages_X4_merge : GoodIn wsX4_mergeImages (va_wsS RX4 101 yX4_merge wsX4_merge) := goodIn_app (goodIn_of _ (by decide +kernel)) ggX4_mergeImages_X4_merge
theorem dX4_mergeImages_0 : decode cX4_mergeImages 0 = .ok (.iload_n 0, 1) := by decide +kernel
theorem dX4_mergeImages_1 : decode cX4_mergeImages 1 = .ok (.istore_n 2, 1) := by decide +kernel
theorem dX4_mergeImages_2 : decode cX4_mergeImages 2 = .ok (.iconst 0, 1) := by decide +kernel
theorem dX4_mergeImages_3 : decode cX4_mergeImages 3 = .ok (.istore_n 3, 1) := by decide +kernel
theorem dX4_mergeImages_4 : decode cX4_mergeImages 4 = .ok (.iload_n 3, 1) := by decide +kernel
theorem dX4_mergeImages_5 : decode cX4_mergeImages 5 = .ok (.bipush 8, 2) := by decide +kernel
theorem dX4_mergeImages_7 : decode cX4_mergeImages 7 = .ok (.if_icmp .ge 28, 3) := by decide +kernel
theorem dX4_mergeImages_10 : decode cX4_mergeImages 10 = .ok (.iload_n 2, 1) := by decide +kernel
theorem dX4_mergeImages_11 : decode cX4_mergeImages 11 = .ok (.iload_n 1, 1) := by decide +kernel
theorem dX4_mergeImages_12 : decode cX4_mergeImages 12 = .ok (.iload_n 3, 1) := by decide +kernel
theorem dX4_mergeImages_13 : decode cX4_mergeImages 13 = .ok (.invokestatic 76, 3) := by decide +kernel
theorem dX4_mergeImages_16 : decode cX4_mergeImages 16 = .ok (.iload_n 1, 1) := by decide +kernel
theorem dX4_mergeImages_17 : decode cX4_mergeImages 17 = .ok (.iload_n 2, 1) := by decide +kernel
theorem dX4_mergeImages_18 : decode cX4_mergeImages 18 = .ok (.iload_n 3, 1) := by decide +kernel
theorem dX4_mergeImages_19 : decode cX4_mergeImages 19 = .ok (.invokestatic 76, 3) := by decide +kernel
theorem dX4_mergeImages_22 : decode cX4_mergeImages 22 = .ok (.invokestatic 76, 3) := by decide +kernel
theorem dX4_mergeImages_25 : decode cX4_mergeImages 25 = .ok (.invokestatic 101, 3) := by decide +kernel
theorem dX4_mergeImages_28 : decode cX4_mergeImages 28 = .ok (.istore_n 2, 1) := by decide +kernel
theorem dX4_mergeImages_29 : decode cX4_mergeImages 29 = .ok (.iinc 3 1, 3) := by decide +kernel
theorem dX4_mergeImages_32 : decode cX4_mergeImages 32 = .ok (.goto (-28), 3) := by decide +kernel
theorem dX4_mergeImages_35 : decode cX4_mergeImages 35 = .ok (.iload_n 2, 1) := by decide +kernel
theorem dX4_mergeImages_36 : decode cX4_mergeImages 36 = .ok (.ireturn, 1) := by decide +kernel
set_option maxRecDepth 20000 in
theorem ggX4_merge_X6_image : GoodIn wsX4_merge wsX6_image := goodIn_r _ [3] (by decide +kernel) (by decide +kernel)
set_option maxRecDepth 20000 in
theorem gX4_merge_X6_image_n76 : GoodIn wsX4_merge (wsX6_image) := ggX4_merge_X6_image
theorem dX4_merge_0 : decode cX4_merge 0 = .ok (.iload_n 0, 1) := by decide +kernel
theorem dX4_merge_1 : decode cX4_merge 1 = .ok (.iload_n 1, 1) := by decide +kernel
theorem dX4_merge_2 : decode cX4_merge 2 = .ok (.invokestatic 76, 3) := by decide +kernel
theorem dX4_merge_5 : decode cX4_merge 5 = .ok (.istore_n 3, 1) := by decide +kernel
theorem dX4_merge_6 : decode cX4_merge 6 = .ok (.iload_n 0, 1) := by decide +kernel
theorem dX4_merge_7 : decode cX4_merge 7 = .ok (.iload_n 2, 1) := by decide +kernel
theorem dX4_merge_8 : decode cX4_merge 8 = .ok (.invokestatic 76, 3) := by decide +kernel
theorem dX4_merge_11 : decode cX4_merge 11 = .ok (.istore 4, 2) := by decide +kernel
theorem dX4_merge_13 : decode cX4_merge 13 = .ok (.iload_n 0, 1) := by decide +kernel
theorem dX4_merge_14 : decode cX4_merge 14 = .ok (.istore 5, 2) := by decide +kernel
theorem dX4_merge_16 : decode cX4_merge 16 = .ok (.iconst 0, 1) := by decide +kernel
theorem dX4_merge_17 : decode cX4_merge 17 = .ok (.istore 6, 2) := by decide +kernel
theorem dX4_merge_19 : decode cX4_merge 19 = .ok (.iload 6, 2) := by decide +kernel
theorem dX4_merge_21 : decode cX4_merge 21 = .ok (.bipush 8, 2) := by decide +kernel
theorem dX4_merge_23 : decode cX4_merge 23 = .ok (.if_icmp .ge 39, 3) := by decide +kernel
theorem dX4_merge_26 : decode cX4_merge 26 = .ok (.iload_n 3, 1) := by decide +kernel
theorem dX4_merge_27 : decode cX4_merge 27 = .ok (.iload 4, 2) := by decide +kernel
theorem dX4_merge_29 : decode cX4_merge 29 = .ok (.if_icmp .eq 33, 3) := by decide +kernel
theorem dX4_merge_32 : decode cX4_merge 32 = .ok (.iload_n 0, 1) := by decide +kernel
theorem dX4_merge_33 : decode cX4_merge 33 = .ok (.iload 6, 2) := by decide +kernel
theorem dX4_merge_35 : decode cX4_merge 35 = .ok (.invokestatic 76, 3) := by decide +kernel
theorem dX4_merge_38 : decode cX4_merge 38 = .ok (.iload_n 3, 1) := by decide +kernel
theorem dX4_merge_39 : decode cX4_merge 39 = .ok (.if_icmp .ne 17, 3) := by decide +kernel
theorem dX4_merge_42 : decode cX4_merge 42 = .ok (.iload 5, 2) := by decide +kernel
theorem dX4_merge_44 : decode cX4_merge 44 = .ok (.iload_n 3, 1) := by decide +kernel
theorem dX4_merge_45 : decode cX4_merge 45 = .ok (.iload 4, 2) := by decide +kernel
theorem dX4_merge_47 : decode cX4_merge 47 = .ok (.ixor, 1) := by decide +kernel
theorem dX4_merge_48 : decode cX4_merge 48 = .ok (.iconst 4, 1) := by decide +kernel
theorem dX4_merge_49 : decode cX4_merge 49 = .ok (.iload 6, 2) := by decide +kernel
theorem dX4_merge_51 : decode cX4_merge 51 = .ok (.imul, 1) := by decide +kernel
theorem dX4_merge_52 : decode cX4_merge 52 = .ok (.ishl, 1) := by decide +kernel
theorem dX4_merge_53 : decode cX4_merge 53 = .ok (.ixor, 1) := by decide +kernel
theorem dX4_merge_54 : decode cX4_merge 54 = .ok (.istore 5, 2) := by decide +kernel
theorem dX4_merge_56 : decode cX4_merge 56 = .ok (.iinc 6 1, 3) := by decide +kernel
theorem dX4_merge_59 : decode cX4_merge 59 = .ok (.goto (-40), 3) := by decide +kernel
theorem dX4_merge_62 : decode cX4_merge 62 = .ok (.iload 5, 2) := by decide +kernel
theorem dX4_merge_64 : decode cX4_merge 64 = .ok (.ireturn, 1) := by decide +kernel
