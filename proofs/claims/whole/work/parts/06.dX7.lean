set_option maxRecDepth 20000 in
theorem ggX7_init_X7_layAll : GoodIn wsX7_init wsX7_layAll := goodIn_r _ [21, 4, 22, 7, 23, 24, 20, 25, 26, 27, 28, 29, 30, 31, 32, 33, 34, 35, 36] (by decide +kernel) (by decide +kernel)
set_option maxRecDepth 20000 in
theorem gX7_init_X7_layAll : GoodIn wsX7_init (wsV RX7 39 RX7 yX7_layAll wsX7_layAll) := goodIn_app (goodIn_of _ (by decide +kernel)) ggX7_init_X7_layAll
theorem dX7_init_0 : decode cX7_init 0 = .ok (.aload_n 0, 1) := by decide +kernel
theorem dX7_init_1 : decode cX7_init 1 = .ok (.invokespecial 1, 3) := by decide +kernel
theorem dX7_init_4 : decode cX7_init 4 = .ok (.aload_n 0, 1) := by decide +kernel
theorem dX7_init_5 : decode cX7_init 5 = .ok (.iconst 4, 1) := by decide +kernel
theorem dX7_init_6 : decode cX7_init 6 = .ok (.putfield 7, 3) := by decide +kernel
theorem dX7_init_9 : decode cX7_init 9 = .ok (.aload_n 0, 1) := by decide +kernel
theorem dX7_init_10 : decode cX7_init 10 = .ok (.ldc 13, 2) := by decide +kernel
theorem dX7_init_12 : decode cX7_init 12 = .ok (.newarray .int, 2) := by decide +kernel
theorem dX7_init_14 : decode cX7_init 14 = .ok (.putfield 14, 3) := by decide +kernel
theorem dX7_init_17 : decode cX7_init 17 = .ok (.aload_n 0, 1) := by decide +kernel
theorem dX7_init_18 : decode cX7_init 18 = .ok (.bipush 8, 2) := by decide +kernel
theorem dX7_init_20 : decode cX7_init 20 = .ok (.newarray .int, 2) := by decide +kernel
theorem dX7_init_22 : decode cX7_init 22 = .ok (.putfield 18, 3) := by decide +kernel
theorem dX7_init_25 : decode cX7_init 25 = .ok (.aload_n 0, 1) := by decide +kernel
theorem dX7_init_26 : decode cX7_init 26 = .ok (.ldc 21, 2) := by decide +kernel
theorem dX7_init_28 : decode cX7_init 28 = .ok (.newarray .boolean, 2) := by decide +kernel
theorem dX7_init_30 : decode cX7_init 30 = .ok (.putfield 22, 3) := by decide +kernel
theorem dX7_init_33 : decode cX7_init 33 = .ok (.aload_n 0, 1) := by decide +kernel
theorem dX7_init_34 : decode cX7_init 34 = .ok (.bipush 8, 2) := by decide +kernel
theorem dX7_init_36 : decode cX7_init 36 = .ok (.newarray .int, 2) := by decide +kernel
theorem dX7_init_38 : decode cX7_init 38 = .ok (.putfield 26, 3) := by decide +kernel
theorem dX7_init_41 : decode cX7_init 41 = .ok (.aload_n 0, 1) := by decide +kernel
theorem dX7_init_42 : decode cX7_init 42 = .ok (.sipush 416, 3) := by decide +kernel
theorem dX7_init_45 : decode cX7_init 45 = .ok (.newarray .int, 2) := by decide +kernel
theorem dX7_init_47 : decode cX7_init 47 = .ok (.putfield 29, 3) := by decide +kernel
theorem dX7_init_50 : decode cX7_init 50 = .ok (.aload_n 0, 1) := by decide +kernel
theorem dX7_init_51 : decode cX7_init 51 = .ok (.bipush 13, 2) := by decide +kernel
theorem dX7_init_53 : decode cX7_init 53 = .ok (.newarray .int, 2) := by decide +kernel
theorem dX7_init_55 : decode cX7_init 55 = .ok (.putfield 32, 3) := by decide +kernel
theorem dX7_init_58 : decode cX7_init 58 = .ok (.aload_n 0, 1) := by decide +kernel
theorem dX7_init_59 : decode cX7_init 59 = .ok (.ldc 35, 2) := by decide +kernel
theorem dX7_init_61 : decode cX7_init 61 = .ok (.newarray .int, 2) := by decide +kernel
theorem dX7_init_63 : decode cX7_init 63 = .ok (.putfield 36, 3) := by decide +kernel
theorem dX7_init_66 : decode cX7_init 66 = .ok (.aload_n 0, 1) := by decide +kernel
theorem dX7_init_67 : decode cX7_init 67 = .ok (.invokevirtual 39, 3) := by decide +kernel
theorem dX7_init_70 : decode cX7_init 70 = .ok (.return_, 1) := by decide +kernel
theorem dX7_isIn_0 : decode cX7_isIn 0 = .ok (.iload_n 0, 1) := by decide +kernel
theorem dX7_isIn_1 : decode cX7_isIn 1 = .ok (.iload_n 1, 1) := by decide +kernel
theorem dX7_isIn_2 : decode cX7_isIn 2 = .ok (.if_icmp .lt 12, 3) := by decide +kernel
theorem dX7_isIn_5 : decode cX7_isIn 5 = .ok (.iload_n 0, 1) := by decide +kernel
theorem dX7_isIn_6 : decode cX7_isIn 6 = .ok (.iload_n 2, 1) := by decide +kernel
theorem dX7_isIn_7 : decode cX7_isIn 7 = .ok (.if_icmp .gt 7, 3) := by decide +kernel
theorem dX7_isIn_10 : decode cX7_isIn 10 = .ok (.iconst 1, 1) := by decide +kernel
theorem dX7_isIn_11 : decode cX7_isIn 11 = .ok (.goto 4, 3) := by decide +kernel
theorem dX7_isIn_14 : decode cX7_isIn 14 = .ok (.iconst 0, 1) := by decide +kernel
theorem dX7_isIn_15 : decode cX7_isIn 15 = .ok (.ireturn, 1) := by decide +kernel
theorem dX7_product_0 : decode cX7_product 0 = .ok (.iconst 1, 1) := by decide +kernel
theorem dX7_product_1 : decode cX7_product 1 = .ok (.istore_n 1, 1) := by decide +kernel
theorem dX7_product_2 : decode cX7_product 2 = .ok (.iconst 2, 1) := by decide +kernel
theorem dX7_product_3 : decode cX7_product 3 = .ok (.istore_n 2, 1) := by decide +kernel
theorem dX7_product_4 : decode cX7_product 4 = .ok (.iload_n 2, 1) := by decide +kernel
theorem dX7_product_5 : decode cX7_product 5 = .ok (.iload_n 0, 1) := by decide +kernel
theorem dX7_product_6 : decode cX7_product 6 = .ok (.if_icmp .gt 13, 3) := by decide +kernel
theorem dX7_product_9 : decode cX7_product 9 = .ok (.iload_n 1, 1) := by decide +kernel
theorem dX7_product_10 : decode cX7_product 10 = .ok (.iload_n 2, 1) := by decide +kernel
theorem dX7_product_11 : decode cX7_product 11 = .ok (.imul, 1) := by decide +kernel
theorem dX7_product_12 : decode cX7_product 12 = .ok (.istore_n 1, 1) := by decide +kernel
theorem dX7_product_13 : decode cX7_product 13 = .ok (.iinc 2 1, 3) := by decide +kernel
theorem dX7_product_16 : decode cX7_product 16 = .ok (.goto (-12), 3) := by decide +kernel
theorem dX7_product_19 : decode cX7_product 19 = .ok (.iload_n 1, 1) := by decide +kernel
theorem dX7_product_20 : decode cX7_product 20 = .ok (.ireturn, 1) := by decide +kernel
set_option maxRecDepth 20000 in
theorem ggX7_layAll_X7_product : GoodIn wsX7_layAll wsX7_product := goodIn_r _ [7] (by decide +kernel) (by decide +kernel)
set_option maxRecDepth 20000 in
theorem gX7_layAll_X7_product : GoodIn wsX7_layAll (va_wsS RX7 42 yX7_product wsX7_product) := goodIn_app (goodIn_of _ (by decide +kernel)) ggX7_layAll_X7_product
theorem dX7_layAll_0 : decode cX7_layAll 0 = .ok (.aload_n 0, 1) := by decide +kernel
theorem dX7_layAll_1 : decode cX7_layAll 1 = .ok (.aload_n 0, 1) := by decide +kernel
theorem dX7_layAll_2 : decode cX7_layAll 2 = .ok (.getfield 7, 3) := by decide +kernel
theorem dX7_layAll_5 : decode cX7_layAll 5 = .ok (.invokestatic 42, 3) := by decide +kernel
theorem dX7_layAll_8 : decode cX7_layAll 8 = .ok (.putfield 46, 3) := by decide +kernel
theorem dX7_layAll_11 : decode cX7_layAll 11 = .ok (.iconst 0, 1) := by decide +kernel
theorem dX7_layAll_12 : decode cX7_layAll 12 = .ok (.istore_n 1, 1) := by decide +kernel
theorem dX7_layAll_13 : decode cX7_layAll 13 = .ok (.iload_n 1, 1) := by decide +kernel
theorem dX7_layAll_14 : decode cX7_layAll 14 = .ok (.aload_n 0, 1) := by decide +kernel
theorem dX7_layAll_15 : decode cX7_layAll 15 = .ok (.getfield 46, 3) := by decide +kernel
theorem dX7_layAll_18 : decode cX7_layAll 18 = .ok (.if_icmp .ge 120, 3) := by decide +kernel
theorem dX7_layAll_21 : decode cX7_layAll 21 = .ok (.iload_n 1, 1) := by decide +kernel
theorem dX7_layAll_22 : decode cX7_layAll 22 = .ok (.istore_n 2, 1) := by decide +kernel
theorem dX7_layAll_23 : decode cX7_layAll 23 = .ok (.iconst 0, 1) := by decide +kernel
theorem dX7_layAll_24 : decode cX7_layAll 24 = .ok (.istore_n 3, 1) := by decide +kernel
theorem dX7_layAll_25 : decode cX7_layAll 25 = .ok (.iconst 0, 1) := by decide +kernel
theorem dX7_layAll_26 : decode cX7_layAll 26 = .ok (.istore 4, 2) := by decide +kernel
theorem dX7_layAll_28 : decode cX7_layAll 28 = .ok (.iload 4, 2) := by decide +kernel
theorem dX7_layAll_30 : decode cX7_layAll 30 = .ok (.aload_n 0, 1) := by decide +kernel
theorem dX7_layAll_31 : decode cX7_layAll 31 = .ok (.getfield 7, 3) := by decide +kernel
theorem dX7_layAll_34 : decode cX7_layAll 34 = .ok (.if_icmp .ge 98, 3) := by decide +kernel
theorem dX7_layAll_37 : decode cX7_layAll 37 = .ok (.aload_n 0, 1) := by decide +kernel
theorem dX7_layAll_38 : decode cX7_layAll 38 = .ok (.getfield 7, 3) := by decide +kernel
theorem dX7_layAll_41 : decode cX7_layAll 41 = .ok (.iconst 1, 1) := by decide +kernel
theorem dX7_layAll_42 : decode cX7_layAll 42 = .ok (.isub, 1) := by decide +kernel
theorem dX7_layAll_43 : decode cX7_layAll 43 = .ok (.iload 4, 2) := by decide +kernel
theorem dX7_layAll_45 : decode cX7_layAll 45 = .ok (.isub, 1) := by decide +kernel
theorem dX7_layAll_46 : decode cX7_layAll 46 = .ok (.invokestatic 42, 3) := by decide +kernel
theorem dX7_layAll_49 : decode cX7_layAll 49 = .ok (.istore 5, 2) := by decide +kernel
theorem dX7_layAll_51 : decode cX7_layAll 51 = .ok (.iload_n 2, 1) := by decide +kernel
theorem dX7_layAll_52 : decode cX7_layAll 52 = .ok (.iload 5, 2) := by decide +kernel
theorem dX7_layAll_54 : decode cX7_layAll 54 = .ok (.idiv, 1) := by decide +kernel
theorem dX7_layAll_55 : decode cX7_layAll 55 = .ok (.istore 6, 2) := by decide +kernel
theorem dX7_layAll_57 : decode cX7_layAll 57 = .ok (.iload_n 2, 1) := by decide +kernel
theorem dX7_layAll_58 : decode cX7_layAll 58 = .ok (.iload 5, 2) := by decide +kernel
theorem dX7_layAll_60 : decode cX7_layAll 60 = .ok (.irem, 1) := by decide +kernel
theorem dX7_layAll_61 : decode cX7_layAll 61 = .ok (.istore_n 2, 1) := by decide +kernel
theorem dX7_layAll_62 : decode cX7_layAll 62 = .ok (.iconst 0, 1) := by decide +kernel
theorem dX7_layAll_63 : decode cX7_layAll 63 = .ok (.istore 7, 2) := by decide +kernel
theorem dX7_layAll_65 : decode cX7_layAll 65 = .ok (.iload_n 3, 1) := by decide +kernel
theorem dX7_layAll_66 : decode cX7_layAll 66 = .ok (.iload 7, 2) := by decide +kernel
theorem dX7_layAll_68 : decode cX7_layAll 68 = .ok (.ishr, 1) := by decide +kernel
theorem dX7_layAll_69 : decode cX7_layAll 69 = .ok (.iconst 1, 1) := by decide +kernel
theorem dX7_layAll_70 : decode cX7_layAll 70 = .ok (.iand, 1) := by decide +kernel
theorem dX7_layAll_71 : decode cX7_layAll 71 = .ok (.iconst 1, 1) := by decide +kernel
theorem dX7_layAll_72 : decode cX7_layAll 72 = .ok (.if_icmp .eq 8, 3) := by decide +kernel
theorem dX7_layAll_75 : decode cX7_layAll 75 = .ok (.iload 6, 2) := by decide +kernel
theorem dX7_layAll_77 : decode cX7_layAll 77 = .ok (.ifCond .le 28, 3) := by decide +kernel
theorem dX7_layAll_80 : decode cX7_layAll 80 = .ok (.iload 6, 2) := by decide +kernel
theorem dX7_layAll_82 : decode cX7_layAll 82 = .ok (.iload_n 3, 1) := by decide +kernel
theorem dX7_layAll_83 : decode cX7_layAll 83 = .ok (.iload 7, 2) := by decide +kernel
theorem dX7_layAll_85 : decode cX7_layAll 85 = .ok (.ishr, 1) := by decide +kernel
theorem dX7_layAll_86 : decode cX7_layAll 86 = .ok (.iconst 1, 1) := by decide +kernel
theorem dX7_layAll_87 : decode cX7_layAll 87 = .ok (.iand, 1) := by decide +kernel
theorem dX7_layAll_88 : decode cX7_layAll 88 = .ok (.ifCond .ne 7, 3) := by decide +kernel
theorem dX7_layAll_91 : decode cX7_layAll 91 = .ok (.iconst 1, 1) := by decide +kernel
theorem dX7_layAll_92 : decode cX7_layAll 92 = .ok (.goto 4, 3) := by decide +kernel
theorem dX7_layAll_95 : decode cX7_layAll 95 = .ok (.iconst 0, 1) := by decide +kernel
theorem dX7_layAll_96 : decode cX7_layAll 96 = .ok (.isub, 1) := by decide +kernel
theorem dX7_layAll_97 : decode cX7_layAll 97 = .ok (.istore 6, 2) := by decide +kernel
theorem dX7_layAll_99 : decode cX7_layAll 99 = .ok (.iinc 7 1, 3) := by decide +kernel
theorem dX7_layAll_102 : decode cX7_layAll 102 = .ok (.goto (-37), 3) := by decide +kernel
theorem dX7_layAll_105 : decode cX7_layAll 105 = .ok (.iload_n 3, 1) := by decide +kernel
theorem dX7_layAll_106 : decode cX7_layAll 106 = .ok (.iconst 1, 1) := by decide +kernel
theorem dX7_layAll_107 : decode cX7_layAll 107 = .ok (.iload 7, 2) := by decide +kernel
theorem dX7_layAll_109 : decode cX7_layAll 109 = .ok (.ishl, 1) := by decide +kernel
theorem dX7_layAll_110 : decode cX7_layAll 110 = .ok (.ior, 1) := by decide +kernel
theorem dX7_layAll_111 : decode cX7_layAll 111 = .ok (.istore_n 3, 1) := by decide +kernel
theorem dX7_layAll_112 : decode cX7_layAll 112 = .ok (.aload_n 0, 1) := by decide +kernel
theorem dX7_layAll_113 : decode cX7_layAll 113 = .ok (.getfield 14, 3) := by decide +kernel
theorem dX7_layAll_116 : decode cX7_layAll 116 = .ok (.bipush 8, 2) := by decide +kernel
theorem dX7_layAll_118 : decode cX7_layAll 118 = .ok (.iload_n 1, 1) := by decide +kernel
theorem dX7_layAll_119 : decode cX7_layAll 119 = .ok (.imul, 1) := by decide +kernel
theorem dX7_layAll_120 : decode cX7_layAll 120 = .ok (.iload 4, 2) := by decide +kernel
theorem dX7_layAll_122 : decode cX7_layAll 122 = .ok (.iadd, 1) := by decide +kernel
theorem dX7_layAll_123 : decode cX7_layAll 123 = .ok (.iload 7, 2) := by decide +kernel
theorem dX7_layAll_125 : decode cX7_layAll 125 = .ok (.iastore, 1) := by decide +kernel
theorem dX7_layAll_126 : decode cX7_layAll 126 = .ok (.iinc 4 1, 3) := by decide +kernel
theorem dX7_layAll_129 : decode cX7_layAll 129 = .ok (.goto (-101), 3) := by decide +kernel
theorem dX7_layAll_132 : decode cX7_layAll 132 = .ok (.iinc 1 1, 3) := by decide +kernel
theorem dX7_layAll_135 : decode cX7_layAll 135 = .ok (.goto (-122), 3) := by decide +kernel
theorem dX7_layAll_138 : decode cX7_layAll 138 = .ok (.return_, 1) := by decide +kernel
theorem dX7_placeNow_0 : decode cX7_placeNow 0 = .ok (.iconst 0, 1) := by decide +kernel
theorem dX7_placeNow_1 : decode cX7_placeNow 1 = .ok (.istore_n 1, 1) := by decide +kernel
theorem dX7_placeNow_2 : decode cX7_placeNow 2 = .ok (.iconst 0, 1) := by decide +kernel
theorem dX7_placeNow_3 : decode cX7_placeNow 3 = .ok (.istore_n 2, 1) := by decide +kernel
theorem dX7_placeNow_4 : decode cX7_placeNow 4 = .ok (.iload_n 2, 1) := by decide +kernel
theorem dX7_placeNow_5 : decode cX7_placeNow 5 = .ok (.aload_n 0, 1) := by decide +kernel
theorem dX7_placeNow_6 : decode cX7_placeNow 6 = .ok (.getfield 7, 3) := by decide +kernel
theorem dX7_placeNow_9 : decode cX7_placeNow 9 = .ok (.if_icmp .ge 66, 3) := by decide +kernel
theorem dX7_placeNow_12 : decode cX7_placeNow 12 = .ok (.iconst 0, 1) := by decide +kernel
theorem dX7_placeNow_13 : decode cX7_placeNow 13 = .ok (.istore_n 3, 1) := by decide +kernel
theorem dX7_placeNow_14 : decode cX7_placeNow 14 = .ok (.iload_n 2, 1) := by decide +kernel
theorem dX7_placeNow_15 : decode cX7_placeNow 15 = .ok (.iconst 1, 1) := by decide +kernel
theorem dX7_placeNow_16 : decode cX7_placeNow 16 = .ok (.iadd, 1) := by decide +kernel
theorem dX7_placeNow_17 : decode cX7_placeNow 17 = .ok (.istore 4, 2) := by decide +kernel
theorem dX7_placeNow_19 : decode cX7_placeNow 19 = .ok (.iload 4, 2) := by decide +kernel
theorem dX7_placeNow_21 : decode cX7_placeNow 21 = .ok (.aload_n 0, 1) := by decide +kernel
theorem dX7_placeNow_22 : decode cX7_placeNow 22 = .ok (.getfield 7, 3) := by decide +kernel
theorem dX7_placeNow_25 : decode cX7_placeNow 25 = .ok (.if_icmp .ge 33, 3) := by decide +kernel
theorem dX7_placeNow_28 : decode cX7_placeNow 28 = .ok (.iload_n 3, 1) := by decide +kernel
theorem dX7_placeNow_29 : decode cX7_placeNow 29 = .ok (.aload_n 0, 1) := by decide +kernel
theorem dX7_placeNow_30 : decode cX7_placeNow 30 = .ok (.getfield 26, 3) := by decide +kernel
theorem dX7_placeNow_33 : decode cX7_placeNow 33 = .ok (.iload 4, 2) := by decide +kernel
theorem dX7_placeNow_35 : decode cX7_placeNow 35 = .ok (.iaload, 1) := by decide +kernel
theorem dX7_placeNow_36 : decode cX7_placeNow 36 = .ok (.aload_n 0, 1) := by decide +kernel
theorem dX7_placeNow_37 : decode cX7_placeNow 37 = .ok (.getfield 26, 3) := by decide +kernel
theorem dX7_placeNow_40 : decode cX7_placeNow 40 = .ok (.iload_n 2, 1) := by decide +kernel
theorem dX7_placeNow_41 : decode cX7_placeNow 41 = .ok (.iaload, 1) := by decide +kernel
theorem dX7_placeNow_42 : decode cX7_placeNow 42 = .ok (.if_icmp .ge 7, 3) := by decide +kernel
theorem dX7_placeNow_45 : decode cX7_placeNow 45 = .ok (.iconst 1, 1) := by decide +kernel
theorem dX7_placeNow_46 : decode cX7_placeNow 46 = .ok (.goto 4, 3) := by decide +kernel
theorem dX7_placeNow_49 : decode cX7_placeNow 49 = .ok (.iconst 0, 1) := by decide +kernel
theorem dX7_placeNow_50 : decode cX7_placeNow 50 = .ok (.iadd, 1) := by decide +kernel
theorem dX7_placeNow_51 : decode cX7_placeNow 51 = .ok (.istore_n 3, 1) := by decide +kernel
theorem dX7_placeNow_52 : decode cX7_placeNow 52 = .ok (.iinc 4 1, 3) := by decide +kernel
theorem dX7_placeNow_55 : decode cX7_placeNow 55 = .ok (.goto (-36), 3) := by decide +kernel
theorem dX7_placeNow_58 : decode cX7_placeNow 58 = .ok (.iload_n 1, 1) := by decide +kernel
theorem dX7_placeNow_59 : decode cX7_placeNow 59 = .ok (.aload_n 0, 1) := by decide +kernel
theorem dX7_placeNow_60 : decode cX7_placeNow 60 = .ok (.getfield 7, 3) := by decide +kernel
theorem dX7_placeNow_63 : decode cX7_placeNow 63 = .ok (.iload_n 2, 1) := by decide +kernel
theorem dX7_placeNow_64 : decode cX7_placeNow 64 = .ok (.isub, 1) := by decide +kernel
theorem dX7_placeNow_65 : decode cX7_placeNow 65 = .ok (.imul, 1) := by decide +kernel
theorem dX7_placeNow_66 : decode cX7_placeNow 66 = .ok (.iload_n 3, 1) := by decide +kernel
theorem dX7_placeNow_67 : decode cX7_placeNow 67 = .ok (.iadd, 1) := by decide +kernel
theorem dX7_placeNow_68 : decode cX7_placeNow 68 = .ok (.istore_n 1, 1) := by decide +kernel
theorem dX7_placeNow_69 : decode cX7_placeNow 69 = .ok (.iinc 2 1, 3) := by decide +kernel
theorem dX7_placeNow_72 : decode cX7_placeNow 72 = .ok (.goto (-68), 3) := by decide +kernel
theorem dX7_placeNow_75 : decode cX7_placeNow 75 = .ok (.iload_n 1, 1) := by decide +kernel
theorem dX7_placeNow_76 : decode cX7_placeNow 76 = .ok (.ireturn, 1) := by decide +kernel
set_option maxRecDepth 20000 in
theorem ggX7_oneThen_X7_placeNow : GoodIn wsX7_oneThen wsX7_placeNow := goodIn_r _ [8, 1, 2, 9, 10, 11, 12, 13, 14, 15, 16, 17, 18, 19] (by decide +kernel) (by decide +kernel)
set_option maxRecDepth 20000 in
theorem gX7_oneThen_X7_placeNow : GoodIn wsX7_oneThen (wsV RX7 49 RX7 yX7_placeNow wsX7_placeNow) := goodIn_app (goodIn_of _ (by decide +kernel)) ggX7_oneThen_X7_placeNow
theorem dX7_oneThen_0 : decode cX7_oneThen 0 = .ok (.iconst 0, 1) := by decide +kernel
theorem dX7_oneThen_1 : decode cX7_oneThen 1 = .ok (.istore_n 3, 1) := by decide +kernel
theorem dX7_oneThen_2 : decode cX7_oneThen 2 = .ok (.iload_n 3, 1) := by decide +kernel
theorem dX7_oneThen_3 : decode cX7_oneThen 3 = .ok (.aload_n 0, 1) := by decide +kernel
theorem dX7_oneThen_4 : decode cX7_oneThen 4 = .ok (.getfield 7, 3) := by decide +kernel
theorem dX7_oneThen_7 : decode cX7_oneThen 7 = .ok (.if_icmp .ge 36, 3) := by decide +kernel
theorem dX7_oneThen_10 : decode cX7_oneThen 10 = .ok (.aload_n 0, 1) := by decide +kernel
theorem dX7_oneThen_11 : decode cX7_oneThen 11 = .ok (.getfield 26, 3) := by decide +kernel
theorem dX7_oneThen_14 : decode cX7_oneThen 14 = .ok (.iload_n 3, 1) := by decide +kernel
theorem dX7_oneThen_15 : decode cX7_oneThen 15 = .ok (.aload_n 0, 1) := by decide +kernel
theorem dX7_oneThen_16 : decode cX7_oneThen 16 = .ok (.getfield 14, 3) := by decide +kernel
theorem dX7_oneThen_19 : decode cX7_oneThen 19 = .ok (.bipush 8, 2) := by decide +kernel
theorem dX7_oneThen_21 : decode cX7_oneThen 21 = .ok (.iload_n 2, 1) := by decide +kernel
theorem dX7_oneThen_22 : decode cX7_oneThen 22 = .ok (.imul, 1) := by decide +kernel
theorem dX7_oneThen_23 : decode cX7_oneThen 23 = .ok (.aload_n 0, 1) := by decide +kernel
theorem dX7_oneThen_24 : decode cX7_oneThen 24 = .ok (.getfield 14, 3) := by decide +kernel
theorem dX7_oneThen_27 : decode cX7_oneThen 27 = .ok (.bipush 8, 2) := by decide +kernel
theorem dX7_oneThen_29 : decode cX7_oneThen 29 = .ok (.iload_n 1, 1) := by decide +kernel
theorem dX7_oneThen_30 : decode cX7_oneThen 30 = .ok (.imul, 1) := by decide +kernel
theorem dX7_oneThen_31 : decode cX7_oneThen 31 = .ok (.iload_n 3, 1) := by decide +kernel
theorem dX7_oneThen_32 : decode cX7_oneThen 32 = .ok (.iadd, 1) := by decide +kernel
theorem dX7_oneThen_33 : decode cX7_oneThen 33 = .ok (.iaload, 1) := by decide +kernel
theorem dX7_oneThen_34 : decode cX7_oneThen 34 = .ok (.iadd, 1) := by decide +kernel
theorem dX7_oneThen_35 : decode cX7_oneThen 35 = .ok (.iaload, 1) := by decide +kernel
theorem dX7_oneThen_36 : decode cX7_oneThen 36 = .ok (.iastore, 1) := by decide +kernel
theorem dX7_oneThen_37 : decode cX7_oneThen 37 = .ok (.iinc 3 1, 3) := by decide +kernel
theorem dX7_oneThen_40 : decode cX7_oneThen 40 = .ok (.goto (-38), 3) := by decide +kernel
theorem dX7_oneThen_43 : decode cX7_oneThen 43 = .ok (.aload_n 0, 1) := by decide +kernel
theorem dX7_oneThen_44 : decode cX7_oneThen 44 = .ok (.invokevirtual 49, 3) := by decide +kernel
theorem dX7_oneThen_47 : decode cX7_oneThen 47 = .ok (.ireturn, 1) := by decide +kernel
set_option maxRecDepth 20000 in
theorem ggX7_backOf_X7_placeNow : GoodIn wsX7_backOf wsX7_placeNow := goodIn_r _ [8, 1, 2, 9, 10, 11, 12, 13, 14, 15, 16, 17, 18, 19] (by decide +kernel) (by decide +kernel)
set_option maxRecDepth 20000 in
theorem gX7_backOf_X7_placeNow : GoodIn wsX7_backOf (wsV RX7 49 RX7 yX7_placeNow wsX7_placeNow) := goodIn_app (goodIn_of _ (by decide +kernel)) ggX7_backOf_X7_placeNow
theorem dX7_backOf_0 : decode cX7_backOf 0 = .ok (.iconst 0, 1) := by decide +kernel
theorem dX7_backOf_1 : decode cX7_backOf 1 = .ok (.istore_n 2, 1) := by decide +kernel
theorem dX7_backOf_2 : decode cX7_backOf 2 = .ok (.iload_n 2, 1) := by decide +kernel
theorem dX7_backOf_3 : decode cX7_backOf 3 = .ok (.aload_n 0, 1) := by decide +kernel
theorem dX7_backOf_4 : decode cX7_backOf 4 = .ok (.getfield 7, 3) := by decide +kernel
theorem dX7_backOf_7 : decode cX7_backOf 7 = .ok (.if_icmp .ge 26, 3) := by decide +kernel
theorem dX7_backOf_10 : decode cX7_backOf 10 = .ok (.aload_n 0, 1) := by decide +kernel
theorem dX7_backOf_11 : decode cX7_backOf 11 = .ok (.getfield 26, 3) := by decide +kernel
theorem dX7_backOf_14 : decode cX7_backOf 14 = .ok (.aload_n 0, 1) := by decide +kernel
theorem dX7_backOf_15 : decode cX7_backOf 15 = .ok (.getfield 14, 3) := by decide +kernel
theorem dX7_backOf_18 : decode cX7_backOf 18 = .ok (.bipush 8, 2) := by decide +kernel
theorem dX7_backOf_20 : decode cX7_backOf 20 = .ok (.iload_n 1, 1) := by decide +kernel
theorem dX7_backOf_21 : decode cX7_backOf 21 = .ok (.imul, 1) := by decide +kernel
theorem dX7_backOf_22 : decode cX7_backOf 22 = .ok (.iload_n 2, 1) := by decide +kernel
theorem dX7_backOf_23 : decode cX7_backOf 23 = .ok (.iadd, 1) := by decide +kernel
theorem dX7_backOf_24 : decode cX7_backOf 24 = .ok (.iaload, 1) := by decide +kernel
theorem dX7_backOf_25 : decode cX7_backOf 25 = .ok (.iload_n 2, 1) := by decide +kernel
theorem dX7_backOf_26 : decode cX7_backOf 26 = .ok (.iastore, 1) := by decide +kernel
theorem dX7_backOf_27 : decode cX7_backOf 27 = .ok (.iinc 2 1, 3) := by decide +kernel
theorem dX7_backOf_30 : decode cX7_backOf 30 = .ok (.goto (-28), 3) := by decide +kernel
theorem dX7_backOf_33 : decode cX7_backOf 33 = .ok (.aload_n 0, 1) := by decide +kernel
theorem dX7_backOf_34 : decode cX7_backOf 34 = .ok (.invokevirtual 49, 3) := by decide +kernel
theorem dX7_backOf_37 : decode cX7_backOf 37 = .ok (.ireturn, 1) := by decide +kernel
set_option maxRecDepth 20000 in
theorem ggX7_carried_X7_placeNow : GoodIn wsX7_carried wsX7_placeNow := goodIn_r _ [8, 1, 2, 9, 10, 11, 12, 13, 14, 15, 16, 17, 18, 19] (by decide +kernel) (by decide +kernel)
set_option maxRecDepth 20000 in
theorem gX7_carried_X7_placeNow : GoodIn wsX7_carried (wsV RX7 49 RX7 yX7_placeNow wsX7_placeNow) := goodIn_app (goodIn_of _ (by decide +kernel)) ggX7_carried_X7_placeNow
theorem dX7_carried_0 : decode cX7_carried 0 = .ok (.iconst 0, 1) := by decide +kernel
theorem dX7_carried_1 : decode cX7_carried 1 = .ok (.istore_n 3, 1) := by decide +kernel
theorem dX7_carried_2 : decode cX7_carried 2 = .ok (.iload_n 3, 1) := by decide +kernel
theorem dX7_carried_3 : decode cX7_carried 3 = .ok (.aload_n 0, 1) := by decide +kernel
theorem dX7_carried_4 : decode cX7_carried 4 = .ok (.getfield 7, 3) := by decide +kernel
theorem dX7_carried_7 : decode cX7_carried 7 = .ok (.if_icmp .ge 46, 3) := by decide +kernel
theorem dX7_carried_10 : decode cX7_carried 10 = .ok (.aload_n 0, 1) := by decide +kernel
theorem dX7_carried_11 : decode cX7_carried 11 = .ok (.getfield 26, 3) := by decide +kernel
theorem dX7_carried_14 : decode cX7_carried 14 = .ok (.aload_n 0, 1) := by decide +kernel
theorem dX7_carried_15 : decode cX7_carried 15 = .ok (.getfield 14, 3) := by decide +kernel
theorem dX7_carried_18 : decode cX7_carried 18 = .ok (.bipush 8, 2) := by decide +kernel
theorem dX7_carried_20 : decode cX7_carried 20 = .ok (.iload_n 2, 1) := by decide +kernel
theorem dX7_carried_21 : decode cX7_carried 21 = .ok (.imul, 1) := by decide +kernel
theorem dX7_carried_22 : decode cX7_carried 22 = .ok (.iload_n 3, 1) := by decide +kernel
theorem dX7_carried_23 : decode cX7_carried 23 = .ok (.iadd, 1) := by decide +kernel
theorem dX7_carried_24 : decode cX7_carried 24 = .ok (.iaload, 1) := by decide +kernel
theorem dX7_carried_25 : decode cX7_carried 25 = .ok (.aload_n 0, 1) := by decide +kernel
theorem dX7_carried_26 : decode cX7_carried 26 = .ok (.getfield 14, 3) := by decide +kernel
theorem dX7_carried_29 : decode cX7_carried 29 = .ok (.bipush 8, 2) := by decide +kernel
theorem dX7_carried_31 : decode cX7_carried 31 = .ok (.iload_n 2, 1) := by decide +kernel
theorem dX7_carried_32 : decode cX7_carried 32 = .ok (.imul, 1) := by decide +kernel
theorem dX7_carried_33 : decode cX7_carried 33 = .ok (.aload_n 0, 1) := by decide +kernel
theorem dX7_carried_34 : decode cX7_carried 34 = .ok (.getfield 14, 3) := by decide +kernel
theorem dX7_carried_37 : decode cX7_carried 37 = .ok (.bipush 8, 2) := by decide +kernel
theorem dX7_carried_39 : decode cX7_carried 39 = .ok (.iload_n 1, 1) := by decide +kernel
theorem dX7_carried_40 : decode cX7_carried 40 = .ok (.imul, 1) := by decide +kernel
theorem dX7_carried_41 : decode cX7_carried 41 = .ok (.iload_n 3, 1) := by decide +kernel
theorem dX7_carried_42 : decode cX7_carried 42 = .ok (.iadd, 1) := by decide +kernel
theorem dX7_carried_43 : decode cX7_carried 43 = .ok (.iaload, 1) := by decide +kernel
theorem dX7_carried_44 : decode cX7_carried 44 = .ok (.iadd, 1) := by decide +kernel
theorem dX7_carried_45 : decode cX7_carried 45 = .ok (.iaload, 1) := by decide +kernel
theorem dX7_carried_46 : decode cX7_carried 46 = .ok (.iastore, 1) := by decide +kernel
theorem dX7_carried_47 : decode cX7_carried 47 = .ok (.iinc 3 1, 3) := by decide +kernel
theorem dX7_carried_50 : decode cX7_carried 50 = .ok (.goto (-48), 3) := by decide +kernel
theorem dX7_carried_53 : decode cX7_carried 53 = .ok (.aload_n 0, 1) := by decide +kernel
theorem dX7_carried_54 : decode cX7_carried 54 = .ok (.invokevirtual 49, 3) := by decide +kernel
theorem dX7_carried_57 : decode cX7_carried 57 = .ok (.ireturn, 1) := by decide +kernel
set_option maxRecDepth 20000 in
theorem ggX7_orderOf_X7_oneThen : GoodIn wsX7_orderOf wsX7_oneThen := goodIn_r _ [5, 6, 7, 8, 9, 10, 11, 4, 12, 13, 14, 15, 16, 17, 18, 19, 20, 21, 22, 23] (by decide +kernel) (by decide +kernel)
set_option maxRecDepth 20000 in
theorem gX7_orderOf_X7_oneThen : GoodIn wsX7_orderOf (wsV RX7 53 RX7 yX7_oneThen wsX7_oneThen) := goodIn_app (goodIn_of _ (by decide +kernel)) ggX7_orderOf_X7_oneThen
theorem dX7_orderOf_0 : decode cX7_orderOf 0 = .ok (.iconst 1, 1) := by decide +kernel
theorem dX7_orderOf_1 : decode cX7_orderOf 1 = .ok (.istore_n 2, 1) := by decide +kernel
theorem dX7_orderOf_2 : decode cX7_orderOf 2 = .ok (.iload_n 1, 1) := by decide +kernel
theorem dX7_orderOf_3 : decode cX7_orderOf 3 = .ok (.istore_n 3, 1) := by decide +kernel
theorem dX7_orderOf_4 : decode cX7_orderOf 4 = .ok (.iload_n 3, 1) := by decide +kernel
theorem dX7_orderOf_5 : decode cX7_orderOf 5 = .ok (.ifCond .eq 16, 3) := by decide +kernel
theorem dX7_orderOf_8 : decode cX7_orderOf 8 = .ok (.aload_n 0, 1) := by decide +kernel
theorem dX7_orderOf_9 : decode cX7_orderOf 9 = .ok (.iload_n 3, 1) := by decide +kernel
theorem dX7_orderOf_10 : decode cX7_orderOf 10 = .ok (.iload_n 1, 1) := by decide +kernel
theorem dX7_orderOf_11 : decode cX7_orderOf 11 = .ok (.invokevirtual 53, 3) := by decide +kernel
theorem dX7_orderOf_14 : decode cX7_orderOf 14 = .ok (.istore_n 3, 1) := by decide +kernel
theorem dX7_orderOf_15 : decode cX7_orderOf 15 = .ok (.iinc 2 1, 3) := by decide +kernel
theorem dX7_orderOf_18 : decode cX7_orderOf 18 = .ok (.goto (-14), 3) := by decide +kernel
theorem dX7_orderOf_21 : decode cX7_orderOf 21 = .ok (.iload_n 2, 1) := by decide +kernel
theorem dX7_orderOf_22 : decode cX7_orderOf 22 = .ok (.ireturn, 1) := by decide +kernel
theorem dX7_setOf_0 : decode cX7_setOf 0 = .ok (.iconst 0, 1) := by decide +kernel
theorem dX7_setOf_1 : decode cX7_setOf 1 = .ok (.istore_n 3, 1) := by decide +kernel
theorem dX7_setOf_2 : decode cX7_setOf 2 = .ok (.iconst 0, 1) := by decide +kernel
theorem dX7_setOf_3 : decode cX7_setOf 3 = .ok (.istore 4, 2) := by decide +kernel
theorem dX7_setOf_5 : decode cX7_setOf 5 = .ok (.iload 4, 2) := by decide +kernel
theorem dX7_setOf_7 : decode cX7_setOf 7 = .ok (.aload_n 0, 1) := by decide +kernel
theorem dX7_setOf_8 : decode cX7_setOf 8 = .ok (.getfield 7, 3) := by decide +kernel
theorem dX7_setOf_11 : decode cX7_setOf 11 = .ok (.if_icmp .ge 40, 3) := by decide +kernel
theorem dX7_setOf_14 : decode cX7_setOf 14 = .ok (.iload_n 3, 1) := by decide +kernel
theorem dX7_setOf_15 : decode cX7_setOf 15 = .ok (.iload_n 2, 1) := by decide +kernel
theorem dX7_setOf_16 : decode cX7_setOf 16 = .ok (.iload 4, 2) := by decide +kernel
theorem dX7_setOf_18 : decode cX7_setOf 18 = .ok (.ishr, 1) := by decide +kernel
theorem dX7_setOf_19 : decode cX7_setOf 19 = .ok (.iconst 1, 1) := by decide +kernel
theorem dX7_setOf_20 : decode cX7_setOf 20 = .ok (.iand, 1) := by decide +kernel
theorem dX7_setOf_21 : decode cX7_setOf 21 = .ok (.iconst 1, 1) := by decide +kernel
theorem dX7_setOf_22 : decode cX7_setOf 22 = .ok (.if_icmp .ne 20, 3) := by decide +kernel
theorem dX7_setOf_25 : decode cX7_setOf 25 = .ok (.iconst 1, 1) := by decide +kernel
theorem dX7_setOf_26 : decode cX7_setOf 26 = .ok (.aload_n 0, 1) := by decide +kernel
theorem dX7_setOf_27 : decode cX7_setOf 27 = .ok (.getfield 14, 3) := by decide +kernel
theorem dX7_setOf_30 : decode cX7_setOf 30 = .ok (.bipush 8, 2) := by decide +kernel
theorem dX7_setOf_32 : decode cX7_setOf 32 = .ok (.iload_n 1, 1) := by decide +kernel
theorem dX7_setOf_33 : decode cX7_setOf 33 = .ok (.imul, 1) := by decide +kernel
theorem dX7_setOf_34 : decode cX7_setOf 34 = .ok (.iload 4, 2) := by decide +kernel
theorem dX7_setOf_36 : decode cX7_setOf 36 = .ok (.iadd, 1) := by decide +kernel
theorem dX7_setOf_37 : decode cX7_setOf 37 = .ok (.iaload, 1) := by decide +kernel
theorem dX7_setOf_38 : decode cX7_setOf 38 = .ok (.ishl, 1) := by decide +kernel
theorem dX7_setOf_39 : decode cX7_setOf 39 = .ok (.goto 4, 3) := by decide +kernel
theorem dX7_setOf_42 : decode cX7_setOf 42 = .ok (.iconst 0, 1) := by decide +kernel
theorem dX7_setOf_43 : decode cX7_setOf 43 = .ok (.ior, 1) := by decide +kernel
theorem dX7_setOf_44 : decode cX7_setOf 44 = .ok (.istore_n 3, 1) := by decide +kernel
theorem dX7_setOf_45 : decode cX7_setOf 45 = .ok (.iinc 4 1, 3) := by decide +kernel
theorem dX7_setOf_48 : decode cX7_setOf 48 = .ok (.goto (-43), 3) := by decide +kernel
theorem dX7_setOf_51 : decode cX7_setOf 51 = .ok (.iload_n 3, 1) := by decide +kernel
theorem dX7_setOf_52 : decode cX7_setOf 52 = .ok (.ireturn, 1) := by decide +kernel
set_option maxRecDepth 20000 in
theorem ggX7_points_X7_isIn : GoodIn wsX7_points wsX7_isIn := goodIn_r _ [8] (by decide +kernel) (by decide +kernel)
set_option maxRecDepth 20000 in
theorem gX7_points_X7_isIn : GoodIn wsX7_points (va_wsS RX7 57 yX7_isIn wsX7_isIn) := goodIn_app (goodIn_of _ (by decide +kernel)) ggX7_points_X7_isIn
set_option maxRecDepth 20000 in
theorem ggX7_points_X7_layAll : GoodIn wsX7_points wsX7_layAll := goodIn_r _ [12, 2, 13, 14, 15, 16, 7, 17, 18, 19, 20, 21, 22, 23, 24, 25, 26, 27, 28] (by decide +kernel) (by decide +kernel)
set_option maxRecDepth 20000 in
theorem gX7_points_X7_layAll : GoodIn wsX7_points (wsV RX7 39 RX7 yX7_layAll wsX7_layAll) := goodIn_app (goodIn_of _ (by decide +kernel)) ggX7_points_X7_layAll
theorem dX7_points_0 : decode cX7_points 0 = .ok (.iload_n 1, 1) := by decide +kernel
theorem dX7_points_1 : decode cX7_points 1 = .ok (.iconst 2, 1) := by decide +kernel
theorem dX7_points_2 : decode cX7_points 2 = .ok (.bipush 8, 2) := by decide +kernel
theorem dX7_points_4 : decode cX7_points 4 = .ok (.invokestatic 57, 3) := by decide +kernel
theorem dX7_points_7 : decode cX7_points 7 = .ok (.ifCond .ne 6, 3) := by decide +kernel
theorem dX7_points_10 : decode cX7_points 10 = .ok (.bipush (-2), 2) := by decide +kernel
theorem dX7_points_12 : decode cX7_points 12 = .ok (.ireturn, 1) := by decide +kernel
theorem dX7_points_13 : decode cX7_points 13 = .ok (.aload_n 0, 1) := by decide +kernel
theorem dX7_points_14 : decode cX7_points 14 = .ok (.getfield 61, 3) := by decide +kernel
theorem dX7_points_17 : decode cX7_points 17 = .ok (.istore_n 2, 1) := by decide +kernel
theorem dX7_points_18 : decode cX7_points 18 = .ok (.aload_n 0, 1) := by decide +kernel
theorem dX7_points_19 : decode cX7_points 19 = .ok (.iload_n 1, 1) := by decide +kernel
theorem dX7_points_20 : decode cX7_points 20 = .ok (.putfield 7, 3) := by decide +kernel
theorem dX7_points_23 : decode cX7_points 23 = .ok (.aload_n 0, 1) := by decide +kernel
theorem dX7_points_24 : decode cX7_points 24 = .ok (.iconst 0, 1) := by decide +kernel
theorem dX7_points_25 : decode cX7_points 25 = .ok (.putfield 61, 3) := by decide +kernel
theorem dX7_points_28 : decode cX7_points 28 = .ok (.aload_n 0, 1) := by decide +kernel
theorem dX7_points_29 : decode cX7_points 29 = .ok (.iconst 0, 1) := by decide +kernel
theorem dX7_points_30 : decode cX7_points 30 = .ok (.putfield 64, 3) := by decide +kernel
theorem dX7_points_33 : decode cX7_points 33 = .ok (.iconst 0, 1) := by decide +kernel
theorem dX7_points_34 : decode cX7_points 34 = .ok (.istore_n 3, 1) := by decide +kernel
theorem dX7_points_35 : decode cX7_points 35 = .ok (.iload_n 3, 1) := by decide +kernel
theorem dX7_points_36 : decode cX7_points 36 = .ok (.bipush 8, 2) := by decide +kernel
theorem dX7_points_38 : decode cX7_points 38 = .ok (.if_icmp .ge 16, 3) := by decide +kernel
theorem dX7_points_41 : decode cX7_points 41 = .ok (.aload_n 0, 1) := by decide +kernel
theorem dX7_points_42 : decode cX7_points 42 = .ok (.getfield 18, 3) := by decide +kernel
theorem dX7_points_45 : decode cX7_points 45 = .ok (.iload_n 3, 1) := by decide +kernel
theorem dX7_points_46 : decode cX7_points 46 = .ok (.iconst 0, 1) := by decide +kernel
theorem dX7_points_47 : decode cX7_points 47 = .ok (.iastore, 1) := by decide +kernel
theorem dX7_points_48 : decode cX7_points 48 = .ok (.iinc 3 1, 3) := by decide +kernel
theorem dX7_points_51 : decode cX7_points 51 = .ok (.goto (-16), 3) := by decide +kernel
theorem dX7_points_54 : decode cX7_points 54 = .ok (.aload_n 0, 1) := by decide +kernel
theorem dX7_points_55 : decode cX7_points 55 = .ok (.invokevirtual 39, 3) := by decide +kernel
theorem dX7_points_58 : decode cX7_points 58 = .ok (.iload_n 2, 1) := by decide +kernel
theorem dX7_points_59 : decode cX7_points 59 = .ok (.ireturn, 1) := by decide +kernel
set_option maxRecDepth 20000 in
theorem ggX7_turn_X7_placeNow : GoodIn wsX7_turn wsX7_placeNow := goodIn_r _ [9, 1, 2, 10, 11, 12, 13, 14, 15, 16, 17, 18, 19, 20] (by decide +kernel) (by decide +kernel)
set_option maxRecDepth 20000 in
theorem gX7_turn_X7_placeNow : GoodIn wsX7_turn (wsV RX7 49 RX7 yX7_placeNow wsX7_placeNow) := goodIn_app (goodIn_of _ (by decide +kernel)) ggX7_turn_X7_placeNow
theorem dX7_turn_0 : decode cX7_turn 0 = .ok (.iconst 0, 1) := by decide +kernel
theorem dX7_turn_1 : decode cX7_turn 1 = .ok (.istore_n 3, 1) := by decide +kernel
theorem dX7_turn_2 : decode cX7_turn 2 = .ok (.iconst 0, 1) := by decide +kernel
theorem dX7_turn_3 : decode cX7_turn 3 = .ok (.istore 4, 2) := by decide +kernel
theorem dX7_turn_5 : decode cX7_turn 5 = .ok (.iload 4, 2) := by decide +kernel
theorem dX7_turn_7 : decode cX7_turn 7 = .ok (.aload_n 0, 1) := by decide +kernel
theorem dX7_turn_8 : decode cX7_turn 8 = .ok (.getfield 7, 3) := by decide +kernel
theorem dX7_turn_11 : decode cX7_turn 11 = .ok (.if_icmp .ge 39, 3) := by decide +kernel
theorem dX7_turn_14 : decode cX7_turn 14 = .ok (.aload_n 0, 1) := by decide +kernel
theorem dX7_turn_15 : decode cX7_turn 15 = .ok (.getfield 26, 3) := by decide +kernel
theorem dX7_turn_18 : decode cX7_turn 18 = .ok (.iload 4, 2) := by decide +kernel
theorem dX7_turn_20 : decode cX7_turn 20 = .ok (.lload_n 1, 1) := by decide +kernel
theorem dX7_turn_21 : decode cX7_turn 21 = .ok (.iconst 4, 1) := by decide +kernel
theorem dX7_turn_22 : decode cX7_turn 22 = .ok (.iload 4, 2) := by decide +kernel
theorem dX7_turn_24 : decode cX7_turn 24 = .ok (.imul, 1) := by decide +kernel
theorem dX7_turn_25 : decode cX7_turn 25 = .ok (.lshr, 1) := by decide +kernel
theorem dX7_turn_26 : decode cX7_turn 26 = .ok (.ldc2_w 67, 3) := by decide +kernel
theorem dX7_turn_29 : decode cX7_turn 29 = .ok (.land, 1) := by decide +kernel
theorem dX7_turn_30 : decode cX7_turn 30 = .ok (.l2i, 1) := by decide +kernel
theorem dX7_turn_31 : decode cX7_turn 31 = .ok (.iastore, 1) := by decide +kernel
theorem dX7_turn_32 : decode cX7_turn 32 = .ok (.iload_n 3, 1) := by decide +kernel
theorem dX7_turn_33 : decode cX7_turn 33 = .ok (.iconst 1, 1) := by decide +kernel
theorem dX7_turn_34 : decode cX7_turn 34 = .ok (.aload_n 0, 1) := by decide +kernel
theorem dX7_turn_35 : decode cX7_turn 35 = .ok (.getfield 26, 3) := by decide +kernel
theorem dX7_turn_38 : decode cX7_turn 38 = .ok (.iload 4, 2) := by decide +kernel
theorem dX7_turn_40 : decode cX7_turn 40 = .ok (.iaload, 1) := by decide +kernel
theorem dX7_turn_41 : decode cX7_turn 41 = .ok (.ishl, 1) := by decide +kernel
theorem dX7_turn_42 : decode cX7_turn 42 = .ok (.ior, 1) := by decide +kernel
theorem dX7_turn_43 : decode cX7_turn 43 = .ok (.istore_n 3, 1) := by decide +kernel
theorem dX7_turn_44 : decode cX7_turn 44 = .ok (.iinc 4 1, 3) := by decide +kernel
theorem dX7_turn_47 : decode cX7_turn 47 = .ok (.goto (-42), 3) := by decide +kernel
theorem dX7_turn_50 : decode cX7_turn 50 = .ok (.iload_n 3, 1) := by decide +kernel
theorem dX7_turn_51 : decode cX7_turn 51 = .ok (.iconst 1, 1) := by decide +kernel
theorem dX7_turn_52 : decode cX7_turn 52 = .ok (.aload_n 0, 1) := by decide +kernel
theorem dX7_turn_53 : decode cX7_turn 53 = .ok (.getfield 7, 3) := by decide +kernel
theorem dX7_turn_56 : decode cX7_turn 56 = .ok (.ishl, 1) := by decide +kernel
theorem dX7_turn_57 : decode cX7_turn 57 = .ok (.iconst 1, 1) := by decide +kernel
theorem dX7_turn_58 : decode cX7_turn 58 = .ok (.isub, 1) := by decide +kernel
theorem dX7_turn_59 : decode cX7_turn 59 = .ok (.if_icmp .ne 26, 3) := by decide +kernel
theorem dX7_turn_62 : decode cX7_turn 62 = .ok (.lload_n 1, 1) := by decide +kernel
theorem dX7_turn_63 : decode cX7_turn 63 = .ok (.lconst 0, 1) := by decide +kernel
theorem dX7_turn_64 : decode cX7_turn 64 = .ok (.lcmp, 1) := by decide +kernel
theorem dX7_turn_65 : decode cX7_turn 65 = .ok (.ifCond .lt 20, 3) := by decide +kernel
theorem dX7_turn_68 : decode cX7_turn 68 = .ok (.lload_n 1, 1) := by decide +kernel
theorem dX7_turn_69 : decode cX7_turn 69 = .ok (.iconst 4, 1) := by decide +kernel
theorem dX7_turn_70 : decode cX7_turn 70 = .ok (.aload_n 0, 1) := by decide +kernel
theorem dX7_turn_71 : decode cX7_turn 71 = .ok (.getfield 7, 3) := by decide +kernel
theorem dX7_turn_74 : decode cX7_turn 74 = .ok (.imul, 1) := by decide +kernel
theorem dX7_turn_75 : decode cX7_turn 75 = .ok (.iconst 1, 1) := by decide +kernel
theorem dX7_turn_76 : decode cX7_turn 76 = .ok (.isub, 1) := by decide +kernel
theorem dX7_turn_77 : decode cX7_turn 77 = .ok (.lshr, 1) := by decide +kernel
theorem dX7_turn_78 : decode cX7_turn 78 = .ok (.iconst 1, 1) := by decide +kernel
theorem dX7_turn_79 : decode cX7_turn 79 = .ok (.lshr, 1) := by decide +kernel
theorem dX7_turn_80 : decode cX7_turn 80 = .ok (.lconst 0, 1) := by decide +kernel
theorem dX7_turn_81 : decode cX7_turn 81 = .ok (.lcmp, 1) := by decide +kernel
theorem dX7_turn_82 : decode cX7_turn 82 = .ok (.ifCond .eq 6, 3) := by decide +kernel
theorem dX7_turn_85 : decode cX7_turn 85 = .ok (.bipush (-2), 2) := by decide +kernel
theorem dX7_turn_87 : decode cX7_turn 87 = .ok (.ireturn, 1) := by decide +kernel
theorem dX7_turn_88 : decode cX7_turn 88 = .ok (.aload_n 0, 1) := by decide +kernel
theorem dX7_turn_89 : decode cX7_turn 89 = .ok (.aload_n 0, 1) := by decide +kernel
theorem dX7_turn_90 : decode cX7_turn 90 = .ok (.invokevirtual 49, 3) := by decide +kernel
theorem dX7_turn_93 : decode cX7_turn 93 = .ok (.putfield 64, 3) := by decide +kernel
theorem dX7_turn_96 : decode cX7_turn 96 = .ok (.iconst 1, 1) := by decide +kernel
theorem dX7_turn_97 : decode cX7_turn 97 = .ok (.ireturn, 1) := by decide +kernel
theorem dX7_told_0 : decode cX7_told 0 = .ok (.lconst 0, 1) := by decide +kernel
theorem dX7_told_1 : decode cX7_told 1 = .ok (.lstore_n 1, 1) := by decide +kernel
theorem dX7_told_2 : decode cX7_told 2 = .ok (.iconst 0, 1) := by decide +kernel
theorem dX7_told_3 : decode cX7_told 3 = .ok (.istore_n 3, 1) := by decide +kernel
theorem dX7_told_4 : decode cX7_told 4 = .ok (.iload_n 3, 1) := by decide +kernel
theorem dX7_told_5 : decode cX7_told 5 = .ok (.aload_n 0, 1) := by decide +kernel
theorem dX7_told_6 : decode cX7_told 6 = .ok (.getfield 7, 3) := by decide +kernel
theorem dX7_told_9 : decode cX7_told 9 = .ok (.if_icmp .ge 31, 3) := by decide +kernel
theorem dX7_told_12 : decode cX7_told 12 = .ok (.lload_n 1, 1) := by decide +kernel
theorem dX7_told_13 : decode cX7_told 13 = .ok (.aload_n 0, 1) := by decide +kernel
theorem dX7_told_14 : decode cX7_told 14 = .ok (.getfield 14, 3) := by decide +kernel
theorem dX7_told_17 : decode cX7_told 17 = .ok (.bipush 8, 2) := by decide +kernel
theorem dX7_told_19 : decode cX7_told 19 = .ok (.aload_n 0, 1) := by decide +kernel
theorem dX7_told_20 : decode cX7_told 20 = .ok (.getfield 64, 3) := by decide +kernel
theorem dX7_told_23 : decode cX7_told 23 = .ok (.imul, 1) := by decide +kernel
theorem dX7_told_24 : decode cX7_told 24 = .ok (.iload_n 3, 1) := by decide +kernel
theorem dX7_told_25 : decode cX7_told 25 = .ok (.iadd, 1) := by decide +kernel
theorem dX7_told_26 : decode cX7_told 26 = .ok (.iaload, 1) := by decide +kernel
theorem dX7_told_27 : decode cX7_told 27 = .ok (.i2l, 1) := by decide +kernel
theorem dX7_told_28 : decode cX7_told 28 = .ok (.iconst 4, 1) := by decide +kernel
theorem dX7_told_29 : decode cX7_told 29 = .ok (.iload_n 3, 1) := by decide +kernel
theorem dX7_told_30 : decode cX7_told 30 = .ok (.imul, 1) := by decide +kernel
theorem dX7_told_31 : decode cX7_told 31 = .ok (.lshl, 1) := by decide +kernel
theorem dX7_told_32 : decode cX7_told 32 = .ok (.lor, 1) := by decide +kernel
theorem dX7_told_33 : decode cX7_told 33 = .ok (.lstore_n 1, 1) := by decide +kernel
theorem dX7_told_34 : decode cX7_told 34 = .ok (.iinc 3 1, 3) := by decide +kernel
theorem dX7_told_37 : decode cX7_told 37 = .ok (.goto (-33), 3) := by decide +kernel
theorem dX7_told_40 : decode cX7_told 40 = .ok (.lload_n 1, 1) := by decide +kernel
theorem dX7_told_41 : decode cX7_told 41 = .ok (.lreturn, 1) := by decide +kernel
set_option maxRecDepth 20000 in
theorem ggX7_to_X7_isIn : GoodIn wsX7_to wsX7_isIn := goodIn_r _ [7] (by decide +kernel) (by decide +kernel)
set_option maxRecDepth 20000 in
theorem gX7_to_X7_isIn : GoodIn wsX7_to (va_wsS RX7 57 yX7_isIn wsX7_isIn) := goodIn_app (goodIn_of _ (by decide +kernel)) ggX7_to_X7_isIn
theorem dX7_to_0 : decode cX7_to 0 = .ok (.iload_n 1, 1) := by decide +kernel
theorem dX7_to_1 : decode cX7_to 1 = .ok (.iconst 0, 1) := by decide +kernel
theorem dX7_to_2 : decode cX7_to 2 = .ok (.aload_n 0, 1) := by decide +kernel
theorem dX7_to_3 : decode cX7_to 3 = .ok (.getfield 7, 3) := by decide +kernel
theorem dX7_to_6 : decode cX7_to 6 = .ok (.iconst 1, 1) := by decide +kernel
theorem dX7_to_7 : decode cX7_to 7 = .ok (.isub, 1) := by decide +kernel
theorem dX7_to_8 : decode cX7_to 8 = .ok (.invokestatic 57, 3) := by decide +kernel
theorem dX7_to_11 : decode cX7_to 11 = .ok (.ifCond .eq 20, 3) := by decide +kernel
theorem dX7_to_14 : decode cX7_to 14 = .ok (.aload_n 0, 1) := by decide +kernel
theorem dX7_to_15 : decode cX7_to 15 = .ok (.getfield 14, 3) := by decide +kernel
theorem dX7_to_18 : decode cX7_to 18 = .ok (.bipush 8, 2) := by decide +kernel
theorem dX7_to_20 : decode cX7_to 20 = .ok (.aload_n 0, 1) := by decide +kernel
theorem dX7_to_21 : decode cX7_to 21 = .ok (.getfield 64, 3) := by decide +kernel
theorem dX7_to_24 : decode cX7_to 24 = .ok (.imul, 1) := by decide +kernel
theorem dX7_to_25 : decode cX7_to 25 = .ok (.iload_n 1, 1) := by decide +kernel
theorem dX7_to_26 : decode cX7_to 26 = .ok (.iadd, 1) := by decide +kernel
theorem dX7_to_27 : decode cX7_to 27 = .ok (.iaload, 1) := by decide +kernel
theorem dX7_to_28 : decode cX7_to 28 = .ok (.goto 5, 3) := by decide +kernel
theorem dX7_to_31 : decode cX7_to 31 = .ok (.bipush (-2), 2) := by decide +kernel
theorem dX7_to_33 : decode cX7_to 33 = .ok (.ireturn, 1) := by decide +kernel
set_option maxRecDepth 20000 in
theorem ggX7_lay_X7_isIn : GoodIn wsX7_lay wsX7_isIn := goodIn_r _ [6] (by decide +kernel) (by decide +kernel)
set_option maxRecDepth 20000 in
theorem gX7_lay_X7_isIn : GoodIn wsX7_lay (va_wsS RX7 57 yX7_isIn wsX7_isIn) := goodIn_app (goodIn_of _ (by decide +kernel)) ggX7_lay_X7_isIn
theorem dX7_lay_0 : decode cX7_lay 0 = .ok (.iload_n 1, 1) := by decide +kernel
theorem dX7_lay_1 : decode cX7_lay 1 = .ok (.iconst 0, 1) := by decide +kernel
theorem dX7_lay_2 : decode cX7_lay 2 = .ok (.bipush 7, 2) := by decide +kernel
theorem dX7_lay_4 : decode cX7_lay 4 = .ok (.invokestatic 57, 3) := by decide +kernel
theorem dX7_lay_7 : decode cX7_lay 7 = .ok (.ifCond .ne 6, 3) := by decide +kernel
theorem dX7_lay_10 : decode cX7_lay 10 = .ok (.bipush (-2), 2) := by decide +kernel
theorem dX7_lay_12 : decode cX7_lay 12 = .ok (.ireturn, 1) := by decide +kernel
theorem dX7_lay_13 : decode cX7_lay 13 = .ok (.aload_n 0, 1) := by decide +kernel
theorem dX7_lay_14 : decode cX7_lay 14 = .ok (.getfield 18, 3) := by decide +kernel
theorem dX7_lay_17 : decode cX7_lay 17 = .ok (.iload_n 1, 1) := by decide +kernel
theorem dX7_lay_18 : decode cX7_lay 18 = .ok (.aload_n 0, 1) := by decide +kernel
theorem dX7_lay_19 : decode cX7_lay 19 = .ok (.getfield 64, 3) := by decide +kernel
theorem dX7_lay_22 : decode cX7_lay 22 = .ok (.iastore, 1) := by decide +kernel
theorem dX7_lay_23 : decode cX7_lay 23 = .ok (.iconst 1, 1) := by decide +kernel
theorem dX7_lay_24 : decode cX7_lay 24 = .ok (.ireturn, 1) := by decide +kernel
set_option maxRecDepth 20000 in
theorem ggX7_take_X7_isIn : GoodIn wsX7_take wsX7_isIn := goodIn_r _ [6] (by decide +kernel) (by decide +kernel)
set_option maxRecDepth 20000 in
theorem gX7_take_X7_isIn : GoodIn wsX7_take (va_wsS RX7 57 yX7_isIn wsX7_isIn) := goodIn_app (goodIn_of _ (by decide +kernel)) ggX7_take_X7_isIn
theorem dX7_take_0 : decode cX7_take 0 = .ok (.iload_n 1, 1) := by decide +kernel
theorem dX7_take_1 : decode cX7_take 1 = .ok (.iconst 0, 1) := by decide +kernel
theorem dX7_take_2 : decode cX7_take 2 = .ok (.bipush 7, 2) := by decide +kernel
theorem dX7_take_4 : decode cX7_take 4 = .ok (.invokestatic 57, 3) := by decide +kernel
theorem dX7_take_7 : decode cX7_take 7 = .ok (.ifCond .ne 6, 3) := by decide +kernel
theorem dX7_take_10 : decode cX7_take 10 = .ok (.bipush (-2), 2) := by decide +kernel
theorem dX7_take_12 : decode cX7_take 12 = .ok (.ireturn, 1) := by decide +kernel
theorem dX7_take_13 : decode cX7_take 13 = .ok (.aload_n 0, 1) := by decide +kernel
theorem dX7_take_14 : decode cX7_take 14 = .ok (.aload_n 0, 1) := by decide +kernel
theorem dX7_take_15 : decode cX7_take 15 = .ok (.getfield 18, 3) := by decide +kernel
theorem dX7_take_18 : decode cX7_take 18 = .ok (.iload_n 1, 1) := by decide +kernel
theorem dX7_take_19 : decode cX7_take 19 = .ok (.iaload, 1) := by decide +kernel
theorem dX7_take_20 : decode cX7_take 20 = .ok (.putfield 64, 3) := by decide +kernel
theorem dX7_take_23 : decode cX7_take 23 = .ok (.iconst 1, 1) := by decide +kernel
theorem dX7_take_24 : decode cX7_take 24 = .ok (.ireturn, 1) := by decide +kernel
set_option maxRecDepth 20000 in
theorem ggX7_then_X7_isIn : GoodIn wsX7_then wsX7_isIn := goodIn_r _ [6] (by decide +kernel) (by decide +kernel)
set_option maxRecDepth 20000 in
theorem gX7_then_X7_isIn : GoodIn wsX7_then (va_wsS RX7 57 yX7_isIn wsX7_isIn) := goodIn_app (goodIn_of _ (by decide +kernel)) ggX7_then_X7_isIn
set_option maxRecDepth 20000 in
theorem ggX7_then_X7_oneThen : GoodIn wsX7_then wsX7_oneThen := goodIn_r _ [10, 11, 12, 13, 14, 15, 16, 5, 17, 18, 19, 20, 21, 22, 23, 24, 25, 26, 27, 28] (by decide +kernel) (by decide +kernel)
set_option maxRecDepth 20000 in
theorem gX7_then_X7_oneThen : GoodIn wsX7_then (wsV RX7 53 RX7 yX7_oneThen wsX7_oneThen) := goodIn_app (goodIn_of _ (by decide +kernel)) ggX7_then_X7_oneThen
theorem dX7_then_0 : decode cX7_then 0 = .ok (.iload_n 1, 1) := by decide +kernel
theorem dX7_then_1 : decode cX7_then 1 = .ok (.iconst 0, 1) := by decide +kernel
theorem dX7_then_2 : decode cX7_then 2 = .ok (.bipush 7, 2) := by decide +kernel
theorem dX7_then_4 : decode cX7_then 4 = .ok (.invokestatic 57, 3) := by decide +kernel
theorem dX7_then_7 : decode cX7_then 7 = .ok (.ifCond .ne 6, 3) := by decide +kernel
theorem dX7_then_10 : decode cX7_then 10 = .ok (.bipush (-2), 2) := by decide +kernel
theorem dX7_then_12 : decode cX7_then 12 = .ok (.ireturn, 1) := by decide +kernel
theorem dX7_then_13 : decode cX7_then 13 = .ok (.aload_n 0, 1) := by decide +kernel
theorem dX7_then_14 : decode cX7_then 14 = .ok (.aload_n 0, 1) := by decide +kernel
theorem dX7_then_15 : decode cX7_then 15 = .ok (.aload_n 0, 1) := by decide +kernel
theorem dX7_then_16 : decode cX7_then 16 = .ok (.getfield 64, 3) := by decide +kernel
theorem dX7_then_19 : decode cX7_then 19 = .ok (.aload_n 0, 1) := by decide +kernel
theorem dX7_then_20 : decode cX7_then 20 = .ok (.getfield 18, 3) := by decide +kernel
theorem dX7_then_23 : decode cX7_then 23 = .ok (.iload_n 1, 1) := by decide +kernel
theorem dX7_then_24 : decode cX7_then 24 = .ok (.iaload, 1) := by decide +kernel
theorem dX7_then_25 : decode cX7_then 25 = .ok (.invokevirtual 53, 3) := by decide +kernel
theorem dX7_then_28 : decode cX7_then 28 = .ok (.putfield 64, 3) := by decide +kernel
theorem dX7_then_31 : decode cX7_then 31 = .ok (.iconst 1, 1) := by decide +kernel
theorem dX7_then_32 : decode cX7_then 32 = .ok (.ireturn, 1) := by decide +kernel
set_option maxRecDepth 20000 in
theorem ggX7_back_X7_orderOf : GoodIn wsX7_back wsX7_orderOf := goodIn_r _ [6, 7, 8, 9, 5, 10, 11, 12, 13, 14, 15, 16, 17, 22, 23, 24, 25, 26, 27, 28, 29, 30, 31, 32] (by decide +kernel) (by decide +kernel)
set_option maxRecDepth 20000 in
theorem gX7_back_X7_orderOf : GoodIn wsX7_back (wsV RX7 69 RX7 yX7_orderOf wsX7_orderOf) := goodIn_app (goodIn_of _ (by decide +kernel)) ggX7_back_X7_orderOf
set_option maxRecDepth 20000 in
theorem ggX7_back_X7_backOf : GoodIn wsX7_back wsX7_backOf := goodIn_r _ [21, 11, 12, 13, 14, 15, 16, 5, 17, 22, 23, 24, 25, 26, 27, 28, 29, 30, 31, 32] (by decide +kernel) (by decide +kernel)
set_option maxRecDepth 20000 in
theorem gX7_back_X7_backOf : GoodIn wsX7_back (wsV RX7 72 RX7 yX7_backOf wsX7_backOf) := goodIn_app (goodIn_of _ (by decide +kernel)) ggX7_back_X7_backOf
theorem dX7_back_0 : decode cX7_back 0 = .ok (.aload_n 0, 1) := by decide +kernel
theorem dX7_back_1 : decode cX7_back 1 = .ok (.aload_n 0, 1) := by decide +kernel
theorem dX7_back_2 : decode cX7_back 2 = .ok (.getfield 64, 3) := by decide +kernel
theorem dX7_back_5 : decode cX7_back 5 = .ok (.invokevirtual 69, 3) := by decide +kernel
theorem dX7_back_8 : decode cX7_back 8 = .ok (.istore_n 1, 1) := by decide +kernel
theorem dX7_back_9 : decode cX7_back 9 = .ok (.aload_n 0, 1) := by decide +kernel
theorem dX7_back_10 : decode cX7_back 10 = .ok (.aload_n 0, 1) := by decide +kernel
theorem dX7_back_11 : decode cX7_back 11 = .ok (.aload_n 0, 1) := by decide +kernel
theorem dX7_back_12 : decode cX7_back 12 = .ok (.getfield 64, 3) := by decide +kernel
theorem dX7_back_15 : decode cX7_back 15 = .ok (.invokevirtual 72, 3) := by decide +kernel
theorem dX7_back_18 : decode cX7_back 18 = .ok (.putfield 64, 3) := by decide +kernel
theorem dX7_back_21 : decode cX7_back 21 = .ok (.iload_n 1, 1) := by decide +kernel
theorem dX7_back_22 : decode cX7_back 22 = .ok (.ireturn, 1) := by decide +kernel
set_option maxRecDepth 20000 in
theorem ggX7_power_X7_orderOf : GoodIn wsX7_power wsX7_orderOf := goodIn_r _ [6, 7, 8, 9, 5, 10, 11, 12, 13, 14, 15, 16, 17, 18, 19, 20, 21, 22, 23, 24, 25, 26, 27, 28] (by decide +kernel) (by decide +kernel)
set_option maxRecDepth 20000 in
theorem gX7_power_X7_orderOf : GoodIn wsX7_power (wsV RX7 69 RX7 yX7_orderOf wsX7_orderOf) := goodIn_app (goodIn_of _ (by decide +kernel)) ggX7_power_X7_orderOf
set_option maxRecDepth 20000 in
theorem ggX7_power_X7_oneThen : GoodIn wsX7_power wsX7_oneThen := goodIn_r _ [10, 11, 12, 13, 14, 15, 16, 5, 17, 18, 19, 20, 21, 22, 23, 24, 25, 26, 27, 28] (by decide +kernel) (by decide +kernel)
set_option maxRecDepth 20000 in
theorem gX7_power_X7_oneThen : GoodIn wsX7_power (wsV RX7 53 RX7 yX7_oneThen wsX7_oneThen) := goodIn_app (goodIn_of _ (by decide +kernel)) ggX7_power_X7_oneThen
theorem dX7_power_0 : decode cX7_power 0 = .ok (.aload_n 0, 1) := by decide +kernel
theorem dX7_power_1 : decode cX7_power 1 = .ok (.aload_n 0, 1) := by decide +kernel
theorem dX7_power_2 : decode cX7_power 2 = .ok (.getfield 64, 3) := by decide +kernel
theorem dX7_power_5 : decode cX7_power 5 = .ok (.invokevirtual 69, 3) := by decide +kernel
theorem dX7_power_8 : decode cX7_power 8 = .ok (.istore_n 2, 1) := by decide +kernel
theorem dX7_power_9 : decode cX7_power 9 = .ok (.iload_n 1, 1) := by decide +kernel
theorem dX7_power_10 : decode cX7_power 10 = .ok (.iload_n 2, 1) := by decide +kernel
theorem dX7_power_11 : decode cX7_power 11 = .ok (.irem, 1) := by decide +kernel
theorem dX7_power_12 : decode cX7_power 12 = .ok (.ifCond .ge 11, 3) := by decide +kernel
theorem dX7_power_15 : decode cX7_power 15 = .ok (.iload_n 1, 1) := by decide +kernel
theorem dX7_power_16 : decode cX7_power 16 = .ok (.iload_n 2, 1) := by decide +kernel
theorem dX7_power_17 : decode cX7_power 17 = .ok (.irem, 1) := by decide +kernel
theorem dX7_power_18 : decode cX7_power 18 = .ok (.iload_n 2, 1) := by decide +kernel
theorem dX7_power_19 : decode cX7_power 19 = .ok (.iadd, 1) := by decide +kernel
theorem dX7_power_20 : decode cX7_power 20 = .ok (.goto 6, 3) := by decide +kernel
theorem dX7_power_23 : decode cX7_power 23 = .ok (.iload_n 1, 1) := by decide +kernel
theorem dX7_power_24 : decode cX7_power 24 = .ok (.iload_n 2, 1) := by decide +kernel
theorem dX7_power_25 : decode cX7_power 25 = .ok (.irem, 1) := by decide +kernel
theorem dX7_power_26 : decode cX7_power 26 = .ok (.istore_n 3, 1) := by decide +kernel
theorem dX7_power_27 : decode cX7_power 27 = .ok (.iconst 0, 1) := by decide +kernel
theorem dX7_power_28 : decode cX7_power 28 = .ok (.istore 4, 2) := by decide +kernel
theorem dX7_power_30 : decode cX7_power 30 = .ok (.iconst 0, 1) := by decide +kernel
theorem dX7_power_31 : decode cX7_power 31 = .ok (.istore 5, 2) := by decide +kernel
theorem dX7_power_33 : decode cX7_power 33 = .ok (.iload 5, 2) := by decide +kernel
theorem dX7_power_35 : decode cX7_power 35 = .ok (.iload_n 3, 1) := by decide +kernel
theorem dX7_power_36 : decode cX7_power 36 = .ok (.if_icmp .ge 21, 3) := by decide +kernel
theorem dX7_power_39 : decode cX7_power 39 = .ok (.aload_n 0, 1) := by decide +kernel
theorem dX7_power_40 : decode cX7_power 40 = .ok (.iload 4, 2) := by decide +kernel
theorem dX7_power_42 : decode cX7_power 42 = .ok (.aload_n 0, 1) := by decide +kernel
theorem dX7_power_43 : decode cX7_power 43 = .ok (.getfield 64, 3) := by decide +kernel
theorem dX7_power_46 : decode cX7_power 46 = .ok (.invokevirtual 53, 3) := by decide +kernel
theorem dX7_power_49 : decode cX7_power 49 = .ok (.istore 4, 2) := by decide +kernel
theorem dX7_power_51 : decode cX7_power 51 = .ok (.iinc 5 1, 3) := by decide +kernel
theorem dX7_power_54 : decode cX7_power 54 = .ok (.goto (-21), 3) := by decide +kernel
theorem dX7_power_57 : decode cX7_power 57 = .ok (.aload_n 0, 1) := by decide +kernel
theorem dX7_power_58 : decode cX7_power 58 = .ok (.iload 4, 2) := by decide +kernel
theorem dX7_power_60 : decode cX7_power 60 = .ok (.putfield 64, 3) := by decide +kernel
theorem dX7_power_63 : decode cX7_power 63 = .ok (.aload_n 0, 1) := by decide +kernel
theorem dX7_power_64 : decode cX7_power 64 = .ok (.getfield 64, 3) := by decide +kernel
theorem dX7_power_67 : decode cX7_power 67 = .ok (.ifCond .ne 7, 3) := by decide +kernel
theorem dX7_power_70 : decode cX7_power 70 = .ok (.iconst 1, 1) := by decide +kernel
theorem dX7_power_71 : decode cX7_power 71 = .ok (.goto 4, 3) := by decide +kernel
theorem dX7_power_74 : decode cX7_power 74 = .ok (.iconst 0, 1) := by decide +kernel
theorem dX7_power_75 : decode cX7_power 75 = .ok (.ireturn, 1) := by decide +kernel
set_option maxRecDepth 20000 in
theorem ggX7_isGroup_X7_isIn : GoodIn wsX7_isGroup wsX7_isIn := goodIn_r _ [5] (by decide +kernel) (by decide +kernel)
set_option maxRecDepth 20000 in
theorem gX7_isGroup_X7_isIn : GoodIn wsX7_isGroup (va_wsS RX7 57 yX7_isIn wsX7_isIn) := goodIn_app (goodIn_of _ (by decide +kernel)) ggX7_isGroup_X7_isIn
theorem dX7_isGroup_0 : decode cX7_isGroup 0 = .ok (.iload_n 1, 1) := by decide +kernel
theorem dX7_isGroup_1 : decode cX7_isGroup 1 = .ok (.iconst 0, 1) := by decide +kernel
theorem dX7_isGroup_2 : decode cX7_isGroup 2 = .ok (.aload_n 0, 1) := by decide +kernel
theorem dX7_isGroup_3 : decode cX7_isGroup 3 = .ok (.getfield 61, 3) := by decide +kernel
theorem dX7_isGroup_6 : decode cX7_isGroup 6 = .ok (.iconst 1, 1) := by decide +kernel
theorem dX7_isGroup_7 : decode cX7_isGroup 7 = .ok (.isub, 1) := by decide +kernel
theorem dX7_isGroup_8 : decode cX7_isGroup 8 = .ok (.invokestatic 57, 3) := by decide +kernel
theorem dX7_isGroup_11 : decode cX7_isGroup 11 = .ok (.ireturn, 1) := by decide +kernel
theorem dX7_hasIt_0 : decode cX7_hasIt 0 = .ok (.aload_n 0, 1) := by decide +kernel
theorem dX7_hasIt_1 : decode cX7_hasIt 1 = .ok (.getfield 22, 3) := by decide +kernel
theorem dX7_hasIt_4 : decode cX7_hasIt 4 = .ok (.ldc 35, 2) := by decide +kernel
theorem dX7_hasIt_6 : decode cX7_hasIt 6 = .ok (.iload_n 1, 1) := by decide +kernel
theorem dX7_hasIt_7 : decode cX7_hasIt 7 = .ok (.imul, 1) := by decide +kernel
theorem dX7_hasIt_8 : decode cX7_hasIt 8 = .ok (.iload_n 2, 1) := by decide +kernel
theorem dX7_hasIt_9 : decode cX7_hasIt 9 = .ok (.iadd, 1) := by decide +kernel
theorem dX7_hasIt_10 : decode cX7_hasIt 10 = .ok (.baload, 1) := by decide +kernel
theorem dX7_hasIt_11 : decode cX7_hasIt 11 = .ok (.ireturn, 1) := by decide +kernel
theorem dX7_clear_0 : decode cX7_clear 0 = .ok (.iconst 0, 1) := by decide +kernel
theorem dX7_clear_1 : decode cX7_clear 1 = .ok (.istore_n 2, 1) := by decide +kernel
theorem dX7_clear_2 : decode cX7_clear 2 = .ok (.iload_n 2, 1) := by decide +kernel
theorem dX7_clear_3 : decode cX7_clear 3 = .ok (.aload_n 0, 1) := by decide +kernel
theorem dX7_clear_4 : decode cX7_clear 4 = .ok (.getfield 46, 3) := by decide +kernel
theorem dX7_clear_7 : decode cX7_clear 7 = .ok (.if_icmp .ge 29, 3) := by decide +kernel
theorem dX7_clear_10 : decode cX7_clear 10 = .ok (.aload_n 0, 1) := by decide +kernel
theorem dX7_clear_11 : decode cX7_clear 11 = .ok (.getfield 22, 3) := by decide +kernel
theorem dX7_clear_14 : decode cX7_clear 14 = .ok (.ldc 35, 2) := by decide +kernel
theorem dX7_clear_16 : decode cX7_clear 16 = .ok (.iload_n 1, 1) := by decide +kernel
theorem dX7_clear_17 : decode cX7_clear 17 = .ok (.imul, 1) := by decide +kernel
theorem dX7_clear_18 : decode cX7_clear 18 = .ok (.iload_n 2, 1) := by decide +kernel
theorem dX7_clear_19 : decode cX7_clear 19 = .ok (.iadd, 1) := by decide +kernel
theorem dX7_clear_20 : decode cX7_clear 20 = .ok (.iload_n 2, 1) := by decide +kernel
theorem dX7_clear_21 : decode cX7_clear 21 = .ok (.ifCond .ne 7, 3) := by decide +kernel
theorem dX7_clear_24 : decode cX7_clear 24 = .ok (.iconst 1, 1) := by decide +kernel
theorem dX7_clear_25 : decode cX7_clear 25 = .ok (.goto 4, 3) := by decide +kernel
theorem dX7_clear_28 : decode cX7_clear 28 = .ok (.iconst 0, 1) := by decide +kernel
theorem dX7_clear_29 : decode cX7_clear 29 = .ok (.bastore, 1) := by decide +kernel
theorem dX7_clear_30 : decode cX7_clear 30 = .ok (.iinc 2 1, 3) := by decide +kernel
theorem dX7_clear_33 : decode cX7_clear 33 = .ok (.goto (-31), 3) := by decide +kernel
theorem dX7_clear_36 : decode cX7_clear 36 = .ok (.return_, 1) := by decide +kernel
theorem dX7_copy_0 : decode cX7_copy 0 = .ok (.iconst 0, 1) := by decide +kernel
theorem dX7_copy_1 : decode cX7_copy 1 = .ok (.istore_n 3, 1) := by decide +kernel
theorem dX7_copy_2 : decode cX7_copy 2 = .ok (.iload_n 3, 1) := by decide +kernel
theorem dX7_copy_3 : decode cX7_copy 3 = .ok (.aload_n 0, 1) := by decide +kernel
theorem dX7_copy_4 : decode cX7_copy 4 = .ok (.getfield 46, 3) := by decide +kernel
theorem dX7_copy_7 : decode cX7_copy 7 = .ok (.if_icmp .ge 31, 3) := by decide +kernel
theorem dX7_copy_10 : decode cX7_copy 10 = .ok (.aload_n 0, 1) := by decide +kernel
theorem dX7_copy_11 : decode cX7_copy 11 = .ok (.getfield 22, 3) := by decide +kernel
theorem dX7_copy_14 : decode cX7_copy 14 = .ok (.ldc 35, 2) := by decide +kernel
theorem dX7_copy_16 : decode cX7_copy 16 = .ok (.iload_n 2, 1) := by decide +kernel
theorem dX7_copy_17 : decode cX7_copy 17 = .ok (.imul, 1) := by decide +kernel
theorem dX7_copy_18 : decode cX7_copy 18 = .ok (.iload_n 3, 1) := by decide +kernel
theorem dX7_copy_19 : decode cX7_copy 19 = .ok (.iadd, 1) := by decide +kernel
theorem dX7_copy_20 : decode cX7_copy 20 = .ok (.aload_n 0, 1) := by decide +kernel
theorem dX7_copy_21 : decode cX7_copy 21 = .ok (.getfield 22, 3) := by decide +kernel
theorem dX7_copy_24 : decode cX7_copy 24 = .ok (.ldc 35, 2) := by decide +kernel
theorem dX7_copy_26 : decode cX7_copy 26 = .ok (.iload_n 1, 1) := by decide +kernel
theorem dX7_copy_27 : decode cX7_copy 27 = .ok (.imul, 1) := by decide +kernel
theorem dX7_copy_28 : decode cX7_copy 28 = .ok (.iload_n 3, 1) := by decide +kernel
theorem dX7_copy_29 : decode cX7_copy 29 = .ok (.iadd, 1) := by decide +kernel
theorem dX7_copy_30 : decode cX7_copy 30 = .ok (.baload, 1) := by decide +kernel
theorem dX7_copy_31 : decode cX7_copy 31 = .ok (.bastore, 1) := by decide +kernel
theorem dX7_copy_32 : decode cX7_copy 32 = .ok (.iinc 3 1, 3) := by decide +kernel
theorem dX7_copy_35 : decode cX7_copy 35 = .ok (.goto (-33), 3) := by decide +kernel
theorem dX7_copy_38 : decode cX7_copy 38 = .ok (.return_, 1) := by decide +kernel
set_option maxRecDepth 20000 in
theorem ggX7_begin_X7_clear : GoodIn wsX7_begin wsX7_clear := goodIn_r _ [6, 7, 8, 9, 10, 11, 12, 13, 14, 15, 16, 17, 18, 19, 20] (by decide +kernel) (by decide +kernel)
set_option maxRecDepth 20000 in
theorem gX7_begin_X7_clear : GoodIn wsX7_begin (wsV RX7 75 RX7 yX7_clear wsX7_clear) := goodIn_app (goodIn_of _ (by decide +kernel)) ggX7_begin_X7_clear
theorem dX7_begin_0 : decode cX7_begin 0 = .ok (.aload_n 0, 1) := by decide +kernel
theorem dX7_begin_1 : decode cX7_begin 1 = .ok (.iload_n 1, 1) := by decide +kernel
theorem dX7_begin_2 : decode cX7_begin 2 = .ok (.invokevirtual 75, 3) := by decide +kernel
theorem dX7_begin_5 : decode cX7_begin 5 = .ok (.aload_n 0, 1) := by decide +kernel
theorem dX7_begin_6 : decode cX7_begin 6 = .ok (.getfield 32, 3) := by decide +kernel
theorem dX7_begin_9 : decode cX7_begin 9 = .ok (.iload_n 1, 1) := by decide +kernel
theorem dX7_begin_10 : decode cX7_begin 10 = .ok (.iconst 0, 1) := by decide +kernel
theorem dX7_begin_11 : decode cX7_begin 11 = .ok (.iastore, 1) := by decide +kernel
theorem dX7_begin_12 : decode cX7_begin 12 = .ok (.return_, 1) := by decide +kernel
set_option maxRecDepth 20000 in
theorem ggX7_join_X7_hasIt : GoodIn wsX7_join wsX7_hasIt := goodIn_r _ [10, 4, 5, 27, 28, 29, 30, 31, 32, 33, 34, 35, 36, 37] (by decide +kernel) (by decide +kernel)
set_option maxRecDepth 20000 in
theorem gX7_join_X7_hasIt : GoodIn wsX7_join (wsV RX7 79 RX7 yX7_hasIt wsX7_hasIt) := goodIn_app (goodIn_of _ (by decide +kernel)) ggX7_join_X7_hasIt
set_option maxRecDepth 20000 in
theorem ggX7_join_X7_clear : GoodIn wsX7_join wsX7_clear := goodIn_r _ [14, 15, 4, 5, 27, 28, 29, 30, 31, 32, 33, 34, 35, 36, 37] (by decide +kernel) (by decide +kernel)
set_option maxRecDepth 20000 in
theorem gX7_join_X7_clear : GoodIn wsX7_join (wsV RX7 75 RX7 yX7_clear wsX7_clear) := goodIn_app (goodIn_of _ (by decide +kernel)) ggX7_join_X7_clear
set_option maxRecDepth 20000 in
theorem ggX7_join_X7_oneThen : GoodIn wsX7_join wsX7_oneThen := goodIn_r _ [19, 20, 21, 22, 23, 24, 25, 9, 26, 27, 28, 29, 30, 31, 32, 33, 34, 35, 36, 37] (by decide +kernel) (by decide +kernel)
set_option maxRecDepth 20000 in
theorem gX7_join_X7_oneThen : GoodIn wsX7_join (wsV RX7 53 RX7 yX7_oneThen wsX7_oneThen) := goodIn_app (goodIn_of _ (by decide +kernel)) ggX7_join_X7_oneThen
theorem dX7_join_0 : decode cX7_join 0 = .ok (.aload_n 0, 1) := by decide +kernel
theorem dX7_join_1 : decode cX7_join 1 = .ok (.iload_n 1, 1) := by decide +kernel
theorem dX7_join_2 : decode cX7_join 2 = .ok (.iload_n 2, 1) := by decide +kernel
theorem dX7_join_3 : decode cX7_join 3 = .ok (.invokevirtual 79, 3) := by decide +kernel
theorem dX7_join_6 : decode cX7_join 6 = .ok (.ifCond .eq 4, 3) := by decide +kernel
theorem dX7_join_9 : decode cX7_join 9 = .ok (.return_, 1) := by decide +kernel
theorem dX7_join_10 : decode cX7_join 10 = .ok (.aload_n 0, 1) := by decide +kernel
theorem dX7_join_11 : decode cX7_join 11 = .ok (.getfield 29, 3) := by decide +kernel
theorem dX7_join_14 : decode cX7_join 14 = .ok (.bipush 32, 2) := by decide +kernel
theorem dX7_join_16 : decode cX7_join 16 = .ok (.iload_n 1, 1) := by decide +kernel
theorem dX7_join_17 : decode cX7_join 17 = .ok (.imul, 1) := by decide +kernel
theorem dX7_join_18 : decode cX7_join 18 = .ok (.aload_n 0, 1) := by decide +kernel
theorem dX7_join_19 : decode cX7_join 19 = .ok (.getfield 32, 3) := by decide +kernel
theorem dX7_join_22 : decode cX7_join 22 = .ok (.iload_n 1, 1) := by decide +kernel
theorem dX7_join_23 : decode cX7_join 23 = .ok (.iaload, 1) := by decide +kernel
theorem dX7_join_24 : decode cX7_join 24 = .ok (.iadd, 1) := by decide +kernel
theorem dX7_join_25 : decode cX7_join 25 = .ok (.iload_n 2, 1) := by decide +kernel
theorem dX7_join_26 : decode cX7_join 26 = .ok (.iastore, 1) := by decide +kernel
theorem dX7_join_27 : decode cX7_join 27 = .ok (.aload_n 0, 1) := by decide +kernel
theorem dX7_join_28 : decode cX7_join 28 = .ok (.getfield 32, 3) := by decide +kernel
theorem dX7_join_31 : decode cX7_join 31 = .ok (.iload_n 1, 1) := by decide +kernel
theorem dX7_join_32 : decode cX7_join 32 = .ok (.dup2, 1) := by decide +kernel
theorem dX7_join_33 : decode cX7_join 33 = .ok (.iaload, 1) := by decide +kernel
theorem dX7_join_34 : decode cX7_join 34 = .ok (.iconst 1, 1) := by decide +kernel
theorem dX7_join_35 : decode cX7_join 35 = .ok (.iadd, 1) := by decide +kernel
theorem dX7_join_36 : decode cX7_join 36 = .ok (.iastore, 1) := by decide +kernel
theorem dX7_join_37 : decode cX7_join 37 = .ok (.aload_n 0, 1) := by decide +kernel
theorem dX7_join_38 : decode cX7_join 38 = .ok (.iload_n 1, 1) := by decide +kernel
theorem dX7_join_39 : decode cX7_join 39 = .ok (.invokevirtual 75, 3) := by decide +kernel
theorem dX7_join_42 : decode cX7_join 42 = .ok (.aload_n 0, 1) := by decide +kernel
theorem dX7_join_43 : decode cX7_join 43 = .ok (.getfield 36, 3) := by decide +kernel
theorem dX7_join_46 : decode cX7_join 46 = .ok (.iconst 0, 1) := by decide +kernel
theorem dX7_join_47 : decode cX7_join 47 = .ok (.iconst 0, 1) := by decide +kernel
theorem dX7_join_48 : decode cX7_join 48 = .ok (.iastore, 1) := by decide +kernel
theorem dX7_join_49 : decode cX7_join 49 = .ok (.iconst 1, 1) := by decide +kernel
theorem dX7_join_50 : decode cX7_join 50 = .ok (.istore_n 3, 1) := by decide +kernel
theorem dX7_join_51 : decode cX7_join 51 = .ok (.iconst 0, 1) := by decide +kernel
theorem dX7_join_52 : decode cX7_join 52 = .ok (.istore 4, 2) := by decide +kernel
theorem dX7_join_54 : decode cX7_join 54 = .ok (.iload 4, 2) := by decide +kernel
theorem dX7_join_56 : decode cX7_join 56 = .ok (.iload_n 3, 1) := by decide +kernel
theorem dX7_join_57 : decode cX7_join 57 = .ok (.if_icmp .ge 88, 3) := by decide +kernel
theorem dX7_join_60 : decode cX7_join 60 = .ok (.iconst 0, 1) := by decide +kernel
theorem dX7_join_61 : decode cX7_join 61 = .ok (.istore 5, 2) := by decide +kernel
theorem dX7_join_63 : decode cX7_join 63 = .ok (.iload 5, 2) := by decide +kernel
theorem dX7_join_65 : decode cX7_join 65 = .ok (.aload_n 0, 1) := by decide +kernel
theorem dX7_join_66 : decode cX7_join 66 = .ok (.getfield 32, 3) := by decide +kernel
theorem dX7_join_69 : decode cX7_join 69 = .ok (.iload_n 1, 1) := by decide +kernel
theorem dX7_join_70 : decode cX7_join 70 = .ok (.iaload, 1) := by decide +kernel
theorem dX7_join_71 : decode cX7_join 71 = .ok (.if_icmp .ge 68, 3) := by decide +kernel
theorem dX7_join_74 : decode cX7_join 74 = .ok (.aload_n 0, 1) := by decide +kernel
theorem dX7_join_75 : decode cX7_join 75 = .ok (.aload_n 0, 1) := by decide +kernel
theorem dX7_join_76 : decode cX7_join 76 = .ok (.getfield 36, 3) := by decide +kernel
theorem dX7_join_79 : decode cX7_join 79 = .ok (.iload 4, 2) := by decide +kernel
theorem dX7_join_81 : decode cX7_join 81 = .ok (.iaload, 1) := by decide +kernel
theorem dX7_join_82 : decode cX7_join 82 = .ok (.aload_n 0, 1) := by decide +kernel
theorem dX7_join_83 : decode cX7_join 83 = .ok (.getfield 29, 3) := by decide +kernel
theorem dX7_join_86 : decode cX7_join 86 = .ok (.bipush 32, 2) := by decide +kernel
theorem dX7_join_88 : decode cX7_join 88 = .ok (.iload_n 1, 1) := by decide +kernel
theorem dX7_join_89 : decode cX7_join 89 = .ok (.imul, 1) := by decide +kernel
theorem dX7_join_90 : decode cX7_join 90 = .ok (.iload 5, 2) := by decide +kernel
theorem dX7_join_92 : decode cX7_join 92 = .ok (.iadd, 1) := by decide +kernel
theorem dX7_join_93 : decode cX7_join 93 = .ok (.iaload, 1) := by decide +kernel
theorem dX7_join_94 : decode cX7_join 94 = .ok (.invokevirtual 53, 3) := by decide +kernel
theorem dX7_join_97 : decode cX7_join 97 = .ok (.istore 6, 2) := by decide +kernel
theorem dX7_join_99 : decode cX7_join 99 = .ok (.aload_n 0, 1) := by decide +kernel
theorem dX7_join_100 : decode cX7_join 100 = .ok (.iload_n 1, 1) := by decide +kernel
theorem dX7_join_101 : decode cX7_join 101 = .ok (.iload 6, 2) := by decide +kernel
theorem dX7_join_103 : decode cX7_join 103 = .ok (.invokevirtual 79, 3) := by decide +kernel
theorem dX7_join_106 : decode cX7_join 106 = .ok (.ifCond .ne 27, 3) := by decide +kernel
theorem dX7_join_109 : decode cX7_join 109 = .ok (.aload_n 0, 1) := by decide +kernel
theorem dX7_join_110 : decode cX7_join 110 = .ok (.getfield 22, 3) := by decide +kernel
theorem dX7_join_113 : decode cX7_join 113 = .ok (.ldc 35, 2) := by decide +kernel
theorem dX7_join_115 : decode cX7_join 115 = .ok (.iload_n 1, 1) := by decide +kernel
theorem dX7_join_116 : decode cX7_join 116 = .ok (.imul, 1) := by decide +kernel
theorem dX7_join_117 : decode cX7_join 117 = .ok (.iload 6, 2) := by decide +kernel
theorem dX7_join_119 : decode cX7_join 119 = .ok (.iadd, 1) := by decide +kernel
theorem dX7_join_120 : decode cX7_join 120 = .ok (.iconst 1, 1) := by decide +kernel
theorem dX7_join_121 : decode cX7_join 121 = .ok (.bastore, 1) := by decide +kernel
theorem dX7_join_122 : decode cX7_join 122 = .ok (.aload_n 0, 1) := by decide +kernel
theorem dX7_join_123 : decode cX7_join 123 = .ok (.getfield 36, 3) := by decide +kernel
theorem dX7_join_126 : decode cX7_join 126 = .ok (.iload_n 3, 1) := by decide +kernel
theorem dX7_join_127 : decode cX7_join 127 = .ok (.iload 6, 2) := by decide +kernel
theorem dX7_join_129 : decode cX7_join 129 = .ok (.iastore, 1) := by decide +kernel
theorem dX7_join_130 : decode cX7_join 130 = .ok (.iinc 3 1, 3) := by decide +kernel
theorem dX7_join_133 : decode cX7_join 133 = .ok (.iinc 5 1, 3) := by decide +kernel
theorem dX7_join_136 : decode cX7_join 136 = .ok (.goto (-73), 3) := by decide +kernel
theorem dX7_join_139 : decode cX7_join 139 = .ok (.iinc 4 1, 3) := by decide +kernel
theorem dX7_join_142 : decode cX7_join 142 = .ok (.goto (-88), 3) := by decide +kernel
theorem dX7_join_145 : decode cX7_join 145 = .ok (.return_, 1) := by decide +kernel
set_option maxRecDepth 20000 in
theorem ggX7_joinAll_X7_hasIt : GoodIn wsX7_joinAll wsX7_hasIt := goodIn_r _ [6, 7, 8, 31, 32, 33, 34, 35, 36, 37, 38, 39, 40, 41] (by decide +kernel) (by decide +kernel)
set_option maxRecDepth 20000 in
theorem gX7_joinAll_X7_hasIt : GoodIn wsX7_joinAll (wsV RX7 79 RX7 yX7_hasIt wsX7_hasIt) := goodIn_app (goodIn_of _ (by decide +kernel)) ggX7_joinAll_X7_hasIt
set_option maxRecDepth 20000 in
theorem ggX7_joinAll_X7_join : GoodIn wsX7_joinAll wsX7_join := goodIn_r _ [12, 13, 14, 15, 7, 8, 2, 3, 4, 5, 6, 16, 17, 18, 19, 1, 20, 21, 22, 23, 24, 25, 26, 27, 28, 29, 30, 31, 32, 33, 34, 35, 36, 37, 38, 39, 40, 41] (by decide +kernel) (by decide +kernel)
set_option maxRecDepth 20000 in
theorem gX7_joinAll_X7_join : GoodIn wsX7_joinAll (wsV RX7 83 RX7 yX7_join wsX7_join) := goodIn_app (goodIn_of _ (by decide +kernel)) ggX7_joinAll_X7_join
theorem dX7_joinAll_0 : decode cX7_joinAll 0 = .ok (.iconst 0, 1) := by decide +kernel
theorem dX7_joinAll_1 : decode cX7_joinAll 1 = .ok (.istore_n 3, 1) := by decide +kernel
theorem dX7_joinAll_2 : decode cX7_joinAll 2 = .ok (.iload_n 3, 1) := by decide +kernel
theorem dX7_joinAll_3 : decode cX7_joinAll 3 = .ok (.aload_n 0, 1) := by decide +kernel
theorem dX7_joinAll_4 : decode cX7_joinAll 4 = .ok (.getfield 46, 3) := by decide +kernel
theorem dX7_joinAll_7 : decode cX7_joinAll 7 = .ok (.if_icmp .ge 24, 3) := by decide +kernel
theorem dX7_joinAll_10 : decode cX7_joinAll 10 = .ok (.aload_n 0, 1) := by decide +kernel
theorem dX7_joinAll_11 : decode cX7_joinAll 11 = .ok (.iload_n 2, 1) := by decide +kernel
theorem dX7_joinAll_12 : decode cX7_joinAll 12 = .ok (.iload_n 3, 1) := by decide +kernel
theorem dX7_joinAll_13 : decode cX7_joinAll 13 = .ok (.invokevirtual 79, 3) := by decide +kernel
theorem dX7_joinAll_16 : decode cX7_joinAll 16 = .ok (.ifCond .eq 9, 3) := by decide +kernel
theorem dX7_joinAll_19 : decode cX7_joinAll 19 = .ok (.aload_n 0, 1) := by decide +kernel
theorem dX7_joinAll_20 : decode cX7_joinAll 20 = .ok (.iload_n 1, 1) := by decide +kernel
theorem dX7_joinAll_21 : decode cX7_joinAll 21 = .ok (.iload_n 3, 1) := by decide +kernel
theorem dX7_joinAll_22 : decode cX7_joinAll 22 = .ok (.invokevirtual 83, 3) := by decide +kernel
theorem dX7_joinAll_25 : decode cX7_joinAll 25 = .ok (.iinc 3 1, 3) := by decide +kernel
theorem dX7_joinAll_28 : decode cX7_joinAll 28 = .ok (.goto (-26), 3) := by decide +kernel
theorem dX7_joinAll_31 : decode cX7_joinAll 31 = .ok (.return_, 1) := by decide +kernel
set_option maxRecDepth 20000 in
theorem ggX7_close_X7_carried : GoodIn wsX7_close wsX7_carried := goodIn_r _ [7, 8, 9, 10, 11, 12, 13, 6, 14, 35, 36, 37, 38, 39, 40, 41, 42, 43, 44, 45] (by decide +kernel) (by decide +kernel)
set_option maxRecDepth 20000 in
theorem gX7_close_X7_carried : GoodIn wsX7_close (wsV RX7 87 RX7 yX7_carried wsX7_carried) := goodIn_app (goodIn_of _ (by decide +kernel)) ggX7_close_X7_carried
set_option maxRecDepth 20000 in
theorem ggX7_close_X7_join : GoodIn wsX7_close wsX7_join := goodIn_r _ [18, 2, 1, 19, 20, 21, 22, 23, 24, 6, 25, 26, 27, 28, 29, 30, 31, 32, 33, 34, 8, 9, 10, 11, 12, 13, 14, 35, 36, 37, 38, 39, 40, 41, 42, 43, 44, 45] (by decide +kernel) (by decide +kernel)
set_option maxRecDepth 20000 in
theorem gX7_close_X7_join : GoodIn wsX7_close (wsV RX7 83 RX7 yX7_join wsX7_join) := goodIn_app (goodIn_of _ (by decide +kernel)) ggX7_close_X7_join
theorem dX7_close_0 : decode cX7_close 0 = .ok (.iconst 0, 1) := by decide +kernel
theorem dX7_close_1 : decode cX7_close 1 = .ok (.istore_n 3, 1) := by decide +kernel
theorem dX7_close_2 : decode cX7_close 2 = .ok (.iload_n 3, 1) := by decide +kernel
theorem dX7_close_3 : decode cX7_close 3 = .ok (.aload_n 0, 1) := by decide +kernel
theorem dX7_close_4 : decode cX7_close 4 = .ok (.getfield 32, 3) := by decide +kernel
theorem dX7_close_7 : decode cX7_close 7 = .ok (.iload_n 1, 1) := by decide +kernel
theorem dX7_close_8 : decode cX7_close 8 = .ok (.iaload, 1) := by decide +kernel
theorem dX7_close_9 : decode cX7_close 9 = .ok (.if_icmp .ge 61, 3) := by decide +kernel
theorem dX7_close_12 : decode cX7_close 12 = .ok (.iconst 0, 1) := by decide +kernel
theorem dX7_close_13 : decode cX7_close 13 = .ok (.istore 4, 2) := by decide +kernel
theorem dX7_close_15 : decode cX7_close 15 = .ok (.iload 4, 2) := by decide +kernel
theorem dX7_close_17 : decode cX7_close 17 = .ok (.aload_n 0, 1) := by decide +kernel
theorem dX7_close_18 : decode cX7_close 18 = .ok (.getfield 32, 3) := by decide +kernel
theorem dX7_close_21 : decode cX7_close 21 = .ok (.iload_n 2, 1) := by decide +kernel
theorem dX7_close_22 : decode cX7_close 22 = .ok (.iaload, 1) := by decide +kernel
theorem dX7_close_23 : decode cX7_close 23 = .ok (.if_icmp .ge 41, 3) := by decide +kernel
theorem dX7_close_26 : decode cX7_close 26 = .ok (.aload_n 0, 1) := by decide +kernel
theorem dX7_close_27 : decode cX7_close 27 = .ok (.iload_n 1, 1) := by decide +kernel
theorem dX7_close_28 : decode cX7_close 28 = .ok (.aload_n 0, 1) := by decide +kernel
theorem dX7_close_29 : decode cX7_close 29 = .ok (.aload_n 0, 1) := by decide +kernel
theorem dX7_close_30 : decode cX7_close 30 = .ok (.getfield 29, 3) := by decide +kernel
theorem dX7_close_33 : decode cX7_close 33 = .ok (.bipush 32, 2) := by decide +kernel
theorem dX7_close_35 : decode cX7_close 35 = .ok (.iload_n 1, 1) := by decide +kernel
theorem dX7_close_36 : decode cX7_close 36 = .ok (.imul, 1) := by decide +kernel
theorem dX7_close_37 : decode cX7_close 37 = .ok (.iload_n 3, 1) := by decide +kernel
theorem dX7_close_38 : decode cX7_close 38 = .ok (.iadd, 1) := by decide +kernel
theorem dX7_close_39 : decode cX7_close 39 = .ok (.iaload, 1) := by decide +kernel
theorem dX7_close_40 : decode cX7_close 40 = .ok (.aload_n 0, 1) := by decide +kernel
theorem dX7_close_41 : decode cX7_close 41 = .ok (.getfield 29, 3) := by decide +kernel
theorem dX7_close_44 : decode cX7_close 44 = .ok (.bipush 32, 2) := by decide +kernel
theorem dX7_close_46 : decode cX7_close 46 = .ok (.iload_n 2, 1) := by decide +kernel
theorem dX7_close_47 : decode cX7_close 47 = .ok (.imul, 1) := by decide +kernel
theorem dX7_close_48 : decode cX7_close 48 = .ok (.iload 4, 2) := by decide +kernel
theorem dX7_close_50 : decode cX7_close 50 = .ok (.iadd, 1) := by decide +kernel
theorem dX7_close_51 : decode cX7_close 51 = .ok (.iaload, 1) := by decide +kernel
theorem dX7_close_52 : decode cX7_close 52 = .ok (.invokevirtual 87, 3) := by decide +kernel
theorem dX7_close_55 : decode cX7_close 55 = .ok (.invokevirtual 83, 3) := by decide +kernel
theorem dX7_close_58 : decode cX7_close 58 = .ok (.iinc 4 1, 3) := by decide +kernel
theorem dX7_close_61 : decode cX7_close 61 = .ok (.goto (-46), 3) := by decide +kernel
theorem dX7_close_64 : decode cX7_close 64 = .ok (.iinc 3 1, 3) := by decide +kernel
theorem dX7_close_67 : decode cX7_close 67 = .ok (.goto (-65), 3) := by decide +kernel
theorem dX7_close_70 : decode cX7_close 70 = .ok (.return_, 1) := by decide +kernel
set_option maxRecDepth 20000 in
theorem ggX7_goDown_X7_begin : GoodIn wsX7_goDown wsX7_begin := goodIn_r _ [7, 1, 8, 9, 10, 6, 11, 12, 13, 14, 51, 52, 53, 54, 55, 56, 57, 58, 59, 60, 61] (by decide +kernel) (by decide +kernel)
set_option maxRecDepth 20000 in
theorem gX7_goDown_X7_begin : GoodIn wsX7_goDown (wsV RX7 90 RX7 yX7_begin wsX7_begin) := goodIn_app (goodIn_of _ (by decide +kernel)) ggX7_goDown_X7_begin
set_option maxRecDepth 20000 in
theorem ggX7_goDown_X7_joinAll : GoodIn wsX7_goDown wsX7_joinAll := goodIn_r _ [18, 12, 19, 20, 21, 6, 22, 13, 14, 23, 24, 25, 26, 2, 1, 27, 8, 9, 10, 11, 28, 29, 30, 31, 32, 33, 34, 35, 36, 37, 38, 51, 52, 53, 54, 55, 56, 57, 58, 59, 60, 61] (by decide +kernel) (by decide +kernel)
set_option maxRecDepth 20000 in
theorem gX7_goDown_X7_joinAll : GoodIn wsX7_goDown (wsV RX7 93 RX7 yX7_joinAll wsX7_joinAll) := goodIn_app (goodIn_of _ (by decide +kernel)) ggX7_goDown_X7_joinAll
set_option maxRecDepth 20000 in
theorem ggX7_goDown_X7_backOf : GoodIn wsX7_goDown wsX7_backOf := goodIn_r _ [42, 32, 33, 34, 35, 36, 37, 6, 38, 51, 52, 53, 54, 55, 56, 57, 58, 59, 60, 61] (by decide +kernel) (by decide +kernel)
set_option maxRecDepth 20000 in
theorem gX7_goDown_X7_backOf : GoodIn wsX7_goDown (wsV RX7 72 RX7 yX7_backOf wsX7_backOf) := goodIn_app (goodIn_of _ (by decide +kernel)) ggX7_goDown_X7_backOf
set_option maxRecDepth 20000 in
theorem ggX7_goDown_X7_oneThen : GoodIn wsX7_goDown wsX7_oneThen := goodIn_r _ [31, 32, 33, 34, 35, 36, 37, 6, 38, 51, 52, 53, 54, 55, 56, 57, 58, 59, 60, 61] (by decide +kernel) (by decide +kernel)
set_option maxRecDepth 20000 in
theorem gX7_goDown_X7_oneThen : GoodIn wsX7_goDown (wsV RX7 53 RX7 yX7_oneThen wsX7_oneThen) := goodIn_app (goodIn_of _ (by decide +kernel)) ggX7_goDown_X7_oneThen
set_option maxRecDepth 20000 in
theorem ggX7_goDown_X7_join : GoodIn wsX7_goDown wsX7_join := goodIn_r _ [26, 2, 1, 27, 13, 14, 19, 20, 21, 6, 22, 8, 9, 10, 11, 12, 28, 29, 30, 31, 32, 33, 34, 35, 36, 37, 38, 51, 52, 53, 54, 55, 56, 57, 58, 59, 60, 61] (by decide +kernel) (by decide +kernel)
set_option maxRecDepth 20000 in
theorem gX7_goDown_X7_join : GoodIn wsX7_goDown (wsV RX7 83 RX7 yX7_join wsX7_join) := goodIn_app (goodIn_of _ (by decide +kernel)) ggX7_goDown_X7_join
set_option maxRecDepth 20000 in
theorem ggX7_goDown_X7_close : GoodIn wsX7_goDown wsX7_close := goodIn_r _ [46, 1, 2, 47, 48, 49, 6, 50, 32, 33, 34, 35, 36, 37, 38, 23, 24, 25, 26, 27, 13, 14, 19, 20, 21, 22, 8, 9, 10, 11, 12, 28, 29, 30, 31, 51, 52, 53, 54, 55, 56, 57, 58, 59, 60, 61] (by decide +kernel) (by decide +kernel)
set_option maxRecDepth 20000 in
theorem gX7_goDown_X7_close : GoodIn wsX7_goDown (wsV RX7 96 RX7 yX7_close wsX7_close) := goodIn_app (goodIn_of _ (by decide +kernel)) ggX7_goDown_X7_close
theorem dX7_goDown_0 : decode cX7_goDown 0 = .ok (.aload_n 0, 1) := by decide +kernel
theorem dX7_goDown_1 : decode cX7_goDown 1 = .ok (.bipush 10, 2) := by decide +kernel
theorem dX7_goDown_3 : decode cX7_goDown 3 = .ok (.invokevirtual 90, 3) := by decide +kernel
theorem dX7_goDown_6 : decode cX7_goDown 6 = .ok (.aload_n 0, 1) := by decide +kernel
theorem dX7_goDown_7 : decode cX7_goDown 7 = .ok (.bipush 10, 2) := by decide +kernel
theorem dX7_goDown_9 : decode cX7_goDown 9 = .ok (.iload_n 1, 1) := by decide +kernel
theorem dX7_goDown_10 : decode cX7_goDown 10 = .ok (.invokevirtual 93, 3) := by decide +kernel
theorem dX7_goDown_13 : decode cX7_goDown 13 = .ok (.aload_n 0, 1) := by decide +kernel
theorem dX7_goDown_14 : decode cX7_goDown 14 = .ok (.bipush 11, 2) := by decide +kernel
theorem dX7_goDown_16 : decode cX7_goDown 16 = .ok (.invokevirtual 90, 3) := by decide +kernel
theorem dX7_goDown_19 : decode cX7_goDown 19 = .ok (.iconst 0, 1) := by decide +kernel
theorem dX7_goDown_20 : decode cX7_goDown 20 = .ok (.istore_n 2, 1) := by decide +kernel
theorem dX7_goDown_21 : decode cX7_goDown 21 = .ok (.iload_n 2, 1) := by decide +kernel
theorem dX7_goDown_22 : decode cX7_goDown 22 = .ok (.aload_n 0, 1) := by decide +kernel
theorem dX7_goDown_23 : decode cX7_goDown 23 = .ok (.getfield 32, 3) := by decide +kernel
theorem dX7_goDown_26 : decode cX7_goDown 26 = .ok (.bipush 10, 2) := by decide +kernel
theorem dX7_goDown_28 : decode cX7_goDown 28 = .ok (.iaload, 1) := by decide +kernel
theorem dX7_goDown_29 : decode cX7_goDown 29 = .ok (.if_icmp .ge 86, 3) := by decide +kernel
theorem dX7_goDown_32 : decode cX7_goDown 32 = .ok (.iconst 0, 1) := by decide +kernel
theorem dX7_goDown_33 : decode cX7_goDown 33 = .ok (.istore_n 3, 1) := by decide +kernel
theorem dX7_goDown_34 : decode cX7_goDown 34 = .ok (.iload_n 3, 1) := by decide +kernel
theorem dX7_goDown_35 : decode cX7_goDown 35 = .ok (.aload_n 0, 1) := by decide +kernel
theorem dX7_goDown_36 : decode cX7_goDown 36 = .ok (.getfield 32, 3) := by decide +kernel
theorem dX7_goDown_39 : decode cX7_goDown 39 = .ok (.bipush 10, 2) := by decide +kernel
theorem dX7_goDown_41 : decode cX7_goDown 41 = .ok (.iaload, 1) := by decide +kernel
theorem dX7_goDown_42 : decode cX7_goDown 42 = .ok (.if_icmp .ge 67, 3) := by decide +kernel
theorem dX7_goDown_45 : decode cX7_goDown 45 = .ok (.aload_n 0, 1) := by decide +kernel
theorem dX7_goDown_46 : decode cX7_goDown 46 = .ok (.getfield 29, 3) := by decide +kernel
theorem dX7_goDown_49 : decode cX7_goDown 49 = .ok (.sipush 320, 3) := by decide +kernel
theorem dX7_goDown_52 : decode cX7_goDown 52 = .ok (.iload_n 2, 1) := by decide +kernel
theorem dX7_goDown_53 : decode cX7_goDown 53 = .ok (.iadd, 1) := by decide +kernel
theorem dX7_goDown_54 : decode cX7_goDown 54 = .ok (.iaload, 1) := by decide +kernel
theorem dX7_goDown_55 : decode cX7_goDown 55 = .ok (.istore 4, 2) := by decide +kernel
theorem dX7_goDown_57 : decode cX7_goDown 57 = .ok (.aload_n 0, 1) := by decide +kernel
theorem dX7_goDown_58 : decode cX7_goDown 58 = .ok (.getfield 29, 3) := by decide +kernel
theorem dX7_goDown_61 : decode cX7_goDown 61 = .ok (.sipush 320, 3) := by decide +kernel
theorem dX7_goDown_64 : decode cX7_goDown 64 = .ok (.iload_n 3, 1) := by decide +kernel
theorem dX7_goDown_65 : decode cX7_goDown 65 = .ok (.iadd, 1) := by decide +kernel
theorem dX7_goDown_66 : decode cX7_goDown 66 = .ok (.iaload, 1) := by decide +kernel
theorem dX7_goDown_67 : decode cX7_goDown 67 = .ok (.istore 5, 2) := by decide +kernel
theorem dX7_goDown_69 : decode cX7_goDown 69 = .ok (.aload_n 0, 1) := by decide +kernel
theorem dX7_goDown_70 : decode cX7_goDown 70 = .ok (.bipush 11, 2) := by decide +kernel
theorem dX7_goDown_72 : decode cX7_goDown 72 = .ok (.aload_n 0, 1) := by decide +kernel
theorem dX7_goDown_73 : decode cX7_goDown 73 = .ok (.aload_n 0, 1) := by decide +kernel
theorem dX7_goDown_74 : decode cX7_goDown 74 = .ok (.iload 4, 2) := by decide +kernel
theorem dX7_goDown_76 : decode cX7_goDown 76 = .ok (.invokevirtual 72, 3) := by decide +kernel
theorem dX7_goDown_79 : decode cX7_goDown 79 = .ok (.aload_n 0, 1) := by decide +kernel
theorem dX7_goDown_80 : decode cX7_goDown 80 = .ok (.aload_n 0, 1) := by decide +kernel
theorem dX7_goDown_81 : decode cX7_goDown 81 = .ok (.iload 5, 2) := by decide +kernel
theorem dX7_goDown_83 : decode cX7_goDown 83 = .ok (.invokevirtual 72, 3) := by decide +kernel
theorem dX7_goDown_86 : decode cX7_goDown 86 = .ok (.aload_n 0, 1) := by decide +kernel
theorem dX7_goDown_87 : decode cX7_goDown 87 = .ok (.iload 4, 2) := by decide +kernel
theorem dX7_goDown_89 : decode cX7_goDown 89 = .ok (.iload 5, 2) := by decide +kernel
theorem dX7_goDown_91 : decode cX7_goDown 91 = .ok (.invokevirtual 53, 3) := by decide +kernel
theorem dX7_goDown_94 : decode cX7_goDown 94 = .ok (.invokevirtual 53, 3) := by decide +kernel
theorem dX7_goDown_97 : decode cX7_goDown 97 = .ok (.invokevirtual 53, 3) := by decide +kernel
theorem dX7_goDown_100 : decode cX7_goDown 100 = .ok (.invokevirtual 83, 3) := by decide +kernel
theorem dX7_goDown_103 : decode cX7_goDown 103 = .ok (.iinc 3 1, 3) := by decide +kernel
theorem dX7_goDown_106 : decode cX7_goDown 106 = .ok (.goto (-72), 3) := by decide +kernel
theorem dX7_goDown_109 : decode cX7_goDown 109 = .ok (.iinc 2 1, 3) := by decide +kernel
theorem dX7_goDown_112 : decode cX7_goDown 112 = .ok (.goto (-91), 3) := by decide +kernel
theorem dX7_goDown_115 : decode cX7_goDown 115 = .ok (.aload_n 0, 1) := by decide +kernel
theorem dX7_goDown_116 : decode cX7_goDown 116 = .ok (.bipush 11, 2) := by decide +kernel
theorem dX7_goDown_118 : decode cX7_goDown 118 = .ok (.bipush 10, 2) := by decide +kernel
theorem dX7_goDown_120 : decode cX7_goDown 120 = .ok (.invokevirtual 96, 3) := by decide +kernel
theorem dX7_goDown_123 : decode cX7_goDown 123 = .ok (.return_, 1) := by decide +kernel
set_option maxRecDepth 20000 in
theorem ggX7_newGroup_X7_copy : GoodIn wsX7_newGroup wsX7_copy := goodIn_r _ [6, 7, 8, 9, 10, 11, 12, 13, 14, 15, 16, 17, 18, 19, 20] (by decide +kernel) (by decide +kernel)
set_option maxRecDepth 20000 in
theorem gX7_newGroup_X7_copy : GoodIn wsX7_newGroup (wsV RX7 99 RX7 yX7_copy wsX7_copy) := goodIn_app (goodIn_of _ (by decide +kernel)) ggX7_newGroup_X7_copy
theorem dX7_newGroup_0 : decode cX7_newGroup 0 = .ok (.iload_n 1, 1) := by decide +kernel
theorem dX7_newGroup_1 : decode cX7_newGroup 1 = .ok (.ifCond .lt 12, 3) := by decide +kernel
theorem dX7_newGroup_4 : decode cX7_newGroup 4 = .ok (.aload_n 0, 1) := by decide +kernel
theorem dX7_newGroup_5 : decode cX7_newGroup 5 = .ok (.iload_n 1, 1) := by decide +kernel
theorem dX7_newGroup_6 : decode cX7_newGroup 6 = .ok (.aload_n 0, 1) := by decide +kernel
theorem dX7_newGroup_7 : decode cX7_newGroup 7 = .ok (.getfield 61, 3) := by decide +kernel
theorem dX7_newGroup_10 : decode cX7_newGroup 10 = .ok (.invokevirtual 99, 3) := by decide +kernel
theorem dX7_newGroup_13 : decode cX7_newGroup 13 = .ok (.aload_n 0, 1) := by decide +kernel
theorem dX7_newGroup_14 : decode cX7_newGroup 14 = .ok (.dup, 1) := by decide +kernel
theorem dX7_newGroup_15 : decode cX7_newGroup 15 = .ok (.getfield 61, 3) := by decide +kernel
theorem dX7_newGroup_18 : decode cX7_newGroup 18 = .ok (.iconst 1, 1) := by decide +kernel
theorem dX7_newGroup_19 : decode cX7_newGroup 19 = .ok (.iadd, 1) := by decide +kernel
theorem dX7_newGroup_20 : decode cX7_newGroup 20 = .ok (.putfield 61, 3) := by decide +kernel
theorem dX7_newGroup_23 : decode cX7_newGroup 23 = .ok (.aload_n 0, 1) := by decide +kernel
theorem dX7_newGroup_24 : decode cX7_newGroup 24 = .ok (.getfield 61, 3) := by decide +kernel
theorem dX7_newGroup_27 : decode cX7_newGroup 27 = .ok (.iconst 1, 1) := by decide +kernel
theorem dX7_newGroup_28 : decode cX7_newGroup 28 = .ok (.isub, 1) := by decide +kernel
theorem dX7_newGroup_29 : decode cX7_newGroup 29 = .ok (.ireturn, 1) := by decide +kernel
theorem dX7_isEven_0 : decode cX7_isEven 0 = .ok (.iconst 0, 1) := by decide +kernel
theorem dX7_isEven_1 : decode cX7_isEven 1 = .ok (.istore_n 2, 1) := by decide +kernel
theorem dX7_isEven_2 : decode cX7_isEven 2 = .ok (.iconst 0, 1) := by decide +kernel
theorem dX7_isEven_3 : decode cX7_isEven 3 = .ok (.istore_n 3, 1) := by decide +kernel
theorem dX7_isEven_4 : decode cX7_isEven 4 = .ok (.iload_n 3, 1) := by decide +kernel
theorem dX7_isEven_5 : decode cX7_isEven 5 = .ok (.aload_n 0, 1) := by decide +kernel
theorem dX7_isEven_6 : decode cX7_isEven 6 = .ok (.getfield 7, 3) := by decide +kernel
theorem dX7_isEven_9 : decode cX7_isEven 9 = .ok (.if_icmp .ge 63, 3) := by decide +kernel
theorem dX7_isEven_12 : decode cX7_isEven 12 = .ok (.iload_n 3, 1) := by decide +kernel
theorem dX7_isEven_13 : decode cX7_isEven 13 = .ok (.iconst 1, 1) := by decide +kernel
theorem dX7_isEven_14 : decode cX7_isEven 14 = .ok (.iadd, 1) := by decide +kernel
theorem dX7_isEven_15 : decode cX7_isEven 15 = .ok (.istore 4, 2) := by decide +kernel
theorem dX7_isEven_17 : decode cX7_isEven 17 = .ok (.iload 4, 2) := by decide +kernel
theorem dX7_isEven_19 : decode cX7_isEven 19 = .ok (.aload_n 0, 1) := by decide +kernel
theorem dX7_isEven_20 : decode cX7_isEven 20 = .ok (.getfield 7, 3) := by decide +kernel
theorem dX7_isEven_23 : decode cX7_isEven 23 = .ok (.if_icmp .ge 43, 3) := by decide +kernel
theorem dX7_isEven_26 : decode cX7_isEven 26 = .ok (.iload_n 2, 1) := by decide +kernel
theorem dX7_isEven_27 : decode cX7_isEven 27 = .ok (.aload_n 0, 1) := by decide +kernel
theorem dX7_isEven_28 : decode cX7_isEven 28 = .ok (.getfield 14, 3) := by decide +kernel
theorem dX7_isEven_31 : decode cX7_isEven 31 = .ok (.bipush 8, 2) := by decide +kernel
theorem dX7_isEven_33 : decode cX7_isEven 33 = .ok (.iload_n 1, 1) := by decide +kernel
theorem dX7_isEven_34 : decode cX7_isEven 34 = .ok (.imul, 1) := by decide +kernel
theorem dX7_isEven_35 : decode cX7_isEven 35 = .ok (.iload_n 3, 1) := by decide +kernel
theorem dX7_isEven_36 : decode cX7_isEven 36 = .ok (.iadd, 1) := by decide +kernel
theorem dX7_isEven_37 : decode cX7_isEven 37 = .ok (.iaload, 1) := by decide +kernel
theorem dX7_isEven_38 : decode cX7_isEven 38 = .ok (.aload_n 0, 1) := by decide +kernel
theorem dX7_isEven_39 : decode cX7_isEven 39 = .ok (.getfield 14, 3) := by decide +kernel
theorem dX7_isEven_42 : decode cX7_isEven 42 = .ok (.bipush 8, 2) := by decide +kernel
theorem dX7_isEven_44 : decode cX7_isEven 44 = .ok (.iload_n 1, 1) := by decide +kernel
theorem dX7_isEven_45 : decode cX7_isEven 45 = .ok (.imul, 1) := by decide +kernel
theorem dX7_isEven_46 : decode cX7_isEven 46 = .ok (.iload 4, 2) := by decide +kernel
theorem dX7_isEven_48 : decode cX7_isEven 48 = .ok (.iadd, 1) := by decide +kernel
theorem dX7_isEven_49 : decode cX7_isEven 49 = .ok (.iaload, 1) := by decide +kernel
theorem dX7_isEven_50 : decode cX7_isEven 50 = .ok (.if_icmp .le 7, 3) := by decide +kernel
theorem dX7_isEven_53 : decode cX7_isEven 53 = .ok (.iconst 1, 1) := by decide +kernel
theorem dX7_isEven_54 : decode cX7_isEven 54 = .ok (.goto 4, 3) := by decide +kernel
theorem dX7_isEven_57 : decode cX7_isEven 57 = .ok (.iconst 0, 1) := by decide +kernel
theorem dX7_isEven_58 : decode cX7_isEven 58 = .ok (.iadd, 1) := by decide +kernel
theorem dX7_isEven_59 : decode cX7_isEven 59 = .ok (.istore_n 2, 1) := by decide +kernel
theorem dX7_isEven_60 : decode cX7_isEven 60 = .ok (.iinc 4 1, 3) := by decide +kernel
theorem dX7_isEven_63 : decode cX7_isEven 63 = .ok (.goto (-46), 3) := by decide +kernel
theorem dX7_isEven_66 : decode cX7_isEven 66 = .ok (.iinc 3 1, 3) := by decide +kernel
theorem dX7_isEven_69 : decode cX7_isEven 69 = .ok (.goto (-65), 3) := by decide +kernel
theorem dX7_isEven_72 : decode cX7_isEven 72 = .ok (.iload_n 2, 1) := by decide +kernel
theorem dX7_isEven_73 : decode cX7_isEven 73 = .ok (.iconst 2, 1) := by decide +kernel
theorem dX7_isEven_74 : decode cX7_isEven 74 = .ok (.irem, 1) := by decide +kernel
theorem dX7_isEven_75 : decode cX7_isEven 75 = .ok (.ifCond .ne 7, 3) := by decide +kernel
theorem dX7_isEven_78 : decode cX7_isEven 78 = .ok (.iconst 1, 1) := by decide +kernel
theorem dX7_isEven_79 : decode cX7_isEven 79 = .ok (.goto 4, 3) := by decide +kernel
theorem dX7_isEven_82 : decode cX7_isEven 82 = .ok (.iconst 0, 1) := by decide +kernel
theorem dX7_isEven_83 : decode cX7_isEven 83 = .ok (.ireturn, 1) := by decide +kernel
set_option maxRecDepth 20000 in
theorem ggX7_group_X7_isIn : GoodIn wsX7_group wsX7_isIn := goodIn_r _ [8] (by decide +kernel) (by decide +kernel)
set_option maxRecDepth 20000 in
theorem gX7_group_X7_isIn : GoodIn wsX7_group (va_wsS RX7 57 yX7_isIn wsX7_isIn) := goodIn_app (goodIn_of _ (by decide +kernel)) ggX7_group_X7_isIn
set_option maxRecDepth 20000 in
theorem ggX7_group_X7_isEven : GoodIn wsX7_group wsX7_isEven := goodIn_r _ [12, 13, 14, 23, 24, 25, 26, 27, 28, 29, 30, 31, 32, 33] (by decide +kernel) (by decide +kernel)
set_option maxRecDepth 20000 in
theorem gX7_group_X7_isEven : GoodIn wsX7_group (wsV RX7 102 RX7 yX7_isEven wsX7_isEven) := goodIn_app (goodIn_of _ (by decide +kernel)) ggX7_group_X7_isEven
set_option maxRecDepth 20000 in
theorem ggX7_group_X7_newGroup : GoodIn wsX7_group wsX7_newGroup := goodIn_r _ [18, 1, 19, 20, 21, 7, 22, 2, 3, 4, 23, 24, 25, 26, 27, 28, 29, 30, 31, 32, 33] (by decide +kernel) (by decide +kernel)
set_option maxRecDepth 20000 in
theorem gX7_group_X7_newGroup : GoodIn wsX7_group (wsV RX7 106 RX7 yX7_newGroup wsX7_newGroup) := goodIn_app (goodIn_of _ (by decide +kernel)) ggX7_group_X7_newGroup
theorem dX7_group_0 : decode cX7_group 0 = .ok (.iload_n 1, 1) := by decide +kernel
theorem dX7_group_1 : decode cX7_group 1 = .ok (.iconst 0, 1) := by decide +kernel
theorem dX7_group_2 : decode cX7_group 2 = .ok (.iconst 2, 1) := by decide +kernel
theorem dX7_group_3 : decode cX7_group 3 = .ok (.invokestatic 57, 3) := by decide +kernel
theorem dX7_group_6 : decode cX7_group 6 = .ok (.ifCond .ne 6, 3) := by decide +kernel
theorem dX7_group_9 : decode cX7_group 9 = .ok (.bipush (-2), 2) := by decide +kernel
theorem dX7_group_11 : decode cX7_group 11 = .ok (.ireturn, 1) := by decide +kernel
theorem dX7_group_12 : decode cX7_group 12 = .ok (.aload_n 0, 1) := by decide +kernel
theorem dX7_group_13 : decode cX7_group 13 = .ok (.getfield 61, 3) := by decide +kernel
theorem dX7_group_16 : decode cX7_group 16 = .ok (.bipush 10, 2) := by decide +kernel
theorem dX7_group_18 : decode cX7_group 18 = .ok (.if_icmp .ne 6, 3) := by decide +kernel
theorem dX7_group_21 : decode cX7_group 21 = .ok (.bipush (-3), 2) := by decide +kernel
theorem dX7_group_23 : decode cX7_group 23 = .ok (.ireturn, 1) := by decide +kernel
theorem dX7_group_24 : decode cX7_group 24 = .ok (.iconst 0, 1) := by decide +kernel
theorem dX7_group_25 : decode cX7_group 25 = .ok (.istore_n 2, 1) := by decide +kernel
theorem dX7_group_26 : decode cX7_group 26 = .ok (.iload_n 2, 1) := by decide +kernel
theorem dX7_group_27 : decode cX7_group 27 = .ok (.aload_n 0, 1) := by decide +kernel
theorem dX7_group_28 : decode cX7_group 28 = .ok (.getfield 46, 3) := by decide +kernel
theorem dX7_group_31 : decode cX7_group 31 = .ok (.if_icmp .ge 50, 3) := by decide +kernel
theorem dX7_group_34 : decode cX7_group 34 = .ok (.aload_n 0, 1) := by decide +kernel
theorem dX7_group_35 : decode cX7_group 35 = .ok (.getfield 22, 3) := by decide +kernel
theorem dX7_group_38 : decode cX7_group 38 = .ok (.ldc 35, 2) := by decide +kernel
theorem dX7_group_40 : decode cX7_group 40 = .ok (.aload_n 0, 1) := by decide +kernel
theorem dX7_group_41 : decode cX7_group 41 = .ok (.getfield 61, 3) := by decide +kernel
theorem dX7_group_44 : decode cX7_group 44 = .ok (.imul, 1) := by decide +kernel
theorem dX7_group_45 : decode cX7_group 45 = .ok (.iload_n 2, 1) := by decide +kernel
theorem dX7_group_46 : decode cX7_group 46 = .ok (.iadd, 1) := by decide +kernel
theorem dX7_group_47 : decode cX7_group 47 = .ok (.iload_n 1, 1) := by decide +kernel
theorem dX7_group_48 : decode cX7_group 48 = .ok (.iconst 1, 1) := by decide +kernel
theorem dX7_group_49 : decode cX7_group 49 = .ok (.if_icmp .eq 20, 3) := by decide +kernel
theorem dX7_group_52 : decode cX7_group 52 = .ok (.iload_n 2, 1) := by decide +kernel
theorem dX7_group_53 : decode cX7_group 53 = .ok (.ifCond .eq 16, 3) := by decide +kernel
theorem dX7_group_56 : decode cX7_group 56 = .ok (.iload_n 1, 1) := by decide +kernel
theorem dX7_group_57 : decode cX7_group 57 = .ok (.iconst 2, 1) := by decide +kernel
theorem dX7_group_58 : decode cX7_group 58 = .ok (.if_icmp .ne 15, 3) := by decide +kernel
theorem dX7_group_61 : decode cX7_group 61 = .ok (.aload_n 0, 1) := by decide +kernel
theorem dX7_group_62 : decode cX7_group 62 = .ok (.iload_n 2, 1) := by decide +kernel
theorem dX7_group_63 : decode cX7_group 63 = .ok (.invokevirtual 102, 3) := by decide +kernel
theorem dX7_group_66 : decode cX7_group 66 = .ok (.ifCond .eq 7, 3) := by decide +kernel
theorem dX7_group_69 : decode cX7_group 69 = .ok (.iconst 1, 1) := by decide +kernel
theorem dX7_group_70 : decode cX7_group 70 = .ok (.goto 4, 3) := by decide +kernel
theorem dX7_group_73 : decode cX7_group 73 = .ok (.iconst 0, 1) := by decide +kernel
theorem dX7_group_74 : decode cX7_group 74 = .ok (.bastore, 1) := by decide +kernel
theorem dX7_group_75 : decode cX7_group 75 = .ok (.iinc 2 1, 3) := by decide +kernel
theorem dX7_group_78 : decode cX7_group 78 = .ok (.goto (-52), 3) := by decide +kernel
theorem dX7_group_81 : decode cX7_group 81 = .ok (.aload_n 0, 1) := by decide +kernel
theorem dX7_group_82 : decode cX7_group 82 = .ok (.iconst (-1), 1) := by decide +kernel
theorem dX7_group_83 : decode cX7_group 83 = .ok (.invokevirtual 106, 3) := by decide +kernel
theorem dX7_group_86 : decode cX7_group 86 = .ok (.ireturn, 1) := by decide +kernel
set_option maxRecDepth 20000 in
theorem ggX7_add_X7_isGroup : GoodIn wsX7_add wsX7_isGroup := goodIn_r _ [6, 7, 8, 9, 5, 10, 52, 53, 54, 55, 56, 57, 58, 59, 60, 61, 62] (by decide +kernel) (by decide +kernel)
set_option maxRecDepth 20000 in
theorem gX7_add_X7_isGroup : GoodIn wsX7_add (wsV RX7 109 RX7 yX7_isGroup wsX7_isGroup) := goodIn_app (goodIn_of _ (by decide +kernel)) ggX7_add_X7_isGroup
set_option maxRecDepth 20000 in
theorem ggX7_add_X7_hasIt : GoodIn wsX7_add wsX7_hasIt := goodIn_r _ [14, 15, 16, 52, 53, 54, 55, 56, 57, 58, 59, 60, 61, 62] (by decide +kernel) (by decide +kernel)
set_option maxRecDepth 20000 in
theorem gX7_add_X7_hasIt : GoodIn wsX7_add (wsV RX7 79 RX7 yX7_hasIt wsX7_hasIt) := goodIn_app (goodIn_of _ (by decide +kernel)) ggX7_add_X7_hasIt
set_option maxRecDepth 20000 in
theorem ggX7_add_X7_begin : GoodIn wsX7_add wsX7_begin := goodIn_r _ [20, 21, 22, 23, 24, 5, 25, 26, 15, 16, 52, 53, 54, 55, 56, 57, 58, 59, 60, 61, 62] (by decide +kernel) (by decide +kernel)
set_option maxRecDepth 20000 in
theorem gX7_add_X7_begin : GoodIn wsX7_add (wsV RX7 90 RX7 yX7_begin wsX7_begin) := goodIn_app (goodIn_of _ (by decide +kernel)) ggX7_add_X7_begin
set_option maxRecDepth 20000 in
theorem ggX7_add_X7_joinAll : GoodIn wsX7_add wsX7_joinAll := goodIn_r _ [30, 26, 11, 12, 13, 5, 14, 15, 16, 31, 32, 33, 34, 35, 21, 36, 22, 23, 24, 25, 37, 38, 39, 40, 41, 42, 43, 44, 45, 46, 47, 52, 53, 54, 55, 56, 57, 58, 59, 60, 61, 62] (by decide +kernel) (by decide +kernel)
set_option maxRecDepth 20000 in
theorem gX7_add_X7_joinAll : GoodIn wsX7_add (wsV RX7 93 RX7 yX7_joinAll wsX7_joinAll) := goodIn_app (goodIn_of _ (by decide +kernel)) ggX7_add_X7_joinAll
set_option maxRecDepth 20000 in
theorem ggX7_add_X7_join : GoodIn wsX7_add wsX7_join := goodIn_r _ [34, 35, 21, 36, 15, 16, 11, 12, 13, 5, 14, 22, 23, 24, 25, 26, 37, 38, 39, 40, 41, 42, 43, 44, 45, 46, 47, 52, 53, 54, 55, 56, 57, 58, 59, 60, 61, 62] (by decide +kernel) (by decide +kernel)
set_option maxRecDepth 20000 in
theorem gX7_add_X7_join : GoodIn wsX7_add (wsV RX7 83 RX7 yX7_join wsX7_join) := goodIn_app (goodIn_of _ (by decide +kernel)) ggX7_add_X7_join
set_option maxRecDepth 20000 in
theorem ggX7_add_X7_copy : GoodIn wsX7_add wsX7_copy := goodIn_r _ [51, 26, 15, 16, 52, 53, 54, 55, 56, 57, 58, 59, 60, 61, 62] (by decide +kernel) (by decide +kernel)
set_option maxRecDepth 20000 in
theorem gX7_add_X7_copy : GoodIn wsX7_add (wsV RX7 99 RX7 yX7_copy wsX7_copy) := goodIn_app (goodIn_of _ (by decide +kernel)) ggX7_add_X7_copy
theorem dX7_add_0 : decode cX7_add 0 = .ok (.aload_n 0, 1) := by decide +kernel
theorem dX7_add_1 : decode cX7_add 1 = .ok (.iload_n 1, 1) := by decide +kernel
theorem dX7_add_2 : decode cX7_add 2 = .ok (.invokevirtual 109, 3) := by decide +kernel
theorem dX7_add_5 : decode cX7_add 5 = .ok (.ifCond .ne 6, 3) := by decide +kernel
theorem dX7_add_8 : decode cX7_add 8 = .ok (.bipush (-2), 2) := by decide +kernel
theorem dX7_add_10 : decode cX7_add 10 = .ok (.ireturn, 1) := by decide +kernel
theorem dX7_add_11 : decode cX7_add 11 = .ok (.aload_n 0, 1) := by decide +kernel
theorem dX7_add_12 : decode cX7_add 12 = .ok (.iload_n 1, 1) := by decide +kernel
theorem dX7_add_13 : decode cX7_add 13 = .ok (.aload_n 0, 1) := by decide +kernel
theorem dX7_add_14 : decode cX7_add 14 = .ok (.getfield 64, 3) := by decide +kernel
theorem dX7_add_17 : decode cX7_add 17 = .ok (.invokevirtual 79, 3) := by decide +kernel
theorem dX7_add_20 : decode cX7_add 20 = .ok (.ifCond .eq 5, 3) := by decide +kernel
theorem dX7_add_23 : decode cX7_add 23 = .ok (.iconst 1, 1) := by decide +kernel
theorem dX7_add_24 : decode cX7_add 24 = .ok (.ireturn, 1) := by decide +kernel
theorem dX7_add_25 : decode cX7_add 25 = .ok (.aload_n 0, 1) := by decide +kernel
theorem dX7_add_26 : decode cX7_add 26 = .ok (.bipush 10, 2) := by decide +kernel
theorem dX7_add_28 : decode cX7_add 28 = .ok (.invokevirtual 90, 3) := by decide +kernel
theorem dX7_add_31 : decode cX7_add 31 = .ok (.aload_n 0, 1) := by decide +kernel
theorem dX7_add_32 : decode cX7_add 32 = .ok (.bipush 10, 2) := by decide +kernel
theorem dX7_add_34 : decode cX7_add 34 = .ok (.iload_n 1, 1) := by decide +kernel
theorem dX7_add_35 : decode cX7_add 35 = .ok (.invokevirtual 93, 3) := by decide +kernel
theorem dX7_add_38 : decode cX7_add 38 = .ok (.aload_n 0, 1) := by decide +kernel
theorem dX7_add_39 : decode cX7_add 39 = .ok (.bipush 10, 2) := by decide +kernel
theorem dX7_add_41 : decode cX7_add 41 = .ok (.aload_n 0, 1) := by decide +kernel
theorem dX7_add_42 : decode cX7_add 42 = .ok (.getfield 64, 3) := by decide +kernel
theorem dX7_add_45 : decode cX7_add 45 = .ok (.invokevirtual 83, 3) := by decide +kernel
theorem dX7_add_48 : decode cX7_add 48 = .ok (.aload_n 0, 1) := by decide +kernel
theorem dX7_add_49 : decode cX7_add 49 = .ok (.bipush 10, 2) := by decide +kernel
theorem dX7_add_51 : decode cX7_add 51 = .ok (.iload_n 1, 1) := by decide +kernel
theorem dX7_add_52 : decode cX7_add 52 = .ok (.invokevirtual 99, 3) := by decide +kernel
theorem dX7_add_55 : decode cX7_add 55 = .ok (.iconst 0, 1) := by decide +kernel
theorem dX7_add_56 : decode cX7_add 56 = .ok (.ireturn, 1) := by decide +kernel
set_option maxRecDepth 20000 in
theorem ggX7_of_X7_isIn : GoodIn wsX7_of wsX7_isIn := goodIn_r _ [8] (by decide +kernel) (by decide +kernel)
set_option maxRecDepth 20000 in
theorem gX7_of_X7_isIn : GoodIn wsX7_of (va_wsS RX7 57 yX7_isIn wsX7_isIn) := goodIn_app (goodIn_of _ (by decide +kernel)) ggX7_of_X7_isIn
set_option maxRecDepth 20000 in
theorem ggX7_of_X7_isGroup : GoodIn wsX7_of wsX7_isGroup := goodIn_r _ [12, 1, 5, 6, 7, 8, 64, 65, 66, 67, 68, 69, 70, 71, 72, 73, 74] (by decide +kernel) (by decide +kernel)
set_option maxRecDepth 20000 in
theorem gX7_of_X7_isGroup : GoodIn wsX7_of (wsV RX7 109 RX7 yX7_isGroup wsX7_isGroup) := goodIn_app (goodIn_of _ (by decide +kernel)) ggX7_of_X7_isGroup
set_option maxRecDepth 20000 in
theorem ggX7_of_X7_hasIt : GoodIn wsX7_of wsX7_hasIt := goodIn_r _ [16, 3, 17, 64, 65, 66, 67, 68, 69, 70, 71, 72, 73, 74] (by decide +kernel) (by decide +kernel)
set_option maxRecDepth 20000 in
theorem gX7_of_X7_hasIt : GoodIn wsX7_of (wsV RX7 79 RX7 yX7_hasIt wsX7_hasIt) := goodIn_app (goodIn_of _ (by decide +kernel)) ggX7_of_X7_hasIt
set_option maxRecDepth 20000 in
theorem ggX7_of_X7_newGroup : GoodIn wsX7_of wsX7_newGroup := goodIn_r _ [21, 1, 22, 23, 24, 7, 25, 2, 3, 17, 64, 65, 66, 67, 68, 69, 70, 71, 72, 73, 74] (by decide +kernel) (by decide +kernel)
set_option maxRecDepth 20000 in
theorem gX7_of_X7_newGroup : GoodIn wsX7_of (wsV RX7 106 RX7 yX7_newGroup wsX7_newGroup) := goodIn_app (goodIn_of _ (by decide +kernel)) ggX7_of_X7_newGroup
set_option maxRecDepth 20000 in
theorem ggX7_of_X7_begin : GoodIn wsX7_of wsX7_begin := goodIn_r _ [29, 30, 31, 32, 33, 7, 34, 2, 3, 17, 64, 65, 66, 67, 68, 69, 70, 71, 72, 73, 74] (by decide +kernel) (by decide +kernel)
set_option maxRecDepth 20000 in
theorem gX7_of_X7_begin : GoodIn wsX7_of (wsV RX7 90 RX7 yX7_begin wsX7_begin) := goodIn_app (goodIn_of _ (by decide +kernel)) ggX7_of_X7_begin
set_option maxRecDepth 20000 in
theorem ggX7_of_X7_joinAll : GoodIn wsX7_of wsX7_joinAll := goodIn_r _ [38, 2, 13, 14, 15, 7, 16, 3, 17, 39, 40, 41, 42, 43, 30, 44, 31, 32, 33, 34, 45, 46, 47, 48, 49, 50, 51, 52, 53, 54, 55, 64, 65, 66, 67, 68, 69, 70, 71, 72, 73, 74] (by decide +kernel) (by decide +kernel)
set_option maxRecDepth 20000 in
theorem gX7_of_X7_joinAll : GoodIn wsX7_of (wsV RX7 93 RX7 yX7_joinAll wsX7_joinAll) := goodIn_app (goodIn_of _ (by decide +kernel)) ggX7_of_X7_joinAll
set_option maxRecDepth 20000 in
theorem ggX7_of_X7_close : GoodIn wsX7_of wsX7_close := goodIn_r _ [59, 30, 43, 60, 61, 62, 7, 63, 49, 50, 51, 52, 53, 54, 55, 39, 40, 41, 42, 44, 3, 17, 13, 14, 15, 16, 31, 32, 33, 34, 2, 45, 46, 47, 48, 64, 65, 66, 67, 68, 69, 70, 71, 72, 73, 74] (by decide +kernel) (by decide +kernel)
set_option maxRecDepth 20000 in
theorem gX7_of_X7_close : GoodIn wsX7_of (wsV RX7 96 RX7 yX7_close wsX7_close) := goodIn_app (goodIn_of _ (by decide +kernel)) ggX7_of_X7_close
theorem dX7_of_0 : decode cX7_of 0 = .ok (.iload_n 1, 1) := by decide +kernel
theorem dX7_of_1 : decode cX7_of 1 = .ok (.iconst 0, 1) := by decide +kernel
theorem dX7_of_2 : decode cX7_of 2 = .ok (.iconst 2, 1) := by decide +kernel
theorem dX7_of_3 : decode cX7_of 3 = .ok (.invokestatic 57, 3) := by decide +kernel
theorem dX7_of_6 : decode cX7_of 6 = .ok (.ifCond .eq 19, 3) := by decide +kernel
theorem dX7_of_9 : decode cX7_of 9 = .ok (.aload_n 0, 1) := by decide +kernel
theorem dX7_of_10 : decode cX7_of 10 = .ok (.iload_n 2, 1) := by decide +kernel
theorem dX7_of_11 : decode cX7_of 11 = .ok (.invokevirtual 109, 3) := by decide +kernel
theorem dX7_of_14 : decode cX7_of 14 = .ok (.ifCond .eq 11, 3) := by decide +kernel
theorem dX7_of_17 : decode cX7_of 17 = .ok (.aload_n 0, 1) := by decide +kernel
theorem dX7_of_18 : decode cX7_of 18 = .ok (.iload_n 3, 1) := by decide +kernel
theorem dX7_of_19 : decode cX7_of 19 = .ok (.invokevirtual 109, 3) := by decide +kernel
theorem dX7_of_22 : decode cX7_of 22 = .ok (.ifCond .ne 6, 3) := by decide +kernel
theorem dX7_of_25 : decode cX7_of 25 = .ok (.bipush (-2), 2) := by decide +kernel
theorem dX7_of_27 : decode cX7_of 27 = .ok (.ireturn, 1) := by decide +kernel
theorem dX7_of_28 : decode cX7_of 28 = .ok (.aload_n 0, 1) := by decide +kernel
theorem dX7_of_29 : decode cX7_of 29 = .ok (.getfield 61, 3) := by decide +kernel
theorem dX7_of_32 : decode cX7_of 32 = .ok (.bipush 10, 2) := by decide +kernel
theorem dX7_of_34 : decode cX7_of 34 = .ok (.if_icmp .ne 6, 3) := by decide +kernel
theorem dX7_of_37 : decode cX7_of 37 = .ok (.bipush (-3), 2) := by decide +kernel
theorem dX7_of_39 : decode cX7_of 39 = .ok (.ireturn, 1) := by decide +kernel
theorem dX7_of_40 : decode cX7_of 40 = .ok (.iload_n 1, 1) := by decide +kernel
theorem dX7_of_41 : decode cX7_of 41 = .ok (.iconst 1, 1) := by decide +kernel
theorem dX7_of_42 : decode cX7_of 42 = .ok (.if_icmp .ne 63, 3) := by decide +kernel
theorem dX7_of_45 : decode cX7_of 45 = .ok (.iconst 0, 1) := by decide +kernel
theorem dX7_of_46 : decode cX7_of 46 = .ok (.istore 4, 2) := by decide +kernel
theorem dX7_of_48 : decode cX7_of 48 = .ok (.iload 4, 2) := by decide +kernel
theorem dX7_of_50 : decode cX7_of 50 = .ok (.aload_n 0, 1) := by decide +kernel
theorem dX7_of_51 : decode cX7_of 51 = .ok (.getfield 46, 3) := by decide +kernel
theorem dX7_of_54 : decode cX7_of 54 = .ok (.if_icmp .ge 44, 3) := by decide +kernel
theorem dX7_of_57 : decode cX7_of 57 = .ok (.aload_n 0, 1) := by decide +kernel
theorem dX7_of_58 : decode cX7_of 58 = .ok (.getfield 22, 3) := by decide +kernel
theorem dX7_of_61 : decode cX7_of 61 = .ok (.ldc 112, 2) := by decide +kernel
theorem dX7_of_63 : decode cX7_of 63 = .ok (.iload 4, 2) := by decide +kernel
theorem dX7_of_65 : decode cX7_of 65 = .ok (.iadd, 1) := by decide +kernel
theorem dX7_of_66 : decode cX7_of 66 = .ok (.aload_n 0, 1) := by decide +kernel
theorem dX7_of_67 : decode cX7_of 67 = .ok (.iload_n 2, 1) := by decide +kernel
theorem dX7_of_68 : decode cX7_of 68 = .ok (.iload 4, 2) := by decide +kernel
theorem dX7_of_70 : decode cX7_of 70 = .ok (.invokevirtual 79, 3) := by decide +kernel
theorem dX7_of_73 : decode cX7_of 73 = .ok (.ifCond .eq 17, 3) := by decide +kernel
theorem dX7_of_76 : decode cX7_of 76 = .ok (.aload_n 0, 1) := by decide +kernel
theorem dX7_of_77 : decode cX7_of 77 = .ok (.iload_n 3, 1) := by decide +kernel
theorem dX7_of_78 : decode cX7_of 78 = .ok (.iload 4, 2) := by decide +kernel
theorem dX7_of_80 : decode cX7_of 80 = .ok (.invokevirtual 79, 3) := by decide +kernel
theorem dX7_of_83 : decode cX7_of 83 = .ok (.ifCond .eq 7, 3) := by decide +kernel
theorem dX7_of_86 : decode cX7_of 86 = .ok (.iconst 1, 1) := by decide +kernel
theorem dX7_of_87 : decode cX7_of 87 = .ok (.goto 4, 3) := by decide +kernel
theorem dX7_of_90 : decode cX7_of 90 = .ok (.iconst 0, 1) := by decide +kernel
theorem dX7_of_91 : decode cX7_of 91 = .ok (.bastore, 1) := by decide +kernel
theorem dX7_of_92 : decode cX7_of 92 = .ok (.iinc 4 1, 3) := by decide +kernel
theorem dX7_of_95 : decode cX7_of 95 = .ok (.goto (-47), 3) := by decide +kernel
theorem dX7_of_98 : decode cX7_of 98 = .ok (.aload_n 0, 1) := by decide +kernel
theorem dX7_of_99 : decode cX7_of 99 = .ok (.bipush 10, 2) := by decide +kernel
theorem dX7_of_101 : decode cX7_of 101 = .ok (.invokevirtual 106, 3) := by decide +kernel
theorem dX7_of_104 : decode cX7_of 104 = .ok (.ireturn, 1) := by decide +kernel
theorem dX7_of_105 : decode cX7_of 105 = .ok (.aload_n 0, 1) := by decide +kernel
theorem dX7_of_106 : decode cX7_of 106 = .ok (.bipush 10, 2) := by decide +kernel
theorem dX7_of_108 : decode cX7_of 108 = .ok (.invokevirtual 90, 3) := by decide +kernel
theorem dX7_of_111 : decode cX7_of 111 = .ok (.aload_n 0, 1) := by decide +kernel
theorem dX7_of_112 : decode cX7_of 112 = .ok (.bipush 10, 2) := by decide +kernel
theorem dX7_of_114 : decode cX7_of 114 = .ok (.iload_n 2, 1) := by decide +kernel
theorem dX7_of_115 : decode cX7_of 115 = .ok (.invokevirtual 93, 3) := by decide +kernel
theorem dX7_of_118 : decode cX7_of 118 = .ok (.aload_n 0, 1) := by decide +kernel
theorem dX7_of_119 : decode cX7_of 119 = .ok (.bipush 10, 2) := by decide +kernel
theorem dX7_of_121 : decode cX7_of 121 = .ok (.iload_n 3, 1) := by decide +kernel
theorem dX7_of_122 : decode cX7_of 122 = .ok (.invokevirtual 93, 3) := by decide +kernel
theorem dX7_of_125 : decode cX7_of 125 = .ok (.iload_n 1, 1) := by decide +kernel
theorem dX7_of_126 : decode cX7_of 126 = .ok (.ifCond .ne 10, 3) := by decide +kernel
theorem dX7_of_129 : decode cX7_of 129 = .ok (.aload_n 0, 1) := by decide +kernel
theorem dX7_of_130 : decode cX7_of 130 = .ok (.bipush 10, 2) := by decide +kernel
theorem dX7_of_132 : decode cX7_of 132 = .ok (.invokevirtual 106, 3) := by decide +kernel
theorem dX7_of_135 : decode cX7_of 135 = .ok (.ireturn, 1) := by decide +kernel
theorem dX7_of_136 : decode cX7_of 136 = .ok (.aload_n 0, 1) := by decide +kernel
theorem dX7_of_137 : decode cX7_of 137 = .ok (.bipush 11, 2) := by decide +kernel
theorem dX7_of_139 : decode cX7_of 139 = .ok (.invokevirtual 90, 3) := by decide +kernel
theorem dX7_of_142 : decode cX7_of 142 = .ok (.aload_n 0, 1) := by decide +kernel
theorem dX7_of_143 : decode cX7_of 143 = .ok (.bipush 11, 2) := by decide +kernel
theorem dX7_of_145 : decode cX7_of 145 = .ok (.iload_n 2, 1) := by decide +kernel
theorem dX7_of_146 : decode cX7_of 146 = .ok (.invokevirtual 93, 3) := by decide +kernel
theorem dX7_of_149 : decode cX7_of 149 = .ok (.aload_n 0, 1) := by decide +kernel
theorem dX7_of_150 : decode cX7_of 150 = .ok (.bipush 11, 2) := by decide +kernel
theorem dX7_of_152 : decode cX7_of 152 = .ok (.bipush 10, 2) := by decide +kernel
theorem dX7_of_154 : decode cX7_of 154 = .ok (.invokevirtual 96, 3) := by decide +kernel
theorem dX7_of_157 : decode cX7_of 157 = .ok (.aload_n 0, 1) := by decide +kernel
theorem dX7_of_158 : decode cX7_of 158 = .ok (.bipush 11, 2) := by decide +kernel
theorem dX7_of_160 : decode cX7_of 160 = .ok (.invokevirtual 106, 3) := by decide +kernel
theorem dX7_of_163 : decode cX7_of 163 = .ok (.ireturn, 1) := by decide +kernel
set_option maxRecDepth 20000 in
theorem ggX7_by_X7_isIn : GoodIn wsX7_by wsX7_isIn := goodIn_r _ [10] (by decide +kernel) (by decide +kernel)
set_option maxRecDepth 20000 in
theorem gX7_by_X7_isIn : GoodIn wsX7_by (va_wsS RX7 57 yX7_isIn wsX7_isIn) := goodIn_app (goodIn_of _ (by decide +kernel)) ggX7_by_X7_isIn
set_option maxRecDepth 20000 in
theorem ggX7_by_X7_isGroup : GoodIn wsX7_by wsX7_isGroup := goodIn_r _ [14, 2, 7, 8, 9, 10, 31, 32, 33, 34, 35, 36, 37, 38, 39, 40, 41] (by decide +kernel) (by decide +kernel)
set_option maxRecDepth 20000 in
theorem gX7_by_X7_isGroup : GoodIn wsX7_by (wsV RX7 109 RX7 yX7_isGroup wsX7_isGroup) := goodIn_app (goodIn_of _ (by decide +kernel)) ggX7_by_X7_isGroup
set_option maxRecDepth 20000 in
theorem ggX7_by_X7_hasIt : GoodIn wsX7_by wsX7_hasIt := goodIn_r _ [18, 5, 6, 31, 32, 33, 34, 35, 36, 37, 38, 39, 40, 41] (by decide +kernel) (by decide +kernel)
set_option maxRecDepth 20000 in
theorem gX7_by_X7_hasIt : GoodIn wsX7_by (wsV RX7 79 RX7 yX7_hasIt wsX7_hasIt) := goodIn_app (goodIn_of _ (by decide +kernel)) ggX7_by_X7_hasIt
set_option maxRecDepth 20000 in
theorem ggX7_by_X7_setOf : GoodIn wsX7_by wsX7_setOf := goodIn_r _ [22, 1, 4, 31, 32, 33, 34, 35, 36, 37, 38, 39, 40, 41] (by decide +kernel) (by decide +kernel)
set_option maxRecDepth 20000 in
theorem gX7_by_X7_setOf : GoodIn wsX7_by (wsV RX7 113 RX7 yX7_setOf wsX7_setOf) := goodIn_app (goodIn_of _ (by decide +kernel)) ggX7_by_X7_setOf
set_option maxRecDepth 20000 in
theorem ggX7_by_X7_newGroup : GoodIn wsX7_by wsX7_newGroup := goodIn_r _ [26, 2, 27, 28, 29, 9, 30, 3, 5, 6, 31, 32, 33, 34, 35, 36, 37, 38, 39, 40, 41] (by decide +kernel) (by decide +kernel)
set_option maxRecDepth 20000 in
theorem gX7_by_X7_newGroup : GoodIn wsX7_by (wsV RX7 106 RX7 yX7_newGroup wsX7_newGroup) := goodIn_app (goodIn_of _ (by decide +kernel)) ggX7_by_X7_newGroup
theorem dX7_by_0 : decode cX7_by 0 = .ok (.iload_n 1, 1) := by decide +kernel
theorem dX7_by_1 : decode cX7_by 1 = .ok (.iconst 0, 1) := by decide +kernel
theorem dX7_by_2 : decode cX7_by 2 = .ok (.iconst 1, 1) := by decide +kernel
theorem dX7_by_3 : decode cX7_by 3 = .ok (.invokestatic 57, 3) := by decide +kernel
theorem dX7_by_6 : decode cX7_by 6 = .ok (.ifCond .eq 27, 3) := by decide +kernel
theorem dX7_by_9 : decode cX7_by 9 = .ok (.aload_n 0, 1) := by decide +kernel
theorem dX7_by_10 : decode cX7_by 10 = .ok (.iload_n 2, 1) := by decide +kernel
theorem dX7_by_11 : decode cX7_by 11 = .ok (.invokevirtual 109, 3) := by decide +kernel
theorem dX7_by_14 : decode cX7_by 14 = .ok (.ifCond .eq 19, 3) := by decide +kernel
theorem dX7_by_17 : decode cX7_by 17 = .ok (.iload_n 3, 1) := by decide +kernel
theorem dX7_by_18 : decode cX7_by 18 = .ok (.iconst 0, 1) := by decide +kernel
theorem dX7_by_19 : decode cX7_by 19 = .ok (.iconst 1, 1) := by decide +kernel
theorem dX7_by_20 : decode cX7_by 20 = .ok (.aload_n 0, 1) := by decide +kernel
theorem dX7_by_21 : decode cX7_by 21 = .ok (.getfield 7, 3) := by decide +kernel
theorem dX7_by_24 : decode cX7_by 24 = .ok (.ishl, 1) := by decide +kernel
theorem dX7_by_25 : decode cX7_by 25 = .ok (.iconst 1, 1) := by decide +kernel
theorem dX7_by_26 : decode cX7_by 26 = .ok (.isub, 1) := by decide +kernel
theorem dX7_by_27 : decode cX7_by 27 = .ok (.invokestatic 57, 3) := by decide +kernel
theorem dX7_by_30 : decode cX7_by 30 = .ok (.ifCond .ne 6, 3) := by decide +kernel
theorem dX7_by_33 : decode cX7_by 33 = .ok (.bipush (-2), 2) := by decide +kernel
theorem dX7_by_35 : decode cX7_by 35 = .ok (.ireturn, 1) := by decide +kernel
theorem dX7_by_36 : decode cX7_by 36 = .ok (.aload_n 0, 1) := by decide +kernel
theorem dX7_by_37 : decode cX7_by 37 = .ok (.getfield 61, 3) := by decide +kernel
theorem dX7_by_40 : decode cX7_by 40 = .ok (.bipush 10, 2) := by decide +kernel
theorem dX7_by_42 : decode cX7_by 42 = .ok (.if_icmp .ne 6, 3) := by decide +kernel
theorem dX7_by_45 : decode cX7_by 45 = .ok (.bipush (-3), 2) := by decide +kernel
theorem dX7_by_47 : decode cX7_by 47 = .ok (.ireturn, 1) := by decide +kernel
theorem dX7_by_48 : decode cX7_by 48 = .ok (.iconst 0, 1) := by decide +kernel
theorem dX7_by_49 : decode cX7_by 49 = .ok (.istore 4, 2) := by decide +kernel
theorem dX7_by_51 : decode cX7_by 51 = .ok (.iload 4, 2) := by decide +kernel
theorem dX7_by_53 : decode cX7_by 53 = .ok (.aload_n 0, 1) := by decide +kernel
theorem dX7_by_54 : decode cX7_by 54 = .ok (.getfield 46, 3) := by decide +kernel
theorem dX7_by_57 : decode cX7_by 57 = .ok (.if_icmp .ge 119, 3) := by decide +kernel
theorem dX7_by_60 : decode cX7_by 60 = .ok (.aload_n 0, 1) := by decide +kernel
theorem dX7_by_61 : decode cX7_by 61 = .ok (.iload_n 2, 1) := by decide +kernel
theorem dX7_by_62 : decode cX7_by 62 = .ok (.iload 4, 2) := by decide +kernel
theorem dX7_by_64 : decode cX7_by 64 = .ok (.invokevirtual 79, 3) := by decide +kernel
theorem dX7_by_67 : decode cX7_by 67 = .ok (.istore 5, 2) := by decide +kernel
theorem dX7_by_69 : decode cX7_by 69 = .ok (.iconst 0, 1) := by decide +kernel
theorem dX7_by_70 : decode cX7_by 70 = .ok (.istore 6, 2) := by decide +kernel
theorem dX7_by_72 : decode cX7_by 72 = .ok (.iload 6, 2) := by decide +kernel
theorem dX7_by_74 : decode cX7_by 74 = .ok (.aload_n 0, 1) := by decide +kernel
theorem dX7_by_75 : decode cX7_by 75 = .ok (.getfield 7, 3) := by decide +kernel
theorem dX7_by_78 : decode cX7_by 78 = .ok (.if_icmp .ge 52, 3) := by decide +kernel
theorem dX7_by_81 : decode cX7_by 81 = .ok (.iload_n 1, 1) := by decide +kernel
theorem dX7_by_82 : decode cX7_by 82 = .ok (.ifCond .ne 48, 3) := by decide +kernel
theorem dX7_by_85 : decode cX7_by 85 = .ok (.iload 5, 2) := by decide +kernel
theorem dX7_by_87 : decode cX7_by 87 = .ok (.ifCond .eq 34, 3) := by decide +kernel
theorem dX7_by_90 : decode cX7_by 90 = .ok (.iload_n 3, 1) := by decide +kernel
theorem dX7_by_91 : decode cX7_by 91 = .ok (.iload 6, 2) := by decide +kernel
theorem dX7_by_93 : decode cX7_by 93 = .ok (.ishr, 1) := by decide +kernel
theorem dX7_by_94 : decode cX7_by 94 = .ok (.iconst 1, 1) := by decide +kernel
theorem dX7_by_95 : decode cX7_by 95 = .ok (.iand, 1) := by decide +kernel
theorem dX7_by_96 : decode cX7_by 96 = .ok (.ifCond .eq 21, 3) := by decide +kernel
theorem dX7_by_99 : decode cX7_by 99 = .ok (.aload_n 0, 1) := by decide +kernel
theorem dX7_by_100 : decode cX7_by 100 = .ok (.getfield 14, 3) := by decide +kernel
theorem dX7_by_103 : decode cX7_by 103 = .ok (.bipush 8, 2) := by decide +kernel
theorem dX7_by_105 : decode cX7_by 105 = .ok (.iload 4, 2) := by decide +kernel
theorem dX7_by_107 : decode cX7_by 107 = .ok (.imul, 1) := by decide +kernel
theorem dX7_by_108 : decode cX7_by 108 = .ok (.iload 6, 2) := by decide +kernel
theorem dX7_by_110 : decode cX7_by 110 = .ok (.iadd, 1) := by decide +kernel
theorem dX7_by_111 : decode cX7_by 111 = .ok (.iaload, 1) := by decide +kernel
theorem dX7_by_112 : decode cX7_by 112 = .ok (.iload 6, 2) := by decide +kernel
theorem dX7_by_114 : decode cX7_by 114 = .ok (.if_icmp .ne 7, 3) := by decide +kernel
theorem dX7_by_117 : decode cX7_by 117 = .ok (.iconst 1, 1) := by decide +kernel
theorem dX7_by_118 : decode cX7_by 118 = .ok (.goto 4, 3) := by decide +kernel
theorem dX7_by_121 : decode cX7_by 121 = .ok (.iconst 0, 1) := by decide +kernel
theorem dX7_by_122 : decode cX7_by 122 = .ok (.istore 5, 2) := by decide +kernel
theorem dX7_by_124 : decode cX7_by 124 = .ok (.iinc 6 1, 3) := by decide +kernel
theorem dX7_by_127 : decode cX7_by 127 = .ok (.goto (-55), 3) := by decide +kernel
theorem dX7_by_130 : decode cX7_by 130 = .ok (.aload_n 0, 1) := by decide +kernel
theorem dX7_by_131 : decode cX7_by 131 = .ok (.getfield 22, 3) := by decide +kernel
theorem dX7_by_134 : decode cX7_by 134 = .ok (.ldc 35, 2) := by decide +kernel
theorem dX7_by_136 : decode cX7_by 136 = .ok (.aload_n 0, 1) := by decide +kernel
theorem dX7_by_137 : decode cX7_by 137 = .ok (.getfield 61, 3) := by decide +kernel
theorem dX7_by_140 : decode cX7_by 140 = .ok (.imul, 1) := by decide +kernel
theorem dX7_by_141 : decode cX7_by 141 = .ok (.iload 4, 2) := by decide +kernel
theorem dX7_by_143 : decode cX7_by 143 = .ok (.iadd, 1) := by decide +kernel
theorem dX7_by_144 : decode cX7_by 144 = .ok (.iload 5, 2) := by decide +kernel
theorem dX7_by_146 : decode cX7_by 146 = .ok (.ifCond .eq 22, 3) := by decide +kernel
theorem dX7_by_149 : decode cX7_by 149 = .ok (.iload_n 1, 1) := by decide +kernel
theorem dX7_by_150 : decode cX7_by 150 = .ok (.ifCond .eq 14, 3) := by decide +kernel
theorem dX7_by_153 : decode cX7_by 153 = .ok (.aload_n 0, 1) := by decide +kernel
theorem dX7_by_154 : decode cX7_by 154 = .ok (.iload 4, 2) := by decide +kernel
theorem dX7_by_156 : decode cX7_by 156 = .ok (.iload_n 3, 1) := by decide +kernel
theorem dX7_by_157 : decode cX7_by 157 = .ok (.invokevirtual 113, 3) := by decide +kernel
theorem dX7_by_160 : decode cX7_by 160 = .ok (.iload_n 3, 1) := by decide +kernel
theorem dX7_by_161 : decode cX7_by 161 = .ok (.if_icmp .ne 7, 3) := by decide +kernel
theorem dX7_by_164 : decode cX7_by 164 = .ok (.iconst 1, 1) := by decide +kernel
theorem dX7_by_165 : decode cX7_by 165 = .ok (.goto 4, 3) := by decide +kernel
theorem dX7_by_168 : decode cX7_by 168 = .ok (.iconst 0, 1) := by decide +kernel
theorem dX7_by_169 : decode cX7_by 169 = .ok (.bastore, 1) := by decide +kernel
theorem dX7_by_170 : decode cX7_by 170 = .ok (.iinc 4 1, 3) := by decide +kernel
theorem dX7_by_173 : decode cX7_by 173 = .ok (.goto (-122), 3) := by decide +kernel
theorem dX7_by_176 : decode cX7_by 176 = .ok (.aload_n 0, 1) := by decide +kernel
theorem dX7_by_177 : decode cX7_by 177 = .ok (.iconst (-1), 1) := by decide +kernel
theorem dX7_by_178 : decode cX7_by 178 = .ok (.invokevirtual 106, 3) := by decide +kernel
theorem dX7_by_181 : decode cX7_by 181 = .ok (.ireturn, 1) := by decide +kernel
set_option maxRecDepth 20000 in
theorem ggX7_made_X7_isIn : GoodIn wsX7_made wsX7_isIn := goodIn_r _ [11] (by decide +kernel) (by decide +kernel)
set_option maxRecDepth 20000 in
theorem gX7_made_X7_isIn : GoodIn wsX7_made (va_wsS RX7 57 yX7_isIn wsX7_isIn) := goodIn_app (goodIn_of _ (by decide +kernel)) ggX7_made_X7_isIn
set_option maxRecDepth 20000 in
theorem ggX7_made_X7_isGroup : GoodIn wsX7_made wsX7_isGroup := goodIn_r _ [15, 1, 8, 9, 10, 11, 73, 74, 75, 76, 77, 78, 79, 80, 81, 82, 83] (by decide +kernel) (by decide +kernel)
set_option maxRecDepth 20000 in
theorem gX7_made_X7_isGroup : GoodIn wsX7_made (wsV RX7 109 RX7 yX7_isGroup wsX7_isGroup) := goodIn_app (goodIn_of _ (by decide +kernel)) ggX7_made_X7_isGroup
set_option maxRecDepth 20000 in
theorem ggX7_made_X7_goDown : GoodIn wsX7_made wsX7_goDown := goodIn_r _ [19, 4, 2, 20, 21, 22, 10, 23, 24, 25, 26, 27, 5, 6, 28, 29, 30, 31, 32, 33, 34, 35, 36, 37, 38, 39, 40, 41, 42, 43, 44, 45, 46, 47, 48, 49, 50, 51, 52, 53, 54, 55, 56, 57, 58, 59, 60, 61, 62, 63, 64, 73, 74, 75, 76, 77, 78, 79, 80, 81, 82, 83] (by decide +kernel) (by decide +kernel)
set_option maxRecDepth 20000 in
theorem gX7_made_X7_goDown : GoodIn wsX7_made (wsV RX7 116 RX7 yX7_goDown wsX7_goDown) := goodIn_app (goodIn_of _ (by decide +kernel)) ggX7_made_X7_goDown
set_option maxRecDepth 20000 in
theorem ggX7_made_X7_newGroup : GoodIn wsX7_made wsX7_newGroup := goodIn_r _ [68, 1, 69, 70, 71, 10, 72, 5, 6, 28, 73, 74, 75, 76, 77, 78, 79, 80, 81, 82, 83] (by decide +kernel) (by decide +kernel)
set_option maxRecDepth 20000 in
theorem gX7_made_X7_newGroup : GoodIn wsX7_made (wsV RX7 106 RX7 yX7_newGroup wsX7_newGroup) := goodIn_app (goodIn_of _ (by decide +kernel)) ggX7_made_X7_newGroup
set_option maxRecDepth 20000 in
theorem ggX7_made_X7_begin : GoodIn wsX7_made wsX7_begin := goodIn_r _ [23, 4, 24, 25, 26, 10, 27, 5, 6, 28, 73, 74, 75, 76, 77, 78, 79, 80, 81, 82, 83] (by decide +kernel) (by decide +kernel)
set_option maxRecDepth 20000 in
theorem gX7_made_X7_begin : GoodIn wsX7_made (wsV RX7 90 RX7 yX7_begin wsX7_begin) := goodIn_app (goodIn_of _ (by decide +kernel)) ggX7_made_X7_begin
set_option maxRecDepth 20000 in
theorem ggX7_made_X7_joinAll : GoodIn wsX7_made wsX7_joinAll := goodIn_r _ [32, 5, 33, 34, 35, 10, 36, 6, 28, 37, 38, 39, 40, 2, 4, 41, 24, 25, 26, 27, 42, 43, 44, 45, 46, 47, 48, 49, 50, 51, 52, 73, 74, 75, 76, 77, 78, 79, 80, 81, 82, 83] (by decide +kernel) (by decide +kernel)
set_option maxRecDepth 20000 in
theorem gX7_made_X7_joinAll : GoodIn wsX7_made (wsV RX7 93 RX7 yX7_joinAll wsX7_joinAll) := goodIn_app (goodIn_of _ (by decide +kernel)) ggX7_made_X7_joinAll
set_option maxRecDepth 20000 in
theorem ggX7_made_X7_clear : GoodIn wsX7_made wsX7_clear := goodIn_r _ [27, 5, 6, 28, 73, 74, 75, 76, 77, 78, 79, 80, 81, 82, 83] (by decide +kernel) (by decide +kernel)
set_option maxRecDepth 20000 in
theorem gX7_made_X7_clear : GoodIn wsX7_made (wsV RX7 75 RX7 yX7_clear wsX7_clear) := goodIn_app (goodIn_of _ (by decide +kernel)) ggX7_made_X7_clear
set_option maxRecDepth 20000 in
theorem ggX7_made_X7_hasIt : GoodIn wsX7_made wsX7_hasIt := goodIn_r _ [36, 6, 28, 73, 74, 75, 76, 77, 78, 79, 80, 81, 82, 83] (by decide +kernel) (by decide +kernel)
set_option maxRecDepth 20000 in
theorem gX7_made_X7_hasIt : GoodIn wsX7_made (wsV RX7 79 RX7 yX7_hasIt wsX7_hasIt) := goodIn_app (goodIn_of _ (by decide +kernel)) ggX7_made_X7_hasIt
set_option maxRecDepth 20000 in
theorem ggX7_made_X7_carried : GoodIn wsX7_made wsX7_carried := goodIn_r _ [64, 46, 47, 48, 49, 50, 51, 10, 52, 73, 74, 75, 76, 77, 78, 79, 80, 81, 82, 83] (by decide +kernel) (by decide +kernel)
set_option maxRecDepth 20000 in
theorem gX7_made_X7_carried : GoodIn wsX7_made (wsV RX7 87 RX7 yX7_carried wsX7_carried) := goodIn_app (goodIn_of _ (by decide +kernel)) ggX7_made_X7_carried
set_option maxRecDepth 20000 in
theorem ggX7_made_X7_oneThen : GoodIn wsX7_made wsX7_oneThen := goodIn_r _ [45, 46, 47, 48, 49, 50, 51, 10, 52, 73, 74, 75, 76, 77, 78, 79, 80, 81, 82, 83] (by decide +kernel) (by decide +kernel)
set_option maxRecDepth 20000 in
theorem gX7_made_X7_oneThen : GoodIn wsX7_made (wsV RX7 53 RX7 yX7_oneThen wsX7_oneThen) := goodIn_app (goodIn_of _ (by decide +kernel)) ggX7_made_X7_oneThen
theorem dX7_made_0 : decode cX7_made 0 = .ok (.iload_n 1, 1) := by decide +kernel
theorem dX7_made_1 : decode cX7_made 1 = .ok (.iconst 0, 1) := by decide +kernel
theorem dX7_made_2 : decode cX7_made 2 = .ok (.iconst 3, 1) := by decide +kernel
theorem dX7_made_3 : decode cX7_made 3 = .ok (.invokestatic 57, 3) := by decide +kernel
theorem dX7_made_6 : decode cX7_made 6 = .ok (.ifCond .eq 11, 3) := by decide +kernel
theorem dX7_made_9 : decode cX7_made 9 = .ok (.aload_n 0, 1) := by decide +kernel
theorem dX7_made_10 : decode cX7_made 10 = .ok (.iload_n 2, 1) := by decide +kernel
theorem dX7_made_11 : decode cX7_made 11 = .ok (.invokevirtual 109, 3) := by decide +kernel
theorem dX7_made_14 : decode cX7_made 14 = .ok (.ifCond .ne 6, 3) := by decide +kernel
theorem dX7_made_17 : decode cX7_made 17 = .ok (.bipush (-2), 2) := by decide +kernel
theorem dX7_made_19 : decode cX7_made 19 = .ok (.ireturn, 1) := by decide +kernel
theorem dX7_made_20 : decode cX7_made 20 = .ok (.aload_n 0, 1) := by decide +kernel
theorem dX7_made_21 : decode cX7_made 21 = .ok (.getfield 61, 3) := by decide +kernel
theorem dX7_made_24 : decode cX7_made 24 = .ok (.bipush 10, 2) := by decide +kernel
theorem dX7_made_26 : decode cX7_made 26 = .ok (.if_icmp .ne 6, 3) := by decide +kernel
theorem dX7_made_29 : decode cX7_made 29 = .ok (.bipush (-3), 2) := by decide +kernel
theorem dX7_made_31 : decode cX7_made 31 = .ok (.ireturn, 1) := by decide +kernel
theorem dX7_made_32 : decode cX7_made 32 = .ok (.iload_n 1, 1) := by decide +kernel
theorem dX7_made_33 : decode cX7_made 33 = .ok (.iconst 3, 1) := by decide +kernel
theorem dX7_made_34 : decode cX7_made 34 = .ok (.if_icmp .ne 15, 3) := by decide +kernel
theorem dX7_made_37 : decode cX7_made 37 = .ok (.aload_n 0, 1) := by decide +kernel
theorem dX7_made_38 : decode cX7_made 38 = .ok (.iload_n 2, 1) := by decide +kernel
theorem dX7_made_39 : decode cX7_made 39 = .ok (.invokevirtual 116, 3) := by decide +kernel
theorem dX7_made_42 : decode cX7_made 42 = .ok (.aload_n 0, 1) := by decide +kernel
theorem dX7_made_43 : decode cX7_made 43 = .ok (.bipush 11, 2) := by decide +kernel
theorem dX7_made_45 : decode cX7_made 45 = .ok (.invokevirtual 106, 3) := by decide +kernel
theorem dX7_made_48 : decode cX7_made 48 = .ok (.ireturn, 1) := by decide +kernel
theorem dX7_made_49 : decode cX7_made 49 = .ok (.aload_n 0, 1) := by decide +kernel
theorem dX7_made_50 : decode cX7_made 50 = .ok (.bipush 10, 2) := by decide +kernel
theorem dX7_made_52 : decode cX7_made 52 = .ok (.invokevirtual 90, 3) := by decide +kernel
theorem dX7_made_55 : decode cX7_made 55 = .ok (.iload_n 1, 1) := by decide +kernel
theorem dX7_made_56 : decode cX7_made 56 = .ok (.ifCond .ne 26, 3) := by decide +kernel
theorem dX7_made_59 : decode cX7_made 59 = .ok (.aload_n 0, 1) := by decide +kernel
theorem dX7_made_60 : decode cX7_made 60 = .ok (.getfield 29, 3) := by decide +kernel
theorem dX7_made_63 : decode cX7_made 63 = .ok (.sipush 320, 3) := by decide +kernel
theorem dX7_made_66 : decode cX7_made 66 = .ok (.aload_n 0, 1) := by decide +kernel
theorem dX7_made_67 : decode cX7_made 67 = .ok (.getfield 64, 3) := by decide +kernel
theorem dX7_made_70 : decode cX7_made 70 = .ok (.iastore, 1) := by decide +kernel
theorem dX7_made_71 : decode cX7_made 71 = .ok (.aload_n 0, 1) := by decide +kernel
theorem dX7_made_72 : decode cX7_made 72 = .ok (.getfield 32, 3) := by decide +kernel
theorem dX7_made_75 : decode cX7_made 75 = .ok (.bipush 10, 2) := by decide +kernel
theorem dX7_made_77 : decode cX7_made 77 = .ok (.iconst 1, 1) := by decide +kernel
theorem dX7_made_78 : decode cX7_made 78 = .ok (.iastore, 1) := by decide +kernel
theorem dX7_made_79 : decode cX7_made 79 = .ok (.goto 15, 3) := by decide +kernel
theorem dX7_made_82 : decode cX7_made 82 = .ok (.iload_n 1, 1) := by decide +kernel
theorem dX7_made_83 : decode cX7_made 83 = .ok (.iconst 1, 1) := by decide +kernel
theorem dX7_made_84 : decode cX7_made 84 = .ok (.if_icmp .ne 10, 3) := by decide +kernel
theorem dX7_made_87 : decode cX7_made 87 = .ok (.aload_n 0, 1) := by decide +kernel
theorem dX7_made_88 : decode cX7_made 88 = .ok (.bipush 10, 2) := by decide +kernel
theorem dX7_made_90 : decode cX7_made 90 = .ok (.iload_n 2, 1) := by decide +kernel
theorem dX7_made_91 : decode cX7_made 91 = .ok (.invokevirtual 93, 3) := by decide +kernel
theorem dX7_made_94 : decode cX7_made 94 = .ok (.aload_n 0, 1) := by decide +kernel
theorem dX7_made_95 : decode cX7_made 95 = .ok (.bipush 12, 2) := by decide +kernel
theorem dX7_made_97 : decode cX7_made 97 = .ok (.invokevirtual 75, 3) := by decide +kernel
theorem dX7_made_100 : decode cX7_made 100 = .ok (.iconst 0, 1) := by decide +kernel
theorem dX7_made_101 : decode cX7_made 101 = .ok (.istore_n 3, 1) := by decide +kernel
theorem dX7_made_102 : decode cX7_made 102 = .ok (.iload_n 3, 1) := by decide +kernel
theorem dX7_made_103 : decode cX7_made 103 = .ok (.aload_n 0, 1) := by decide +kernel
theorem dX7_made_104 : decode cX7_made 104 = .ok (.getfield 46, 3) := by decide +kernel
theorem dX7_made_107 : decode cX7_made 107 = .ok (.if_icmp .ge 130, 3) := by decide +kernel
theorem dX7_made_110 : decode cX7_made 110 = .ok (.aload_n 0, 1) := by decide +kernel
theorem dX7_made_111 : decode cX7_made 111 = .ok (.iload_n 2, 1) := by decide +kernel
theorem dX7_made_112 : decode cX7_made 112 = .ok (.iload_n 3, 1) := by decide +kernel
theorem dX7_made_113 : decode cX7_made 113 = .ok (.invokevirtual 79, 3) := by decide +kernel
theorem dX7_made_116 : decode cX7_made 116 = .ok (.ifCond .eq 29, 3) := by decide +kernel
theorem dX7_made_119 : decode cX7_made 119 = .ok (.iload_n 1, 1) := by decide +kernel
theorem dX7_made_120 : decode cX7_made 120 = .ok (.iconst 2, 1) := by decide +kernel
theorem dX7_made_121 : decode cX7_made 121 = .ok (.if_icmp .ne 24, 3) := by decide +kernel
theorem dX7_made_124 : decode cX7_made 124 = .ok (.aload_n 0, 1) := by decide +kernel
theorem dX7_made_125 : decode cX7_made 125 = .ok (.getfield 22, 3) := by decide +kernel
theorem dX7_made_128 : decode cX7_made 128 = .ok (.ldc 119, 2) := by decide +kernel
theorem dX7_made_130 : decode cX7_made 130 = .ok (.aload_n 0, 1) := by decide +kernel
theorem dX7_made_131 : decode cX7_made 131 = .ok (.iload_n 3, 1) := by decide +kernel
theorem dX7_made_132 : decode cX7_made 132 = .ok (.aload_n 0, 1) := by decide +kernel
theorem dX7_made_133 : decode cX7_made 133 = .ok (.getfield 64, 3) := by decide +kernel
theorem dX7_made_136 : decode cX7_made 136 = .ok (.invokevirtual 87, 3) := by decide +kernel
theorem dX7_made_139 : decode cX7_made 139 = .ok (.iadd, 1) := by decide +kernel
theorem dX7_made_140 : decode cX7_made 140 = .ok (.iconst 1, 1) := by decide +kernel
theorem dX7_made_141 : decode cX7_made 141 = .ok (.bastore, 1) := by decide +kernel
theorem dX7_made_142 : decode cX7_made 142 = .ok (.goto 89, 3) := by decide +kernel
theorem dX7_made_145 : decode cX7_made 145 = .ok (.aload_n 0, 1) := by decide +kernel
theorem dX7_made_146 : decode cX7_made 146 = .ok (.iload_n 2, 1) := by decide +kernel
theorem dX7_made_147 : decode cX7_made 147 = .ok (.iload_n 3, 1) := by decide +kernel
theorem dX7_made_148 : decode cX7_made 148 = .ok (.invokevirtual 79, 3) := by decide +kernel
theorem dX7_made_151 : decode cX7_made 151 = .ok (.ifCond .eq 80, 3) := by decide +kernel
theorem dX7_made_154 : decode cX7_made 154 = .ok (.iconst 1, 1) := by decide +kernel
theorem dX7_made_155 : decode cX7_made 155 = .ok (.istore 4, 2) := by decide +kernel
theorem dX7_made_157 : decode cX7_made 157 = .ok (.iconst 0, 1) := by decide +kernel
theorem dX7_made_158 : decode cX7_made 158 = .ok (.istore 5, 2) := by decide +kernel
theorem dX7_made_160 : decode cX7_made 160 = .ok (.iload 5, 2) := by decide +kernel
theorem dX7_made_162 : decode cX7_made 162 = .ok (.aload_n 0, 1) := by decide +kernel
theorem dX7_made_163 : decode cX7_made 163 = .ok (.getfield 32, 3) := by decide +kernel
theorem dX7_made_166 : decode cX7_made 166 = .ok (.bipush 10, 2) := by decide +kernel
theorem dX7_made_168 : decode cX7_made 168 = .ok (.iaload, 1) := by decide +kernel
theorem dX7_made_169 : decode cX7_made 169 = .ok (.if_icmp .ge 51, 3) := by decide +kernel
theorem dX7_made_172 : decode cX7_made 172 = .ok (.iload 4, 2) := by decide +kernel
theorem dX7_made_174 : decode cX7_made 174 = .ok (.ifCond .eq 46, 3) := by decide +kernel
theorem dX7_made_177 : decode cX7_made 177 = .ok (.aload_n 0, 1) := by decide +kernel
theorem dX7_made_178 : decode cX7_made 178 = .ok (.getfield 29, 3) := by decide +kernel
theorem dX7_made_181 : decode cX7_made 181 = .ok (.sipush 320, 3) := by decide +kernel
theorem dX7_made_184 : decode cX7_made 184 = .ok (.iload 5, 2) := by decide +kernel
theorem dX7_made_186 : decode cX7_made 186 = .ok (.iadd, 1) := by decide +kernel
theorem dX7_made_187 : decode cX7_made 187 = .ok (.iaload, 1) := by decide +kernel
theorem dX7_made_188 : decode cX7_made 188 = .ok (.istore 6, 2) := by decide +kernel
theorem dX7_made_190 : decode cX7_made 190 = .ok (.aload_n 0, 1) := by decide +kernel
theorem dX7_made_191 : decode cX7_made 191 = .ok (.iload_n 3, 1) := by decide +kernel
theorem dX7_made_192 : decode cX7_made 192 = .ok (.iload 6, 2) := by decide +kernel
theorem dX7_made_194 : decode cX7_made 194 = .ok (.invokevirtual 53, 3) := by decide +kernel
theorem dX7_made_197 : decode cX7_made 197 = .ok (.aload_n 0, 1) := by decide +kernel
theorem dX7_made_198 : decode cX7_made 198 = .ok (.iload 6, 2) := by decide +kernel
theorem dX7_made_200 : decode cX7_made 200 = .ok (.iload_n 3, 1) := by decide +kernel
theorem dX7_made_201 : decode cX7_made 201 = .ok (.invokevirtual 53, 3) := by decide +kernel
theorem dX7_made_204 : decode cX7_made 204 = .ok (.if_icmp .ne 7, 3) := by decide +kernel
theorem dX7_made_207 : decode cX7_made 207 = .ok (.iconst 1, 1) := by decide +kernel
theorem dX7_made_208 : decode cX7_made 208 = .ok (.goto 4, 3) := by decide +kernel
theorem dX7_made_211 : decode cX7_made 211 = .ok (.iconst 0, 1) := by decide +kernel
theorem dX7_made_212 : decode cX7_made 212 = .ok (.istore 4, 2) := by decide +kernel
theorem dX7_made_214 : decode cX7_made 214 = .ok (.iinc 5 1, 3) := by decide +kernel
theorem dX7_made_217 : decode cX7_made 217 = .ok (.goto (-57), 3) := by decide +kernel
theorem dX7_made_220 : decode cX7_made 220 = .ok (.aload_n 0, 1) := by decide +kernel
theorem dX7_made_221 : decode cX7_made 221 = .ok (.getfield 22, 3) := by decide +kernel
theorem dX7_made_224 : decode cX7_made 224 = .ok (.ldc 119, 2) := by decide +kernel
theorem dX7_made_226 : decode cX7_made 226 = .ok (.iload_n 3, 1) := by decide +kernel
theorem dX7_made_227 : decode cX7_made 227 = .ok (.iadd, 1) := by decide +kernel
theorem dX7_made_228 : decode cX7_made 228 = .ok (.iload 4, 2) := by decide +kernel
theorem dX7_made_230 : decode cX7_made 230 = .ok (.bastore, 1) := by decide +kernel
theorem dX7_made_231 : decode cX7_made 231 = .ok (.iinc 3 1, 3) := by decide +kernel
theorem dX7_made_234 : decode cX7_made 234 = .ok (.goto (-132), 3) := by decide +kernel
theorem dX7_made_237 : decode cX7_made 237 = .ok (.aload_n 0, 1) := by decide +kernel
theorem dX7_made_238 : decode cX7_made 238 = .ok (.bipush 12, 2) := by decide +kernel
theorem dX7_made_240 : decode cX7_made 240 = .ok (.invokevirtual 106, 3) := by decide +kernel
theorem dX7_made_243 : decode cX7_made 243 = .ok (.ireturn, 1) := by decide +kernel
theorem dX7_undo_0 : decode cX7_undo 0 = .ok (.aload_n 0, 1) := by decide +kernel
theorem dX7_undo_1 : decode cX7_undo 1 = .ok (.getfield 61, 3) := by decide +kernel
theorem dX7_undo_4 : decode cX7_undo 4 = .ok (.ifCond .ne 5, 3) := by decide +kernel
theorem dX7_undo_7 : decode cX7_undo 7 = .ok (.iconst (-1), 1) := by decide +kernel
theorem dX7_undo_8 : decode cX7_undo 8 = .ok (.ireturn, 1) := by decide +kernel
theorem dX7_undo_9 : decode cX7_undo 9 = .ok (.aload_n 0, 1) := by decide +kernel
theorem dX7_undo_10 : decode cX7_undo 10 = .ok (.dup, 1) := by decide +kernel
theorem dX7_undo_11 : decode cX7_undo 11 = .ok (.getfield 61, 3) := by decide +kernel
theorem dX7_undo_14 : decode cX7_undo 14 = .ok (.iconst 1, 1) := by decide +kernel
theorem dX7_undo_15 : decode cX7_undo 15 = .ok (.isub, 1) := by decide +kernel
theorem dX7_undo_16 : decode cX7_undo 16 = .ok (.putfield 61, 3) := by decide +kernel
theorem dX7_undo_19 : decode cX7_undo 19 = .ok (.aload_n 0, 1) := by decide +kernel
theorem dX7_undo_20 : decode cX7_undo 20 = .ok (.getfield 61, 3) := by decide +kernel
theorem dX7_undo_23 : decode cX7_undo 23 = .ok (.ireturn, 1) := by decide +kernel
set_option maxRecDepth 20000 in
theorem ggX7_sizeOf_X7_hasIt : GoodIn wsX7_sizeOf wsX7_hasIt := goodIn_r _ [6, 7, 8, 9, 10, 11, 12, 13, 14, 15, 16, 17, 18, 19] (by decide +kernel) (by decide +kernel)
set_option maxRecDepth 20000 in
theorem gX7_sizeOf_X7_hasIt : GoodIn wsX7_sizeOf (wsV RX7 79 RX7 yX7_hasIt wsX7_hasIt) := goodIn_app (goodIn_of _ (by decide +kernel)) ggX7_sizeOf_X7_hasIt
theorem dX7_sizeOf_0 : decode cX7_sizeOf 0 = .ok (.iconst 0, 1) := by decide +kernel
theorem dX7_sizeOf_1 : decode cX7_sizeOf 1 = .ok (.istore_n 2, 1) := by decide +kernel
theorem dX7_sizeOf_2 : decode cX7_sizeOf 2 = .ok (.iconst 0, 1) := by decide +kernel
theorem dX7_sizeOf_3 : decode cX7_sizeOf 3 = .ok (.istore_n 3, 1) := by decide +kernel
theorem dX7_sizeOf_4 : decode cX7_sizeOf 4 = .ok (.iload_n 3, 1) := by decide +kernel
theorem dX7_sizeOf_5 : decode cX7_sizeOf 5 = .ok (.aload_n 0, 1) := by decide +kernel
theorem dX7_sizeOf_6 : decode cX7_sizeOf 6 = .ok (.getfield 46, 3) := by decide +kernel
theorem dX7_sizeOf_9 : decode cX7_sizeOf 9 = .ok (.if_icmp .ge 26, 3) := by decide +kernel
theorem dX7_sizeOf_12 : decode cX7_sizeOf 12 = .ok (.iload_n 2, 1) := by decide +kernel
theorem dX7_sizeOf_13 : decode cX7_sizeOf 13 = .ok (.aload_n 0, 1) := by decide +kernel
theorem dX7_sizeOf_14 : decode cX7_sizeOf 14 = .ok (.iload_n 1, 1) := by decide +kernel
theorem dX7_sizeOf_15 : decode cX7_sizeOf 15 = .ok (.iload_n 3, 1) := by decide +kernel
theorem dX7_sizeOf_16 : decode cX7_sizeOf 16 = .ok (.invokevirtual 79, 3) := by decide +kernel
theorem dX7_sizeOf_19 : decode cX7_sizeOf 19 = .ok (.ifCond .eq 7, 3) := by decide +kernel
theorem dX7_sizeOf_22 : decode cX7_sizeOf 22 = .ok (.iconst 1, 1) := by decide +kernel
theorem dX7_sizeOf_23 : decode cX7_sizeOf 23 = .ok (.goto 4, 3) := by decide +kernel
theorem dX7_sizeOf_26 : decode cX7_sizeOf 26 = .ok (.iconst 0, 1) := by decide +kernel
theorem dX7_sizeOf_27 : decode cX7_sizeOf 27 = .ok (.iadd, 1) := by decide +kernel
theorem dX7_sizeOf_28 : decode cX7_sizeOf 28 = .ok (.istore_n 2, 1) := by decide +kernel
theorem dX7_sizeOf_29 : decode cX7_sizeOf 29 = .ok (.iinc 3 1, 3) := by decide +kernel
theorem dX7_sizeOf_32 : decode cX7_sizeOf 32 = .ok (.goto (-28), 3) := by decide +kernel
theorem dX7_sizeOf_35 : decode cX7_sizeOf 35 = .ok (.iload_n 2, 1) := by decide +kernel
theorem dX7_sizeOf_36 : decode cX7_sizeOf 36 = .ok (.ireturn, 1) := by decide +kernel
set_option maxRecDepth 20000 in
theorem ggX7_size_X7_isGroup : GoodIn wsX7_size wsX7_isGroup := goodIn_r _ [5, 6, 7, 8, 4, 9, 21, 22, 23, 24, 25, 26, 27, 28, 29, 30, 31] (by decide +kernel) (by decide +kernel)
set_option maxRecDepth 20000 in
theorem gX7_size_X7_isGroup : GoodIn wsX7_size (wsV RX7 109 RX7 yX7_isGroup wsX7_isGroup) := goodIn_app (goodIn_of _ (by decide +kernel)) ggX7_size_X7_isGroup
set_option maxRecDepth 20000 in
theorem ggX7_size_X7_sizeOf : GoodIn wsX7_size wsX7_sizeOf := goodIn_r _ [13, 14, 15, 16, 17, 4, 18, 19, 20, 21, 22, 23, 24, 25, 26, 27, 28, 29, 30, 31] (by decide +kernel) (by decide +kernel)
set_option maxRecDepth 20000 in
theorem gX7_size_X7_sizeOf : GoodIn wsX7_size (wsV RX7 120 RX7 yX7_sizeOf wsX7_sizeOf) := goodIn_app (goodIn_of _ (by decide +kernel)) ggX7_size_X7_sizeOf
theorem dX7_size_0 : decode cX7_size 0 = .ok (.aload_n 0, 1) := by decide +kernel
theorem dX7_size_1 : decode cX7_size 1 = .ok (.iload_n 1, 1) := by decide +kernel
theorem dX7_size_2 : decode cX7_size 2 = .ok (.invokevirtual 109, 3) := by decide +kernel
theorem dX7_size_5 : decode cX7_size 5 = .ok (.ifCond .eq 11, 3) := by decide +kernel
theorem dX7_size_8 : decode cX7_size 8 = .ok (.aload_n 0, 1) := by decide +kernel
theorem dX7_size_9 : decode cX7_size 9 = .ok (.iload_n 1, 1) := by decide +kernel
theorem dX7_size_10 : decode cX7_size 10 = .ok (.invokevirtual 120, 3) := by decide +kernel
theorem dX7_size_13 : decode cX7_size 13 = .ok (.goto 5, 3) := by decide +kernel
theorem dX7_size_16 : decode cX7_size 16 = .ok (.bipush (-2), 2) := by decide +kernel
theorem dX7_size_18 : decode cX7_size 18 = .ok (.ireturn, 1) := by decide +kernel
set_option maxRecDepth 20000 in
theorem ggX7_has_X7_isGroup : GoodIn wsX7_has wsX7_isGroup := goodIn_r _ [6, 7, 8, 9, 5, 10, 17, 18, 19, 20, 21, 22, 23, 24, 25, 26, 27] (by decide +kernel) (by decide +kernel)
set_option maxRecDepth 20000 in
theorem gX7_has_X7_isGroup : GoodIn wsX7_has (wsV RX7 109 RX7 yX7_isGroup wsX7_isGroup) := goodIn_app (goodIn_of _ (by decide +kernel)) ggX7_has_X7_isGroup
set_option maxRecDepth 20000 in
theorem ggX7_has_X7_hasIt : GoodIn wsX7_has wsX7_hasIt := goodIn_r _ [14, 15, 16, 17, 18, 19, 20, 21, 22, 23, 24, 25, 26, 27] (by decide +kernel) (by decide +kernel)
set_option maxRecDepth 20000 in
theorem gX7_has_X7_hasIt : GoodIn wsX7_has (wsV RX7 79 RX7 yX7_hasIt wsX7_hasIt) := goodIn_app (goodIn_of _ (by decide +kernel)) ggX7_has_X7_hasIt
theorem dX7_has_0 : decode cX7_has 0 = .ok (.aload_n 0, 1) := by decide +kernel
theorem dX7_has_1 : decode cX7_has 1 = .ok (.iload_n 1, 1) := by decide +kernel
theorem dX7_has_2 : decode cX7_has 2 = .ok (.invokevirtual 109, 3) := by decide +kernel
theorem dX7_has_5 : decode cX7_has 5 = .ok (.ifCond .ne 8, 3) := by decide +kernel
theorem dX7_has_8 : decode cX7_has 8 = .ok (.bipush (-2), 2) := by decide +kernel
theorem dX7_has_10 : decode cX7_has 10 = .ok (.goto 20, 3) := by decide +kernel
theorem dX7_has_13 : decode cX7_has 13 = .ok (.aload_n 0, 1) := by decide +kernel
theorem dX7_has_14 : decode cX7_has 14 = .ok (.iload_n 1, 1) := by decide +kernel
theorem dX7_has_15 : decode cX7_has 15 = .ok (.aload_n 0, 1) := by decide +kernel
theorem dX7_has_16 : decode cX7_has 16 = .ok (.getfield 64, 3) := by decide +kernel
theorem dX7_has_19 : decode cX7_has 19 = .ok (.invokevirtual 79, 3) := by decide +kernel
theorem dX7_has_22 : decode cX7_has 22 = .ok (.ifCond .eq 7, 3) := by decide +kernel
theorem dX7_has_25 : decode cX7_has 25 = .ok (.iconst 1, 1) := by decide +kernel
theorem dX7_has_26 : decode cX7_has 26 = .ok (.goto 4, 3) := by decide +kernel
theorem dX7_has_29 : decode cX7_has 29 = .ok (.iconst 0, 1) := by decide +kernel
theorem dX7_has_30 : decode cX7_has 30 = .ok (.ireturn, 1) := by decide +kernel
set_option maxRecDepth 20000 in
theorem ggX7_isWithin_X7_hasIt : GoodIn wsX7_isWithin wsX7_hasIt := goodIn_r _ [6, 7, 8, 9, 10, 11, 12, 13, 14, 15, 16, 17, 18, 19] (by decide +kernel) (by decide +kernel)
set_option maxRecDepth 20000 in
theorem gX7_isWithin_X7_hasIt : GoodIn wsX7_isWithin (wsV RX7 79 RX7 yX7_hasIt wsX7_hasIt) := goodIn_app (goodIn_of _ (by decide +kernel)) ggX7_isWithin_X7_hasIt
theorem dX7_isWithin_0 : decode cX7_isWithin 0 = .ok (.iconst 1, 1) := by decide +kernel
theorem dX7_isWithin_1 : decode cX7_isWithin 1 = .ok (.istore_n 3, 1) := by decide +kernel
theorem dX7_isWithin_2 : decode cX7_isWithin 2 = .ok (.iconst 0, 1) := by decide +kernel
theorem dX7_isWithin_3 : decode cX7_isWithin 3 = .ok (.istore 4, 2) := by decide +kernel
theorem dX7_isWithin_5 : decode cX7_isWithin 5 = .ok (.iload 4, 2) := by decide +kernel
theorem dX7_isWithin_7 : decode cX7_isWithin 7 = .ok (.aload_n 0, 1) := by decide +kernel
theorem dX7_isWithin_8 : decode cX7_isWithin 8 = .ok (.getfield 46, 3) := by decide +kernel
theorem dX7_isWithin_11 : decode cX7_isWithin 11 = .ok (.if_icmp .ge 39, 3) := by decide +kernel
theorem dX7_isWithin_14 : decode cX7_isWithin 14 = .ok (.iload_n 3, 1) := by decide +kernel
theorem dX7_isWithin_15 : decode cX7_isWithin 15 = .ok (.ifCond .eq 35, 3) := by decide +kernel
theorem dX7_isWithin_18 : decode cX7_isWithin 18 = .ok (.aload_n 0, 1) := by decide +kernel
theorem dX7_isWithin_19 : decode cX7_isWithin 19 = .ok (.iload_n 1, 1) := by decide +kernel
theorem dX7_isWithin_20 : decode cX7_isWithin 20 = .ok (.iload 4, 2) := by decide +kernel
theorem dX7_isWithin_22 : decode cX7_isWithin 22 = .ok (.invokevirtual 79, 3) := by decide +kernel
theorem dX7_isWithin_25 : decode cX7_isWithin 25 = .ok (.ifCond .eq 13, 3) := by decide +kernel
theorem dX7_isWithin_28 : decode cX7_isWithin 28 = .ok (.aload_n 0, 1) := by decide +kernel
theorem dX7_isWithin_29 : decode cX7_isWithin 29 = .ok (.iload_n 2, 1) := by decide +kernel
theorem dX7_isWithin_30 : decode cX7_isWithin 30 = .ok (.iload 4, 2) := by decide +kernel
theorem dX7_isWithin_32 : decode cX7_isWithin 32 = .ok (.invokevirtual 79, 3) := by decide +kernel
theorem dX7_isWithin_35 : decode cX7_isWithin 35 = .ok (.ifCond .eq 7, 3) := by decide +kernel
theorem dX7_isWithin_38 : decode cX7_isWithin 38 = .ok (.iconst 1, 1) := by decide +kernel
theorem dX7_isWithin_39 : decode cX7_isWithin 39 = .ok (.goto 4, 3) := by decide +kernel
theorem dX7_isWithin_42 : decode cX7_isWithin 42 = .ok (.iconst 0, 1) := by decide +kernel
theorem dX7_isWithin_43 : decode cX7_isWithin 43 = .ok (.istore_n 3, 1) := by decide +kernel
theorem dX7_isWithin_44 : decode cX7_isWithin 44 = .ok (.iinc 4 1, 3) := by decide +kernel
theorem dX7_isWithin_47 : decode cX7_isWithin 47 = .ok (.goto (-42), 3) := by decide +kernel
theorem dX7_isWithin_50 : decode cX7_isWithin 50 = .ok (.iload_n 3, 1) := by decide +kernel
theorem dX7_isWithin_51 : decode cX7_isWithin 51 = .ok (.ireturn, 1) := by decide +kernel
set_option maxRecDepth 20000 in
theorem ggX7_isNormal_X7_begin : GoodIn wsX7_isNormal wsX7_begin := goodIn_r _ [7, 1, 8, 9, 10, 6, 11, 12, 13, 14, 43, 44, 45, 46, 47, 48, 49, 50, 51, 52, 53] (by decide +kernel) (by decide +kernel)
set_option maxRecDepth 20000 in
theorem gX7_isNormal_X7_begin : GoodIn wsX7_isNormal (wsV RX7 90 RX7 yX7_begin wsX7_begin) := goodIn_app (goodIn_of _ (by decide +kernel)) ggX7_isNormal_X7_begin
set_option maxRecDepth 20000 in
theorem ggX7_isNormal_X7_joinAll : GoodIn wsX7_isNormal wsX7_joinAll := goodIn_r _ [18, 12, 19, 20, 21, 6, 22, 13, 14, 23, 24, 25, 26, 2, 1, 27, 8, 9, 10, 11, 28, 29, 30, 31, 32, 33, 34, 35, 36, 37, 38, 43, 44, 45, 46, 47, 48, 49, 50, 51, 52, 53] (by decide +kernel) (by decide +kernel)
set_option maxRecDepth 20000 in
theorem gX7_isNormal_X7_joinAll : GoodIn wsX7_isNormal (wsV RX7 93 RX7 yX7_joinAll wsX7_joinAll) := goodIn_app (goodIn_of _ (by decide +kernel)) ggX7_isNormal_X7_joinAll
set_option maxRecDepth 20000 in
theorem ggX7_isNormal_X7_carried : GoodIn wsX7_isNormal wsX7_carried := goodIn_r _ [42, 32, 33, 34, 35, 36, 37, 6, 38, 43, 44, 45, 46, 47, 48, 49, 50, 51, 52, 53] (by decide +kernel) (by decide +kernel)
set_option maxRecDepth 20000 in
theorem gX7_isNormal_X7_carried : GoodIn wsX7_isNormal (wsV RX7 87 RX7 yX7_carried wsX7_carried) := goodIn_app (goodIn_of _ (by decide +kernel)) ggX7_isNormal_X7_carried
set_option maxRecDepth 20000 in
theorem ggX7_isNormal_X7_hasIt : GoodIn wsX7_isNormal wsX7_hasIt := goodIn_r _ [22, 13, 14, 43, 44, 45, 46, 47, 48, 49, 50, 51, 52, 53] (by decide +kernel) (by decide +kernel)
set_option maxRecDepth 20000 in
theorem gX7_isNormal_X7_hasIt : GoodIn wsX7_isNormal (wsV RX7 79 RX7 yX7_hasIt wsX7_hasIt) := goodIn_app (goodIn_of _ (by decide +kernel)) ggX7_isNormal_X7_hasIt
theorem dX7_isNormal_0 : decode cX7_isNormal 0 = .ok (.aload_n 0, 1) := by decide +kernel
theorem dX7_isNormal_1 : decode cX7_isNormal 1 = .ok (.bipush 10, 2) := by decide +kernel
theorem dX7_isNormal_3 : decode cX7_isNormal 3 = .ok (.invokevirtual 90, 3) := by decide +kernel
theorem dX7_isNormal_6 : decode cX7_isNormal 6 = .ok (.aload_n 0, 1) := by decide +kernel
theorem dX7_isNormal_7 : decode cX7_isNormal 7 = .ok (.bipush 10, 2) := by decide +kernel
theorem dX7_isNormal_9 : decode cX7_isNormal 9 = .ok (.iload_n 1, 1) := by decide +kernel
theorem dX7_isNormal_10 : decode cX7_isNormal 10 = .ok (.invokevirtual 93, 3) := by decide +kernel
theorem dX7_isNormal_13 : decode cX7_isNormal 13 = .ok (.aload_n 0, 1) := by decide +kernel
theorem dX7_isNormal_14 : decode cX7_isNormal 14 = .ok (.bipush 11, 2) := by decide +kernel
theorem dX7_isNormal_16 : decode cX7_isNormal 16 = .ok (.invokevirtual 90, 3) := by decide +kernel
theorem dX7_isNormal_19 : decode cX7_isNormal 19 = .ok (.aload_n 0, 1) := by decide +kernel
theorem dX7_isNormal_20 : decode cX7_isNormal 20 = .ok (.bipush 11, 2) := by decide +kernel
theorem dX7_isNormal_22 : decode cX7_isNormal 22 = .ok (.iload_n 2, 1) := by decide +kernel
theorem dX7_isNormal_23 : decode cX7_isNormal 23 = .ok (.invokevirtual 93, 3) := by decide +kernel
theorem dX7_isNormal_26 : decode cX7_isNormal 26 = .ok (.iconst 1, 1) := by decide +kernel
theorem dX7_isNormal_27 : decode cX7_isNormal 27 = .ok (.istore_n 3, 1) := by decide +kernel
theorem dX7_isNormal_28 : decode cX7_isNormal 28 = .ok (.iconst 0, 1) := by decide +kernel
theorem dX7_isNormal_29 : decode cX7_isNormal 29 = .ok (.istore 4, 2) := by decide +kernel
theorem dX7_isNormal_31 : decode cX7_isNormal 31 = .ok (.iload 4, 2) := by decide +kernel
theorem dX7_isNormal_33 : decode cX7_isNormal 33 = .ok (.aload_n 0, 1) := by decide +kernel
theorem dX7_isNormal_34 : decode cX7_isNormal 34 = .ok (.getfield 32, 3) := by decide +kernel
theorem dX7_isNormal_37 : decode cX7_isNormal 37 = .ok (.bipush 10, 2) := by decide +kernel
theorem dX7_isNormal_39 : decode cX7_isNormal 39 = .ok (.iaload, 1) := by decide +kernel
theorem dX7_isNormal_40 : decode cX7_isNormal 40 = .ok (.if_icmp .ge 74, 3) := by decide +kernel
theorem dX7_isNormal_43 : decode cX7_isNormal 43 = .ok (.iconst 0, 1) := by decide +kernel
theorem dX7_isNormal_44 : decode cX7_isNormal 44 = .ok (.istore 5, 2) := by decide +kernel
theorem dX7_isNormal_46 : decode cX7_isNormal 46 = .ok (.iload 5, 2) := by decide +kernel
theorem dX7_isNormal_48 : decode cX7_isNormal 48 = .ok (.aload_n 0, 1) := by decide +kernel
theorem dX7_isNormal_49 : decode cX7_isNormal 49 = .ok (.getfield 32, 3) := by decide +kernel
theorem dX7_isNormal_52 : decode cX7_isNormal 52 = .ok (.bipush 11, 2) := by decide +kernel
theorem dX7_isNormal_54 : decode cX7_isNormal 54 = .ok (.iaload, 1) := by decide +kernel
theorem dX7_isNormal_55 : decode cX7_isNormal 55 = .ok (.if_icmp .ge 53, 3) := by decide +kernel
theorem dX7_isNormal_58 : decode cX7_isNormal 58 = .ok (.iload_n 3, 1) := by decide +kernel
theorem dX7_isNormal_59 : decode cX7_isNormal 59 = .ok (.ifCond .eq 41, 3) := by decide +kernel
theorem dX7_isNormal_62 : decode cX7_isNormal 62 = .ok (.aload_n 0, 1) := by decide +kernel
theorem dX7_isNormal_63 : decode cX7_isNormal 63 = .ok (.iload_n 1, 1) := by decide +kernel
theorem dX7_isNormal_64 : decode cX7_isNormal 64 = .ok (.aload_n 0, 1) := by decide +kernel
theorem dX7_isNormal_65 : decode cX7_isNormal 65 = .ok (.aload_n 0, 1) := by decide +kernel
theorem dX7_isNormal_66 : decode cX7_isNormal 66 = .ok (.getfield 29, 3) := by decide +kernel
theorem dX7_isNormal_69 : decode cX7_isNormal 69 = .ok (.sipush 320, 3) := by decide +kernel
theorem dX7_isNormal_72 : decode cX7_isNormal 72 = .ok (.iload 4, 2) := by decide +kernel
theorem dX7_isNormal_74 : decode cX7_isNormal 74 = .ok (.iadd, 1) := by decide +kernel
theorem dX7_isNormal_75 : decode cX7_isNormal 75 = .ok (.iaload, 1) := by decide +kernel
theorem dX7_isNormal_76 : decode cX7_isNormal 76 = .ok (.aload_n 0, 1) := by decide +kernel
theorem dX7_isNormal_77 : decode cX7_isNormal 77 = .ok (.getfield 29, 3) := by decide +kernel
theorem dX7_isNormal_80 : decode cX7_isNormal 80 = .ok (.sipush 352, 3) := by decide +kernel
theorem dX7_isNormal_83 : decode cX7_isNormal 83 = .ok (.iload 5, 2) := by decide +kernel
theorem dX7_isNormal_85 : decode cX7_isNormal 85 = .ok (.iadd, 1) := by decide +kernel
theorem dX7_isNormal_86 : decode cX7_isNormal 86 = .ok (.iaload, 1) := by decide +kernel
theorem dX7_isNormal_87 : decode cX7_isNormal 87 = .ok (.invokevirtual 87, 3) := by decide +kernel
theorem dX7_isNormal_90 : decode cX7_isNormal 90 = .ok (.invokevirtual 79, 3) := by decide +kernel
theorem dX7_isNormal_93 : decode cX7_isNormal 93 = .ok (.ifCond .eq 7, 3) := by decide +kernel
theorem dX7_isNormal_96 : decode cX7_isNormal 96 = .ok (.iconst 1, 1) := by decide +kernel
theorem dX7_isNormal_97 : decode cX7_isNormal 97 = .ok (.goto 4, 3) := by decide +kernel
theorem dX7_isNormal_100 : decode cX7_isNormal 100 = .ok (.iconst 0, 1) := by decide +kernel
theorem dX7_isNormal_101 : decode cX7_isNormal 101 = .ok (.istore_n 3, 1) := by decide +kernel
theorem dX7_isNormal_102 : decode cX7_isNormal 102 = .ok (.iinc 5 1, 3) := by decide +kernel
theorem dX7_isNormal_105 : decode cX7_isNormal 105 = .ok (.goto (-59), 3) := by decide +kernel
theorem dX7_isNormal_108 : decode cX7_isNormal 108 = .ok (.iinc 4 1, 3) := by decide +kernel
theorem dX7_isNormal_111 : decode cX7_isNormal 111 = .ok (.goto (-80), 3) := by decide +kernel
theorem dX7_isNormal_114 : decode cX7_isNormal 114 = .ok (.iload_n 3, 1) := by decide +kernel
theorem dX7_isNormal_115 : decode cX7_isNormal 115 = .ok (.ireturn, 1) := by decide +kernel
set_option maxRecDepth 20000 in
theorem ggX7_is_X7_isIn : GoodIn wsX7_is wsX7_isIn := goodIn_r _ [4] (by decide +kernel) (by decide +kernel)
set_option maxRecDepth 20000 in
theorem gX7_is_X7_isIn : GoodIn wsX7_is (va_wsS RX7 57 yX7_isIn wsX7_isIn) := goodIn_app (goodIn_of _ (by decide +kernel)) ggX7_is_X7_isIn
set_option maxRecDepth 20000 in
theorem ggX7_is_X7_isGroup : GoodIn wsX7_is wsX7_isGroup := goodIn_r _ [8, 9, 1, 2, 3, 4, 59, 60, 61, 62, 63, 64, 65, 66, 67, 68, 69] (by decide +kernel) (by decide +kernel)
set_option maxRecDepth 20000 in
theorem gX7_is_X7_isGroup : GoodIn wsX7_is (wsV RX7 109 RX7 yX7_isGroup wsX7_isGroup) := goodIn_app (goodIn_of _ (by decide +kernel)) ggX7_is_X7_isGroup
set_option maxRecDepth 20000 in
theorem ggX7_is_X7_isWithin : GoodIn wsX7_is wsX7_isWithin := goodIn_r _ [13, 14, 15, 16, 17, 3, 18, 19, 20, 59, 60, 61, 62, 63, 64, 65, 66, 67, 68, 69] (by decide +kernel) (by decide +kernel)
set_option maxRecDepth 20000 in
theorem gX7_is_X7_isWithin : GoodIn wsX7_is (wsV RX7 123 RX7 yX7_isWithin wsX7_isWithin) := goodIn_app (goodIn_of _ (by decide +kernel)) ggX7_is_X7_isWithin
set_option maxRecDepth 20000 in
theorem ggX7_is_X7_isNormal : GoodIn wsX7_is wsX7_isNormal := goodIn_r _ [24, 25, 26, 27, 28, 29, 3, 30, 31, 32, 33, 34, 14, 19, 20, 35, 36, 37, 38, 15, 16, 17, 18, 39, 40, 41, 42, 43, 44, 45, 46, 47, 48, 49, 50, 51, 52, 53, 54, 55, 56, 57, 58, 59, 60, 61, 62, 63, 64, 65, 66, 67, 68, 69] (by decide +kernel) (by decide +kernel)
set_option maxRecDepth 20000 in
theorem gX7_is_X7_isNormal : GoodIn wsX7_is (wsV RX7 126 RX7 yX7_isNormal wsX7_isNormal) := goodIn_app (goodIn_of _ (by decide +kernel)) ggX7_is_X7_isNormal
theorem dX7_is_0 : decode cX7_is 0 = .ok (.iload_n 1, 1) := by decide +kernel
theorem dX7_is_1 : decode cX7_is 1 = .ok (.iconst 0, 1) := by decide +kernel
theorem dX7_is_2 : decode cX7_is 2 = .ok (.iconst 2, 1) := by decide +kernel
theorem dX7_is_3 : decode cX7_is 3 = .ok (.invokestatic 57, 3) := by decide +kernel
theorem dX7_is_6 : decode cX7_is 6 = .ok (.ifCond .eq 19, 3) := by decide +kernel
theorem dX7_is_9 : decode cX7_is 9 = .ok (.aload_n 0, 1) := by decide +kernel
theorem dX7_is_10 : decode cX7_is 10 = .ok (.iload_n 2, 1) := by decide +kernel
theorem dX7_is_11 : decode cX7_is 11 = .ok (.invokevirtual 109, 3) := by decide +kernel
theorem dX7_is_14 : decode cX7_is 14 = .ok (.ifCond .eq 11, 3) := by decide +kernel
theorem dX7_is_17 : decode cX7_is 17 = .ok (.aload_n 0, 1) := by decide +kernel
theorem dX7_is_18 : decode cX7_is 18 = .ok (.iload_n 3, 1) := by decide +kernel
theorem dX7_is_19 : decode cX7_is 19 = .ok (.invokevirtual 109, 3) := by decide +kernel
theorem dX7_is_22 : decode cX7_is 22 = .ok (.ifCond .ne 6, 3) := by decide +kernel
theorem dX7_is_25 : decode cX7_is 25 = .ok (.bipush (-2), 2) := by decide +kernel
theorem dX7_is_27 : decode cX7_is 27 = .ok (.ireturn, 1) := by decide +kernel
theorem dX7_is_28 : decode cX7_is 28 = .ok (.aload_n 0, 1) := by decide +kernel
theorem dX7_is_29 : decode cX7_is 29 = .ok (.iload_n 2, 1) := by decide +kernel
theorem dX7_is_30 : decode cX7_is 30 = .ok (.iload_n 3, 1) := by decide +kernel
theorem dX7_is_31 : decode cX7_is 31 = .ok (.invokevirtual 123, 3) := by decide +kernel
theorem dX7_is_34 : decode cX7_is 34 = .ok (.ifCond .eq 37, 3) := by decide +kernel
theorem dX7_is_37 : decode cX7_is 37 = .ok (.iload_n 1, 1) := by decide +kernel
theorem dX7_is_38 : decode cX7_is 38 = .ok (.ifCond .eq 29, 3) := by decide +kernel
theorem dX7_is_41 : decode cX7_is 41 = .ok (.iload_n 1, 1) := by decide +kernel
theorem dX7_is_42 : decode cX7_is 42 = .ok (.iconst 1, 1) := by decide +kernel
theorem dX7_is_43 : decode cX7_is 43 = .ok (.if_icmp .ne 15, 3) := by decide +kernel
theorem dX7_is_46 : decode cX7_is 46 = .ok (.aload_n 0, 1) := by decide +kernel
theorem dX7_is_47 : decode cX7_is 47 = .ok (.iload_n 2, 1) := by decide +kernel
theorem dX7_is_48 : decode cX7_is 48 = .ok (.iload_n 3, 1) := by decide +kernel
theorem dX7_is_49 : decode cX7_is 49 = .ok (.invokevirtual 126, 3) := by decide +kernel
theorem dX7_is_52 : decode cX7_is 52 = .ok (.ifCond .eq 19, 3) := by decide +kernel
theorem dX7_is_55 : decode cX7_is 55 = .ok (.goto 12, 3) := by decide +kernel
theorem dX7_is_58 : decode cX7_is 58 = .ok (.aload_n 0, 1) := by decide +kernel
theorem dX7_is_59 : decode cX7_is 59 = .ok (.iload_n 3, 1) := by decide +kernel
theorem dX7_is_60 : decode cX7_is 60 = .ok (.iload_n 2, 1) := by decide +kernel
theorem dX7_is_61 : decode cX7_is 61 = .ok (.invokevirtual 123, 3) := by decide +kernel
theorem dX7_is_64 : decode cX7_is 64 = .ok (.ifCond .eq 7, 3) := by decide +kernel
theorem dX7_is_67 : decode cX7_is 67 = .ok (.iconst 1, 1) := by decide +kernel
theorem dX7_is_68 : decode cX7_is 68 = .ok (.goto 4, 3) := by decide +kernel
theorem dX7_is_71 : decode cX7_is 71 = .ok (.iconst 0, 1) := by decide +kernel
theorem dX7_is_72 : decode cX7_is 72 = .ok (.istore 4, 2) := by decide +kernel
theorem dX7_is_74 : decode cX7_is 74 = .ok (.iload 4, 2) := by decide +kernel
theorem dX7_is_76 : decode cX7_is 76 = .ok (.ifCond .eq 7, 3) := by decide +kernel
theorem dX7_is_79 : decode cX7_is 79 = .ok (.iconst 1, 1) := by decide +kernel
theorem dX7_is_80 : decode cX7_is 80 = .ok (.goto 4, 3) := by decide +kernel
theorem dX7_is_83 : decode cX7_is 83 = .ok (.iconst 0, 1) := by decide +kernel
theorem dX7_is_84 : decode cX7_is 84 = .ok (.ireturn, 1) := by decide +kernel
set_option maxRecDepth 20000 in
theorem ggX7_orbit_X7_isGroup : GoodIn wsX7_orbit wsX7_isGroup := goodIn_r _ [8, 9, 10, 11, 7, 12, 19, 20, 21, 22, 23, 24, 25, 26, 27, 28, 29] (by decide +kernel) (by decide +kernel)
set_option maxRecDepth 20000 in
theorem gX7_orbit_X7_isGroup : GoodIn wsX7_orbit (wsV RX7 109 RX7 yX7_isGroup wsX7_isGroup) := goodIn_app (goodIn_of _ (by decide +kernel)) ggX7_orbit_X7_isGroup
set_option maxRecDepth 20000 in
theorem ggX7_orbit_X7_isIn : GoodIn wsX7_orbit wsX7_isIn := goodIn_r _ [12] (by decide +kernel) (by decide +kernel)
set_option maxRecDepth 20000 in
theorem gX7_orbit_X7_isIn : GoodIn wsX7_orbit (va_wsS RX7 57 yX7_isIn wsX7_isIn) := goodIn_app (goodIn_of _ (by decide +kernel)) ggX7_orbit_X7_isIn
set_option maxRecDepth 20000 in
theorem ggX7_orbit_X7_hasIt : GoodIn wsX7_orbit wsX7_hasIt := goodIn_r _ [16, 17, 18, 19, 20, 21, 22, 23, 24, 25, 26, 27, 28, 29] (by decide +kernel) (by decide +kernel)
set_option maxRecDepth 20000 in
theorem gX7_orbit_X7_hasIt : GoodIn wsX7_orbit (wsV RX7 79 RX7 yX7_hasIt wsX7_hasIt) := goodIn_app (goodIn_of _ (by decide +kernel)) ggX7_orbit_X7_hasIt
theorem dX7_orbit_0 : decode cX7_orbit 0 = .ok (.aload_n 0, 1) := by decide +kernel
theorem dX7_orbit_1 : decode cX7_orbit 1 = .ok (.iload_n 1, 1) := by decide +kernel
theorem dX7_orbit_2 : decode cX7_orbit 2 = .ok (.invokevirtual 109, 3) := by decide +kernel
theorem dX7_orbit_5 : decode cX7_orbit 5 = .ok (.ifCond .eq 17, 3) := by decide +kernel
theorem dX7_orbit_8 : decode cX7_orbit 8 = .ok (.iload_n 2, 1) := by decide +kernel
theorem dX7_orbit_9 : decode cX7_orbit 9 = .ok (.iconst 0, 1) := by decide +kernel
theorem dX7_orbit_10 : decode cX7_orbit 10 = .ok (.aload_n 0, 1) := by decide +kernel
theorem dX7_orbit_11 : decode cX7_orbit 11 = .ok (.getfield 7, 3) := by decide +kernel
theorem dX7_orbit_14 : decode cX7_orbit 14 = .ok (.iconst 1, 1) := by decide +kernel
theorem dX7_orbit_15 : decode cX7_orbit 15 = .ok (.isub, 1) := by decide +kernel
theorem dX7_orbit_16 : decode cX7_orbit 16 = .ok (.invokestatic 57, 3) := by decide +kernel
theorem dX7_orbit_19 : decode cX7_orbit 19 = .ok (.ifCond .ne 6, 3) := by decide +kernel
theorem dX7_orbit_22 : decode cX7_orbit 22 = .ok (.bipush (-2), 2) := by decide +kernel
theorem dX7_orbit_24 : decode cX7_orbit 24 = .ok (.ireturn, 1) := by decide +kernel
theorem dX7_orbit_25 : decode cX7_orbit 25 = .ok (.iconst 0, 1) := by decide +kernel
theorem dX7_orbit_26 : decode cX7_orbit 26 = .ok (.istore_n 3, 1) := by decide +kernel
theorem dX7_orbit_27 : decode cX7_orbit 27 = .ok (.iconst 0, 1) := by decide +kernel
theorem dX7_orbit_28 : decode cX7_orbit 28 = .ok (.istore 4, 2) := by decide +kernel
theorem dX7_orbit_30 : decode cX7_orbit 30 = .ok (.iload 4, 2) := by decide +kernel
theorem dX7_orbit_32 : decode cX7_orbit 32 = .ok (.aload_n 0, 1) := by decide +kernel
theorem dX7_orbit_33 : decode cX7_orbit 33 = .ok (.getfield 46, 3) := by decide +kernel
theorem dX7_orbit_36 : decode cX7_orbit 36 = .ok (.if_icmp .ge 40, 3) := by decide +kernel
theorem dX7_orbit_39 : decode cX7_orbit 39 = .ok (.iload_n 3, 1) := by decide +kernel
theorem dX7_orbit_40 : decode cX7_orbit 40 = .ok (.aload_n 0, 1) := by decide +kernel
theorem dX7_orbit_41 : decode cX7_orbit 41 = .ok (.iload_n 1, 1) := by decide +kernel
theorem dX7_orbit_42 : decode cX7_orbit 42 = .ok (.iload 4, 2) := by decide +kernel
theorem dX7_orbit_44 : decode cX7_orbit 44 = .ok (.invokevirtual 79, 3) := by decide +kernel
theorem dX7_orbit_47 : decode cX7_orbit 47 = .ok (.ifCond .eq 20, 3) := by decide +kernel
theorem dX7_orbit_50 : decode cX7_orbit 50 = .ok (.iconst 1, 1) := by decide +kernel
theorem dX7_orbit_51 : decode cX7_orbit 51 = .ok (.aload_n 0, 1) := by decide +kernel
theorem dX7_orbit_52 : decode cX7_orbit 52 = .ok (.getfield 14, 3) := by decide +kernel
theorem dX7_orbit_55 : decode cX7_orbit 55 = .ok (.bipush 8, 2) := by decide +kernel
theorem dX7_orbit_57 : decode cX7_orbit 57 = .ok (.iload 4, 2) := by decide +kernel
theorem dX7_orbit_59 : decode cX7_orbit 59 = .ok (.imul, 1) := by decide +kernel
theorem dX7_orbit_60 : decode cX7_orbit 60 = .ok (.iload_n 2, 1) := by decide +kernel
theorem dX7_orbit_61 : decode cX7_orbit 61 = .ok (.iadd, 1) := by decide +kernel
theorem dX7_orbit_62 : decode cX7_orbit 62 = .ok (.iaload, 1) := by decide +kernel
theorem dX7_orbit_63 : decode cX7_orbit 63 = .ok (.ishl, 1) := by decide +kernel
theorem dX7_orbit_64 : decode cX7_orbit 64 = .ok (.goto 4, 3) := by decide +kernel
theorem dX7_orbit_67 : decode cX7_orbit 67 = .ok (.iconst 0, 1) := by decide +kernel
theorem dX7_orbit_68 : decode cX7_orbit 68 = .ok (.ior, 1) := by decide +kernel
theorem dX7_orbit_69 : decode cX7_orbit 69 = .ok (.istore_n 3, 1) := by decide +kernel
theorem dX7_orbit_70 : decode cX7_orbit 70 = .ok (.iinc 4 1, 3) := by decide +kernel
theorem dX7_orbit_73 : decode cX7_orbit 73 = .ok (.goto (-43), 3) := by decide +kernel
theorem dX7_orbit_76 : decode cX7_orbit 76 = .ok (.iload_n 3, 1) := by decide +kernel
theorem dX7_orbit_77 : decode cX7_orbit 77 = .ok (.ireturn, 1) := by decide +kernel
set_option maxRecDepth 20000 in
theorem ggX7_block_X7_isGroup : GoodIn wsX7_block wsX7_isGroup := goodIn_r _ [7, 8, 9, 10, 6, 11, 23, 24, 25, 26, 27, 28, 29, 30, 31, 32, 33] (by decide +kernel) (by decide +kernel)
set_option maxRecDepth 20000 in
theorem gX7_block_X7_isGroup : GoodIn wsX7_block (wsV RX7 109 RX7 yX7_isGroup wsX7_isGroup) := goodIn_app (goodIn_of _ (by decide +kernel)) ggX7_block_X7_isGroup
set_option maxRecDepth 20000 in
theorem ggX7_block_X7_isIn : GoodIn wsX7_block wsX7_isIn := goodIn_r _ [11] (by decide +kernel) (by decide +kernel)
set_option maxRecDepth 20000 in
theorem gX7_block_X7_isIn : GoodIn wsX7_block (va_wsS RX7 57 yX7_isIn wsX7_isIn) := goodIn_app (goodIn_of _ (by decide +kernel)) ggX7_block_X7_isIn
set_option maxRecDepth 20000 in
theorem ggX7_block_X7_hasIt : GoodIn wsX7_block wsX7_hasIt := goodIn_r _ [15, 16, 17, 23, 24, 25, 26, 27, 28, 29, 30, 31, 32, 33] (by decide +kernel) (by decide +kernel)
set_option maxRecDepth 20000 in
theorem gX7_block_X7_hasIt : GoodIn wsX7_block (wsV RX7 79 RX7 yX7_hasIt wsX7_hasIt) := goodIn_app (goodIn_of _ (by decide +kernel)) ggX7_block_X7_hasIt
set_option maxRecDepth 20000 in
theorem ggX7_block_X7_setOf : GoodIn wsX7_block wsX7_setOf := goodIn_r _ [21, 1, 22, 23, 24, 25, 26, 27, 28, 29, 30, 31, 32, 33] (by decide +kernel) (by decide +kernel)
set_option maxRecDepth 20000 in
theorem gX7_block_X7_setOf : GoodIn wsX7_block (wsV RX7 113 RX7 yX7_setOf wsX7_setOf) := goodIn_app (goodIn_of _ (by decide +kernel)) ggX7_block_X7_setOf
theorem dX7_block_0 : decode cX7_block 0 = .ok (.aload_n 0, 1) := by decide +kernel
theorem dX7_block_1 : decode cX7_block 1 = .ok (.iload_n 1, 1) := by decide +kernel
theorem dX7_block_2 : decode cX7_block 2 = .ok (.invokevirtual 109, 3) := by decide +kernel
theorem dX7_block_5 : decode cX7_block 5 = .ok (.ifCond .eq 31, 3) := by decide +kernel
theorem dX7_block_8 : decode cX7_block 8 = .ok (.iload_n 2, 1) := by decide +kernel
theorem dX7_block_9 : decode cX7_block 9 = .ok (.iconst 0, 1) := by decide +kernel
theorem dX7_block_10 : decode cX7_block 10 = .ok (.aload_n 0, 1) := by decide +kernel
theorem dX7_block_11 : decode cX7_block 11 = .ok (.getfield 7, 3) := by decide +kernel
theorem dX7_block_14 : decode cX7_block 14 = .ok (.iconst 1, 1) := by decide +kernel
theorem dX7_block_15 : decode cX7_block 15 = .ok (.isub, 1) := by decide +kernel
theorem dX7_block_16 : decode cX7_block 16 = .ok (.invokestatic 57, 3) := by decide +kernel
theorem dX7_block_19 : decode cX7_block 19 = .ok (.ifCond .eq 17, 3) := by decide +kernel
theorem dX7_block_22 : decode cX7_block 22 = .ok (.iload_n 3, 1) := by decide +kernel
theorem dX7_block_23 : decode cX7_block 23 = .ok (.iconst 0, 1) := by decide +kernel
theorem dX7_block_24 : decode cX7_block 24 = .ok (.aload_n 0, 1) := by decide +kernel
theorem dX7_block_25 : decode cX7_block 25 = .ok (.getfield 7, 3) := by decide +kernel
theorem dX7_block_28 : decode cX7_block 28 = .ok (.iconst 1, 1) := by decide +kernel
theorem dX7_block_29 : decode cX7_block 29 = .ok (.isub, 1) := by decide +kernel
theorem dX7_block_30 : decode cX7_block 30 = .ok (.invokestatic 57, 3) := by decide +kernel
theorem dX7_block_33 : decode cX7_block 33 = .ok (.ifCond .ne 6, 3) := by decide +kernel
theorem dX7_block_36 : decode cX7_block 36 = .ok (.bipush (-2), 2) := by decide +kernel
theorem dX7_block_38 : decode cX7_block 38 = .ok (.ireturn, 1) := by decide +kernel
theorem dX7_block_39 : decode cX7_block 39 = .ok (.iconst 1, 1) := by decide +kernel
theorem dX7_block_40 : decode cX7_block 40 = .ok (.iload_n 2, 1) := by decide +kernel
theorem dX7_block_41 : decode cX7_block 41 = .ok (.ishl, 1) := by decide +kernel
theorem dX7_block_42 : decode cX7_block 42 = .ok (.iconst 1, 1) := by decide +kernel
theorem dX7_block_43 : decode cX7_block 43 = .ok (.iload_n 3, 1) := by decide +kernel
theorem dX7_block_44 : decode cX7_block 44 = .ok (.ishl, 1) := by decide +kernel
theorem dX7_block_45 : decode cX7_block 45 = .ok (.ior, 1) := by decide +kernel
theorem dX7_block_46 : decode cX7_block 46 = .ok (.istore 4, 2) := by decide +kernel
theorem dX7_block_48 : decode cX7_block 48 = .ok (.iconst 0, 1) := by decide +kernel
theorem dX7_block_49 : decode cX7_block 49 = .ok (.istore 5, 2) := by decide +kernel
theorem dX7_block_51 : decode cX7_block 51 = .ok (.iload 4, 2) := by decide +kernel
theorem dX7_block_53 : decode cX7_block 53 = .ok (.iload 5, 2) := by decide +kernel
theorem dX7_block_55 : decode cX7_block 55 = .ok (.if_icmp .eq 71, 3) := by decide +kernel
theorem dX7_block_58 : decode cX7_block 58 = .ok (.iload 4, 2) := by decide +kernel
theorem dX7_block_60 : decode cX7_block 60 = .ok (.istore 5, 2) := by decide +kernel
theorem dX7_block_62 : decode cX7_block 62 = .ok (.iconst 0, 1) := by decide +kernel
theorem dX7_block_63 : decode cX7_block 63 = .ok (.istore 6, 2) := by decide +kernel
theorem dX7_block_65 : decode cX7_block 65 = .ok (.iload 6, 2) := by decide +kernel
theorem dX7_block_67 : decode cX7_block 67 = .ok (.aload_n 0, 1) := by decide +kernel
theorem dX7_block_68 : decode cX7_block 68 = .ok (.getfield 46, 3) := by decide +kernel
theorem dX7_block_71 : decode cX7_block 71 = .ok (.if_icmp .ge 52, 3) := by decide +kernel
theorem dX7_block_74 : decode cX7_block 74 = .ok (.aload_n 0, 1) := by decide +kernel
theorem dX7_block_75 : decode cX7_block 75 = .ok (.iload_n 1, 1) := by decide +kernel
theorem dX7_block_76 : decode cX7_block 76 = .ok (.iload 6, 2) := by decide +kernel
theorem dX7_block_78 : decode cX7_block 78 = .ok (.invokevirtual 79, 3) := by decide +kernel
theorem dX7_block_81 : decode cX7_block 81 = .ok (.ifCond .eq 14, 3) := by decide +kernel
theorem dX7_block_84 : decode cX7_block 84 = .ok (.aload_n 0, 1) := by decide +kernel
theorem dX7_block_85 : decode cX7_block 85 = .ok (.iload 6, 2) := by decide +kernel
theorem dX7_block_87 : decode cX7_block 87 = .ok (.iload 4, 2) := by decide +kernel
theorem dX7_block_89 : decode cX7_block 89 = .ok (.invokevirtual 113, 3) := by decide +kernel
theorem dX7_block_92 : decode cX7_block 92 = .ok (.goto 4, 3) := by decide +kernel
theorem dX7_block_95 : decode cX7_block 95 = .ok (.iconst 0, 1) := by decide +kernel
theorem dX7_block_96 : decode cX7_block 96 = .ok (.istore 7, 2) := by decide +kernel
theorem dX7_block_98 : decode cX7_block 98 = .ok (.iload 4, 2) := by decide +kernel
theorem dX7_block_100 : decode cX7_block 100 = .ok (.iload 7, 2) := by decide +kernel
theorem dX7_block_102 : decode cX7_block 102 = .ok (.iload 4, 2) := by decide +kernel
theorem dX7_block_104 : decode cX7_block 104 = .ok (.iand, 1) := by decide +kernel
theorem dX7_block_105 : decode cX7_block 105 = .ok (.ifCond .eq 8, 3) := by decide +kernel
theorem dX7_block_108 : decode cX7_block 108 = .ok (.iload 7, 2) := by decide +kernel
theorem dX7_block_110 : decode cX7_block 110 = .ok (.goto 4, 3) := by decide +kernel
theorem dX7_block_113 : decode cX7_block 113 = .ok (.iconst 0, 1) := by decide +kernel
theorem dX7_block_114 : decode cX7_block 114 = .ok (.ior, 1) := by decide +kernel
theorem dX7_block_115 : decode cX7_block 115 = .ok (.istore 4, 2) := by decide +kernel
theorem dX7_block_117 : decode cX7_block 117 = .ok (.iinc 6 1, 3) := by decide +kernel
theorem dX7_block_120 : decode cX7_block 120 = .ok (.goto (-55), 3) := by decide +kernel
theorem dX7_block_123 : decode cX7_block 123 = .ok (.goto (-72), 3) := by decide +kernel
theorem dX7_block_126 : decode cX7_block 126 = .ok (.iload 4, 2) := by decide +kernel
theorem dX7_block_128 : decode cX7_block 128 = .ok (.ireturn, 1) := by decide +kernel
set_option maxRecDepth 20000 in
theorem ggX7_steps_X7_isGroup : GoodIn wsX7_steps wsX7_isGroup := goodIn_r _ [5, 6, 7, 8, 4, 9, 71, 72, 73, 74, 75, 76, 77, 78, 79, 80, 81] (by decide +kernel) (by decide +kernel)
set_option maxRecDepth 20000 in
theorem gX7_steps_X7_isGroup : GoodIn wsX7_steps (wsV RX7 109 RX7 yX7_isGroup wsX7_isGroup) := goodIn_app (goodIn_of _ (by decide +kernel)) ggX7_steps_X7_isGroup
set_option maxRecDepth 20000 in
theorem ggX7_steps_X7_copy : GoodIn wsX7_steps wsX7_copy := goodIn_r _ [13, 14, 15, 16, 71, 72, 73, 74, 75, 76, 77, 78, 79, 80, 81] (by decide +kernel) (by decide +kernel)
set_option maxRecDepth 20000 in
theorem gX7_steps_X7_copy : GoodIn wsX7_steps (wsV RX7 99 RX7 yX7_copy wsX7_copy) := goodIn_app (goodIn_of _ (by decide +kernel)) ggX7_steps_X7_copy
set_option maxRecDepth 20000 in
theorem ggX7_steps_X7_sizeOf : GoodIn wsX7_steps wsX7_sizeOf := goodIn_r _ [20, 14, 21, 22, 23, 4, 24, 15, 16, 71, 72, 73, 74, 75, 76, 77, 78, 79, 80, 81] (by decide +kernel) (by decide +kernel)
set_option maxRecDepth 20000 in
theorem gX7_steps_X7_sizeOf : GoodIn wsX7_steps (wsV RX7 120 RX7 yX7_sizeOf wsX7_sizeOf) := goodIn_app (goodIn_of _ (by decide +kernel)) ggX7_steps_X7_sizeOf
set_option maxRecDepth 20000 in
theorem ggX7_steps_X7_goDown : GoodIn wsX7_steps wsX7_goDown := goodIn_r _ [28, 29, 30, 31, 32, 33, 4, 34, 35, 36, 37, 38, 14, 15, 16, 39, 40, 41, 42, 21, 22, 23, 24, 43, 44, 45, 46, 47, 48, 49, 50, 51, 52, 53, 54, 55, 56, 57, 58, 59, 60, 61, 62, 63, 64, 65, 66, 67, 68, 69, 70, 71, 72, 73, 74, 75, 76, 77, 78, 79, 80, 81] (by decide +kernel) (by decide +kernel)
set_option maxRecDepth 20000 in
theorem gX7_steps_X7_goDown : GoodIn wsX7_steps (wsV RX7 116 RX7 yX7_goDown wsX7_goDown) := goodIn_app (goodIn_of _ (by decide +kernel)) ggX7_steps_X7_goDown
theorem dX7_steps_0 : decode cX7_steps 0 = .ok (.aload_n 0, 1) := by decide +kernel
theorem dX7_steps_1 : decode cX7_steps 1 = .ok (.iload_n 1, 1) := by decide +kernel
theorem dX7_steps_2 : decode cX7_steps 2 = .ok (.invokevirtual 109, 3) := by decide +kernel
theorem dX7_steps_5 : decode cX7_steps 5 = .ok (.ifCond .ne 6, 3) := by decide +kernel
theorem dX7_steps_8 : decode cX7_steps 8 = .ok (.bipush (-2), 2) := by decide +kernel
theorem dX7_steps_10 : decode cX7_steps 10 = .ok (.ireturn, 1) := by decide +kernel
theorem dX7_steps_11 : decode cX7_steps 11 = .ok (.iconst 0, 1) := by decide +kernel
theorem dX7_steps_12 : decode cX7_steps 12 = .ok (.istore_n 2, 1) := by decide +kernel
theorem dX7_steps_13 : decode cX7_steps 13 = .ok (.aload_n 0, 1) := by decide +kernel
theorem dX7_steps_14 : decode cX7_steps 14 = .ok (.iload_n 1, 1) := by decide +kernel
theorem dX7_steps_15 : decode cX7_steps 15 = .ok (.bipush 12, 2) := by decide +kernel
theorem dX7_steps_17 : decode cX7_steps 17 = .ok (.invokevirtual 99, 3) := by decide +kernel
theorem dX7_steps_20 : decode cX7_steps 20 = .ok (.aload_n 0, 1) := by decide +kernel
theorem dX7_steps_21 : decode cX7_steps 21 = .ok (.bipush 12, 2) := by decide +kernel
theorem dX7_steps_23 : decode cX7_steps 23 = .ok (.invokevirtual 120, 3) := by decide +kernel
theorem dX7_steps_26 : decode cX7_steps 26 = .ok (.istore_n 3, 1) := by decide +kernel
theorem dX7_steps_27 : decode cX7_steps 27 = .ok (.iload_n 3, 1) := by decide +kernel
theorem dX7_steps_28 : decode cX7_steps 28 = .ok (.iconst 1, 1) := by decide +kernel
theorem dX7_steps_29 : decode cX7_steps 29 = .ok (.if_icmp .le 42, 3) := by decide +kernel
theorem dX7_steps_32 : decode cX7_steps 32 = .ok (.aload_n 0, 1) := by decide +kernel
theorem dX7_steps_33 : decode cX7_steps 33 = .ok (.bipush 12, 2) := by decide +kernel
theorem dX7_steps_35 : decode cX7_steps 35 = .ok (.invokevirtual 116, 3) := by decide +kernel
theorem dX7_steps_38 : decode cX7_steps 38 = .ok (.aload_n 0, 1) := by decide +kernel
theorem dX7_steps_39 : decode cX7_steps 39 = .ok (.bipush 11, 2) := by decide +kernel
theorem dX7_steps_41 : decode cX7_steps 41 = .ok (.bipush 12, 2) := by decide +kernel
theorem dX7_steps_43 : decode cX7_steps 43 = .ok (.invokevirtual 99, 3) := by decide +kernel
theorem dX7_steps_46 : decode cX7_steps 46 = .ok (.aload_n 0, 1) := by decide +kernel
theorem dX7_steps_47 : decode cX7_steps 47 = .ok (.bipush 12, 2) := by decide +kernel
theorem dX7_steps_49 : decode cX7_steps 49 = .ok (.invokevirtual 120, 3) := by decide +kernel
theorem dX7_steps_52 : decode cX7_steps 52 = .ok (.istore 4, 2) := by decide +kernel
theorem dX7_steps_54 : decode cX7_steps 54 = .ok (.iload 4, 2) := by decide +kernel
theorem dX7_steps_56 : decode cX7_steps 56 = .ok (.iload_n 3, 1) := by decide +kernel
theorem dX7_steps_57 : decode cX7_steps 57 = .ok (.if_icmp .ne 5, 3) := by decide +kernel
theorem dX7_steps_60 : decode cX7_steps 60 = .ok (.iconst (-1), 1) := by decide +kernel
theorem dX7_steps_61 : decode cX7_steps 61 = .ok (.ireturn, 1) := by decide +kernel
theorem dX7_steps_62 : decode cX7_steps 62 = .ok (.iload 4, 2) := by decide +kernel
theorem dX7_steps_64 : decode cX7_steps 64 = .ok (.istore_n 3, 1) := by decide +kernel
theorem dX7_steps_65 : decode cX7_steps 65 = .ok (.iinc 2 1, 3) := by decide +kernel
theorem dX7_steps_68 : decode cX7_steps 68 = .ok (.goto (-41), 3) := by decide +kernel
theorem dX7_steps_71 : decode cX7_steps 71 = .ok (.iload_n 2, 1) := by decide +kernel
theorem dX7_steps_72 : decode cX7_steps 72 = .ok (.ireturn, 1) := by decide +kernel
theorem dX7_stillIn_0 : decode cX7_stillIn 0 = .ok (.iconst 0, 1) := by decide +kernel
theorem dX7_stillIn_1 : decode cX7_stillIn 1 = .ok (.istore_n 2, 1) := by decide +kernel
theorem dX7_stillIn_2 : decode cX7_stillIn 2 = .ok (.iconst 0, 1) := by decide +kernel
theorem dX7_stillIn_3 : decode cX7_stillIn 3 = .ok (.istore_n 3, 1) := by decide +kernel
theorem dX7_stillIn_4 : decode cX7_stillIn 4 = .ok (.iload_n 3, 1) := by decide +kernel
theorem dX7_stillIn_5 : decode cX7_stillIn 5 = .ok (.aload_n 0, 1) := by decide +kernel
theorem dX7_stillIn_6 : decode cX7_stillIn 6 = .ok (.getfield 7, 3) := by decide +kernel
theorem dX7_stillIn_9 : decode cX7_stillIn 9 = .ok (.if_icmp .ge 32, 3) := by decide +kernel
theorem dX7_stillIn_12 : decode cX7_stillIn 12 = .ok (.iload_n 2, 1) := by decide +kernel
theorem dX7_stillIn_13 : decode cX7_stillIn 13 = .ok (.aload_n 0, 1) := by decide +kernel
theorem dX7_stillIn_14 : decode cX7_stillIn 14 = .ok (.getfield 14, 3) := by decide +kernel
theorem dX7_stillIn_17 : decode cX7_stillIn 17 = .ok (.bipush 8, 2) := by decide +kernel
theorem dX7_stillIn_19 : decode cX7_stillIn 19 = .ok (.iload_n 1, 1) := by decide +kernel
theorem dX7_stillIn_20 : decode cX7_stillIn 20 = .ok (.imul, 1) := by decide +kernel
theorem dX7_stillIn_21 : decode cX7_stillIn 21 = .ok (.iload_n 3, 1) := by decide +kernel
theorem dX7_stillIn_22 : decode cX7_stillIn 22 = .ok (.iadd, 1) := by decide +kernel
theorem dX7_stillIn_23 : decode cX7_stillIn 23 = .ok (.iaload, 1) := by decide +kernel
theorem dX7_stillIn_24 : decode cX7_stillIn 24 = .ok (.iload_n 3, 1) := by decide +kernel
theorem dX7_stillIn_25 : decode cX7_stillIn 25 = .ok (.if_icmp .ne 7, 3) := by decide +kernel
theorem dX7_stillIn_28 : decode cX7_stillIn 28 = .ok (.iconst 1, 1) := by decide +kernel
theorem dX7_stillIn_29 : decode cX7_stillIn 29 = .ok (.goto 4, 3) := by decide +kernel
theorem dX7_stillIn_32 : decode cX7_stillIn 32 = .ok (.iconst 0, 1) := by decide +kernel
theorem dX7_stillIn_33 : decode cX7_stillIn 33 = .ok (.iadd, 1) := by decide +kernel
theorem dX7_stillIn_34 : decode cX7_stillIn 34 = .ok (.istore_n 2, 1) := by decide +kernel
theorem dX7_stillIn_35 : decode cX7_stillIn 35 = .ok (.iinc 3 1, 3) := by decide +kernel
theorem dX7_stillIn_38 : decode cX7_stillIn 38 = .ok (.goto (-34), 3) := by decide +kernel
theorem dX7_stillIn_41 : decode cX7_stillIn 41 = .ok (.iload_n 2, 1) := by decide +kernel
theorem dX7_stillIn_42 : decode cX7_stillIn 42 = .ok (.ireturn, 1) := by decide +kernel
set_option maxRecDepth 20000 in
theorem ggX7_still_X7_isGroup : GoodIn wsX7_still wsX7_isGroup := goodIn_r _ [7, 8, 9, 10, 6, 11, 23, 24, 25, 26, 27, 28, 29, 30, 31, 32, 33] (by decide +kernel) (by decide +kernel)
set_option maxRecDepth 20000 in
theorem gX7_still_X7_isGroup : GoodIn wsX7_still (wsV RX7 109 RX7 yX7_isGroup wsX7_isGroup) := goodIn_app (goodIn_of _ (by decide +kernel)) ggX7_still_X7_isGroup
set_option maxRecDepth 20000 in
theorem ggX7_still_X7_isIn : GoodIn wsX7_still wsX7_isIn := goodIn_r _ [11] (by decide +kernel) (by decide +kernel)
set_option maxRecDepth 20000 in
theorem gX7_still_X7_isIn : GoodIn wsX7_still (va_wsS RX7 57 yX7_isIn wsX7_isIn) := goodIn_app (goodIn_of _ (by decide +kernel)) ggX7_still_X7_isIn
set_option maxRecDepth 20000 in
theorem ggX7_still_X7_hasIt : GoodIn wsX7_still wsX7_hasIt := goodIn_r _ [15, 16, 17, 23, 24, 25, 26, 27, 28, 29, 30, 31, 32, 33] (by decide +kernel) (by decide +kernel)
set_option maxRecDepth 20000 in
theorem gX7_still_X7_hasIt : GoodIn wsX7_still (wsV RX7 79 RX7 yX7_hasIt wsX7_hasIt) := goodIn_app (goodIn_of _ (by decide +kernel)) ggX7_still_X7_hasIt
set_option maxRecDepth 20000 in
theorem ggX7_still_X7_stillIn : GoodIn wsX7_still wsX7_stillIn := goodIn_r _ [21, 1, 22, 23, 24, 25, 26, 27, 28, 29, 30, 31, 32, 33] (by decide +kernel) (by decide +kernel)
set_option maxRecDepth 20000 in
theorem gX7_still_X7_stillIn : GoodIn wsX7_still (wsV RX7 129 RX7 yX7_stillIn wsX7_stillIn) := goodIn_app (goodIn_of _ (by decide +kernel)) ggX7_still_X7_stillIn
theorem dX7_still_0 : decode cX7_still 0 = .ok (.aload_n 0, 1) := by decide +kernel
theorem dX7_still_1 : decode cX7_still 1 = .ok (.iload_n 1, 1) := by decide +kernel
theorem dX7_still_2 : decode cX7_still 2 = .ok (.invokevirtual 109, 3) := by decide +kernel
theorem dX7_still_5 : decode cX7_still 5 = .ok (.ifCond .eq 15, 3) := by decide +kernel
theorem dX7_still_8 : decode cX7_still 8 = .ok (.iload_n 2, 1) := by decide +kernel
theorem dX7_still_9 : decode cX7_still 9 = .ok (.iconst 0, 1) := by decide +kernel
theorem dX7_still_10 : decode cX7_still 10 = .ok (.aload_n 0, 1) := by decide +kernel
theorem dX7_still_11 : decode cX7_still 11 = .ok (.getfield 7, 3) := by decide +kernel
theorem dX7_still_14 : decode cX7_still 14 = .ok (.invokestatic 57, 3) := by decide +kernel
theorem dX7_still_17 : decode cX7_still 17 = .ok (.ifCond .ne 6, 3) := by decide +kernel
theorem dX7_still_20 : decode cX7_still 20 = .ok (.bipush (-2), 2) := by decide +kernel
theorem dX7_still_22 : decode cX7_still 22 = .ok (.ireturn, 1) := by decide +kernel
theorem dX7_still_23 : decode cX7_still 23 = .ok (.iconst 0, 1) := by decide +kernel
theorem dX7_still_24 : decode cX7_still 24 = .ok (.istore_n 3, 1) := by decide +kernel
theorem dX7_still_25 : decode cX7_still 25 = .ok (.iconst 0, 1) := by decide +kernel
theorem dX7_still_26 : decode cX7_still 26 = .ok (.istore 4, 2) := by decide +kernel
theorem dX7_still_28 : decode cX7_still 28 = .ok (.iload 4, 2) := by decide +kernel
theorem dX7_still_30 : decode cX7_still 30 = .ok (.aload_n 0, 1) := by decide +kernel
theorem dX7_still_31 : decode cX7_still 31 = .ok (.getfield 46, 3) := by decide +kernel
theorem dX7_still_34 : decode cX7_still 34 = .ok (.if_icmp .ge 37, 3) := by decide +kernel
theorem dX7_still_37 : decode cX7_still 37 = .ok (.iload_n 3, 1) := by decide +kernel
theorem dX7_still_38 : decode cX7_still 38 = .ok (.aload_n 0, 1) := by decide +kernel
theorem dX7_still_39 : decode cX7_still 39 = .ok (.iload_n 1, 1) := by decide +kernel
theorem dX7_still_40 : decode cX7_still 40 = .ok (.iload 4, 2) := by decide +kernel
theorem dX7_still_42 : decode cX7_still 42 = .ok (.invokevirtual 79, 3) := by decide +kernel
theorem dX7_still_45 : decode cX7_still 45 = .ok (.ifCond .eq 17, 3) := by decide +kernel
theorem dX7_still_48 : decode cX7_still 48 = .ok (.aload_n 0, 1) := by decide +kernel
theorem dX7_still_49 : decode cX7_still 49 = .ok (.iload 4, 2) := by decide +kernel
theorem dX7_still_51 : decode cX7_still 51 = .ok (.invokevirtual 129, 3) := by decide +kernel
theorem dX7_still_54 : decode cX7_still 54 = .ok (.iload_n 2, 1) := by decide +kernel
theorem dX7_still_55 : decode cX7_still 55 = .ok (.if_icmp .ne 7, 3) := by decide +kernel
theorem dX7_still_58 : decode cX7_still 58 = .ok (.iconst 1, 1) := by decide +kernel
theorem dX7_still_59 : decode cX7_still 59 = .ok (.goto 4, 3) := by decide +kernel
theorem dX7_still_62 : decode cX7_still 62 = .ok (.iconst 0, 1) := by decide +kernel
theorem dX7_still_63 : decode cX7_still 63 = .ok (.iadd, 1) := by decide +kernel
theorem dX7_still_64 : decode cX7_still 64 = .ok (.istore_n 3, 1) := by decide +kernel
theorem dX7_still_65 : decode cX7_still 65 = .ok (.iinc 4 1, 3) := by decide +kernel
theorem dX7_still_68 : decode cX7_still 68 = .ok (.goto (-40), 3) := by decide +kernel
theorem dX7_still_71 : decode cX7_still 71 = .ok (.iload_n 3, 1) := by decide +kernel
theorem dX7_still_72 : decode cX7_still 72 = .ok (.ireturn, 1) := by decide +kernel
set_option maxRecDepth 20000 in
theorem ggX7_element_X7_isGroup : GoodIn wsX7_element wsX7_isGroup := goodIn_r _ [7, 8, 9, 10, 6, 11, 18, 19, 20, 21, 22, 23, 24, 25, 26, 27, 28] (by decide +kernel) (by decide +kernel)
set_option maxRecDepth 20000 in
theorem gX7_element_X7_isGroup : GoodIn wsX7_element (wsV RX7 109 RX7 yX7_isGroup wsX7_isGroup) := goodIn_app (goodIn_of _ (by decide +kernel)) ggX7_element_X7_isGroup
set_option maxRecDepth 20000 in
theorem ggX7_element_X7_hasIt : GoodIn wsX7_element wsX7_hasIt := goodIn_r _ [15, 16, 17, 18, 19, 20, 21, 22, 23, 24, 25, 26, 27, 28] (by decide +kernel) (by decide +kernel)
set_option maxRecDepth 20000 in
theorem gX7_element_X7_hasIt : GoodIn wsX7_element (wsV RX7 79 RX7 yX7_hasIt wsX7_hasIt) := goodIn_app (goodIn_of _ (by decide +kernel)) ggX7_element_X7_hasIt
theorem dX7_element_0 : decode cX7_element 0 = .ok (.aload_n 0, 1) := by decide +kernel
theorem dX7_element_1 : decode cX7_element 1 = .ok (.iload_n 1, 1) := by decide +kernel
theorem dX7_element_2 : decode cX7_element 2 = .ok (.invokevirtual 109, 3) := by decide +kernel
theorem dX7_element_5 : decode cX7_element 5 = .ok (.ifCond .eq 7, 3) := by decide +kernel
theorem dX7_element_8 : decode cX7_element 8 = .ok (.iload_n 2, 1) := by decide +kernel
theorem dX7_element_9 : decode cX7_element 9 = .ok (.ifCond .ge 6, 3) := by decide +kernel
theorem dX7_element_12 : decode cX7_element 12 = .ok (.bipush (-2), 2) := by decide +kernel
theorem dX7_element_14 : decode cX7_element 14 = .ok (.ireturn, 1) := by decide +kernel
theorem dX7_element_15 : decode cX7_element 15 = .ok (.iload_n 2, 1) := by decide +kernel
theorem dX7_element_16 : decode cX7_element 16 = .ok (.istore_n 3, 1) := by decide +kernel
theorem dX7_element_17 : decode cX7_element 17 = .ok (.iconst 0, 1) := by decide +kernel
theorem dX7_element_18 : decode cX7_element 18 = .ok (.istore 4, 2) := by decide +kernel
theorem dX7_element_20 : decode cX7_element 20 = .ok (.iload 4, 2) := by decide +kernel
theorem dX7_element_22 : decode cX7_element 22 = .ok (.aload_n 0, 1) := by decide +kernel
theorem dX7_element_23 : decode cX7_element 23 = .ok (.getfield 46, 3) := by decide +kernel
theorem dX7_element_26 : decode cX7_element 26 = .ok (.if_icmp .ge 34, 3) := by decide +kernel
theorem dX7_element_29 : decode cX7_element 29 = .ok (.aload_n 0, 1) := by decide +kernel
theorem dX7_element_30 : decode cX7_element 30 = .ok (.iload_n 1, 1) := by decide +kernel
theorem dX7_element_31 : decode cX7_element 31 = .ok (.iload 4, 2) := by decide +kernel
theorem dX7_element_33 : decode cX7_element 33 = .ok (.invokevirtual 79, 3) := by decide +kernel
theorem dX7_element_36 : decode cX7_element 36 = .ok (.ifCond .eq 18, 3) := by decide +kernel
theorem dX7_element_39 : decode cX7_element 39 = .ok (.iload_n 3, 1) := by decide +kernel
theorem dX7_element_40 : decode cX7_element 40 = .ok (.ifCond .ne 11, 3) := by decide +kernel
theorem dX7_element_43 : decode cX7_element 43 = .ok (.aload_n 0, 1) := by decide +kernel
theorem dX7_element_44 : decode cX7_element 44 = .ok (.iload 4, 2) := by decide +kernel
theorem dX7_element_46 : decode cX7_element 46 = .ok (.putfield 64, 3) := by decide +kernel
theorem dX7_element_49 : decode cX7_element 49 = .ok (.iconst 1, 1) := by decide +kernel
theorem dX7_element_50 : decode cX7_element 50 = .ok (.ireturn, 1) := by decide +kernel
theorem dX7_element_51 : decode cX7_element 51 = .ok (.iinc 3 (-1), 3) := by decide +kernel
theorem dX7_element_54 : decode cX7_element 54 = .ok (.iinc 4 1, 3) := by decide +kernel
theorem dX7_element_57 : decode cX7_element 57 = .ok (.goto (-37), 3) := by decide +kernel
theorem dX7_element_60 : decode cX7_element 60 = .ok (.bipush (-2), 2) := by decide +kernel
theorem dX7_element_62 : decode cX7_element 62 = .ok (.ireturn, 1) := by decide +kernel
set_option maxRecDepth 20000 in
theorem ggX7_place_X7_isGroup : GoodIn wsX7_place wsX7_isGroup := goodIn_r _ [6, 7, 8, 9, 5, 10, 17, 18, 19, 20, 21, 22, 23, 24, 25, 26, 27] (by decide +kernel) (by decide +kernel)
set_option maxRecDepth 20000 in
theorem gX7_place_X7_isGroup : GoodIn wsX7_place (wsV RX7 109 RX7 yX7_isGroup wsX7_isGroup) := goodIn_app (goodIn_of _ (by decide +kernel)) ggX7_place_X7_isGroup
set_option maxRecDepth 20000 in
theorem ggX7_place_X7_hasIt : GoodIn wsX7_place wsX7_hasIt := goodIn_r _ [14, 15, 16, 17, 18, 19, 20, 21, 22, 23, 24, 25, 26, 27] (by decide +kernel) (by decide +kernel)
set_option maxRecDepth 20000 in
theorem gX7_place_X7_hasIt : GoodIn wsX7_place (wsV RX7 79 RX7 yX7_hasIt wsX7_hasIt) := goodIn_app (goodIn_of _ (by decide +kernel)) ggX7_place_X7_hasIt
theorem dX7_place_0 : decode cX7_place 0 = .ok (.aload_n 0, 1) := by decide +kernel
theorem dX7_place_1 : decode cX7_place 1 = .ok (.iload_n 1, 1) := by decide +kernel
theorem dX7_place_2 : decode cX7_place 2 = .ok (.invokevirtual 109, 3) := by decide +kernel
theorem dX7_place_5 : decode cX7_place 5 = .ok (.ifCond .ne 6, 3) := by decide +kernel
theorem dX7_place_8 : decode cX7_place 8 = .ok (.bipush (-2), 2) := by decide +kernel
theorem dX7_place_10 : decode cX7_place 10 = .ok (.ireturn, 1) := by decide +kernel
theorem dX7_place_11 : decode cX7_place 11 = .ok (.iconst 0, 1) := by decide +kernel
theorem dX7_place_12 : decode cX7_place 12 = .ok (.istore_n 2, 1) := by decide +kernel
theorem dX7_place_13 : decode cX7_place 13 = .ok (.iconst 0, 1) := by decide +kernel
theorem dX7_place_14 : decode cX7_place 14 = .ok (.istore_n 3, 1) := by decide +kernel
theorem dX7_place_15 : decode cX7_place 15 = .ok (.iload_n 3, 1) := by decide +kernel
theorem dX7_place_16 : decode cX7_place 16 = .ok (.aload_n 0, 1) := by decide +kernel
theorem dX7_place_17 : decode cX7_place 17 = .ok (.getfield 64, 3) := by decide +kernel
theorem dX7_place_20 : decode cX7_place 20 = .ok (.if_icmp .ge 26, 3) := by decide +kernel
theorem dX7_place_23 : decode cX7_place 23 = .ok (.iload_n 2, 1) := by decide +kernel
theorem dX7_place_24 : decode cX7_place 24 = .ok (.aload_n 0, 1) := by decide +kernel
theorem dX7_place_25 : decode cX7_place 25 = .ok (.iload_n 1, 1) := by decide +kernel
theorem dX7_place_26 : decode cX7_place 26 = .ok (.iload_n 3, 1) := by decide +kernel
theorem dX7_place_27 : decode cX7_place 27 = .ok (.invokevirtual 79, 3) := by decide +kernel
theorem dX7_place_30 : decode cX7_place 30 = .ok (.ifCond .eq 7, 3) := by decide +kernel
theorem dX7_place_33 : decode cX7_place 33 = .ok (.iconst 1, 1) := by decide +kernel
theorem dX7_place_34 : decode cX7_place 34 = .ok (.goto 4, 3) := by decide +kernel
theorem dX7_place_37 : decode cX7_place 37 = .ok (.iconst 0, 1) := by decide +kernel
theorem dX7_place_38 : decode cX7_place 38 = .ok (.iadd, 1) := by decide +kernel
theorem dX7_place_39 : decode cX7_place 39 = .ok (.istore_n 2, 1) := by decide +kernel
theorem dX7_place_40 : decode cX7_place 40 = .ok (.iinc 3 1, 3) := by decide +kernel
theorem dX7_place_43 : decode cX7_place 43 = .ok (.goto (-28), 3) := by decide +kernel
theorem dX7_place_46 : decode cX7_place 46 = .ok (.iload_n 2, 1) := by decide +kernel
theorem dX7_place_47 : decode cX7_place 47 = .ok (.ireturn, 1) := by decide +kernel
set_option maxRecDepth 20000 in
theorem ggX7_carry_X7_isGroup : GoodIn wsX7_carry wsX7_isGroup := goodIn_r _ [8, 9, 10, 11, 7, 12, 24, 25, 26, 27, 28, 29, 30, 31, 32, 33, 34] (by decide +kernel) (by decide +kernel)
set_option maxRecDepth 20000 in
theorem gX7_carry_X7_isGroup : GoodIn wsX7_carry (wsV RX7 109 RX7 yX7_isGroup wsX7_isGroup) := goodIn_app (goodIn_of _ (by decide +kernel)) ggX7_carry_X7_isGroup
set_option maxRecDepth 20000 in
theorem ggX7_carry_X7_isIn : GoodIn wsX7_carry wsX7_isIn := goodIn_r _ [12] (by decide +kernel) (by decide +kernel)
set_option maxRecDepth 20000 in
theorem gX7_carry_X7_isIn : GoodIn wsX7_carry (va_wsS RX7 57 yX7_isIn wsX7_isIn) := goodIn_app (goodIn_of _ (by decide +kernel)) ggX7_carry_X7_isIn
set_option maxRecDepth 20000 in
theorem ggX7_carry_X7_hasIt : GoodIn wsX7_carry wsX7_hasIt := goodIn_r _ [16, 17, 18, 24, 25, 26, 27, 28, 29, 30, 31, 32, 33, 34] (by decide +kernel) (by decide +kernel)
set_option maxRecDepth 20000 in
theorem gX7_carry_X7_hasIt : GoodIn wsX7_carry (wsV RX7 79 RX7 yX7_hasIt wsX7_hasIt) := goodIn_app (goodIn_of _ (by decide +kernel)) ggX7_carry_X7_hasIt
set_option maxRecDepth 20000 in
theorem ggX7_carry_X7_setOf : GoodIn wsX7_carry wsX7_setOf := goodIn_r _ [22, 1, 23, 24, 25, 26, 27, 28, 29, 30, 31, 32, 33, 34] (by decide +kernel) (by decide +kernel)
set_option maxRecDepth 20000 in
theorem gX7_carry_X7_setOf : GoodIn wsX7_carry (wsV RX7 113 RX7 yX7_setOf wsX7_setOf) := goodIn_app (goodIn_of _ (by decide +kernel)) ggX7_carry_X7_setOf
theorem dX7_carry_0 : decode cX7_carry 0 = .ok (.iconst 1, 1) := by decide +kernel
theorem dX7_carry_1 : decode cX7_carry 1 = .ok (.aload_n 0, 1) := by decide +kernel
theorem dX7_carry_2 : decode cX7_carry 2 = .ok (.getfield 7, 3) := by decide +kernel
theorem dX7_carry_5 : decode cX7_carry 5 = .ok (.ishl, 1) := by decide +kernel
theorem dX7_carry_6 : decode cX7_carry 6 = .ok (.iconst 1, 1) := by decide +kernel
theorem dX7_carry_7 : decode cX7_carry 7 = .ok (.isub, 1) := by decide +kernel
theorem dX7_carry_8 : decode cX7_carry 8 = .ok (.istore 4, 2) := by decide +kernel
theorem dX7_carry_10 : decode cX7_carry 10 = .ok (.aload_n 0, 1) := by decide +kernel
theorem dX7_carry_11 : decode cX7_carry 11 = .ok (.iload_n 1, 1) := by decide +kernel
theorem dX7_carry_12 : decode cX7_carry 12 = .ok (.invokevirtual 109, 3) := by decide +kernel
theorem dX7_carry_15 : decode cX7_carry 15 = .ok (.ifCond .eq 23, 3) := by decide +kernel
theorem dX7_carry_18 : decode cX7_carry 18 = .ok (.iload_n 2, 1) := by decide +kernel
theorem dX7_carry_19 : decode cX7_carry 19 = .ok (.iconst 0, 1) := by decide +kernel
theorem dX7_carry_20 : decode cX7_carry 20 = .ok (.iload 4, 2) := by decide +kernel
theorem dX7_carry_22 : decode cX7_carry 22 = .ok (.invokestatic 57, 3) := by decide +kernel
theorem dX7_carry_25 : decode cX7_carry 25 = .ok (.ifCond .eq 13, 3) := by decide +kernel
theorem dX7_carry_28 : decode cX7_carry 28 = .ok (.iload_n 3, 1) := by decide +kernel
theorem dX7_carry_29 : decode cX7_carry 29 = .ok (.iconst 0, 1) := by decide +kernel
theorem dX7_carry_30 : decode cX7_carry 30 = .ok (.iload 4, 2) := by decide +kernel
theorem dX7_carry_32 : decode cX7_carry 32 = .ok (.invokestatic 57, 3) := by decide +kernel
theorem dX7_carry_35 : decode cX7_carry 35 = .ok (.ifCond .ne 6, 3) := by decide +kernel
theorem dX7_carry_38 : decode cX7_carry 38 = .ok (.bipush (-2), 2) := by decide +kernel
theorem dX7_carry_40 : decode cX7_carry 40 = .ok (.ireturn, 1) := by decide +kernel
theorem dX7_carry_41 : decode cX7_carry 41 = .ok (.iconst 0, 1) := by decide +kernel
theorem dX7_carry_42 : decode cX7_carry 42 = .ok (.istore 5, 2) := by decide +kernel
theorem dX7_carry_44 : decode cX7_carry 44 = .ok (.iload 5, 2) := by decide +kernel
theorem dX7_carry_46 : decode cX7_carry 46 = .ok (.aload_n 0, 1) := by decide +kernel
theorem dX7_carry_47 : decode cX7_carry 47 = .ok (.getfield 46, 3) := by decide +kernel
theorem dX7_carry_50 : decode cX7_carry 50 = .ok (.if_icmp .ge 38, 3) := by decide +kernel
theorem dX7_carry_53 : decode cX7_carry 53 = .ok (.aload_n 0, 1) := by decide +kernel
theorem dX7_carry_54 : decode cX7_carry 54 = .ok (.iload_n 1, 1) := by decide +kernel
theorem dX7_carry_55 : decode cX7_carry 55 = .ok (.iload 5, 2) := by decide +kernel
theorem dX7_carry_57 : decode cX7_carry 57 = .ok (.invokevirtual 79, 3) := by decide +kernel
theorem dX7_carry_60 : decode cX7_carry 60 = .ok (.ifCond .eq 22, 3) := by decide +kernel
theorem dX7_carry_63 : decode cX7_carry 63 = .ok (.aload_n 0, 1) := by decide +kernel
theorem dX7_carry_64 : decode cX7_carry 64 = .ok (.iload 5, 2) := by decide +kernel
theorem dX7_carry_66 : decode cX7_carry 66 = .ok (.iload_n 2, 1) := by decide +kernel
theorem dX7_carry_67 : decode cX7_carry 67 = .ok (.invokevirtual 113, 3) := by decide +kernel
theorem dX7_carry_70 : decode cX7_carry 70 = .ok (.iload_n 3, 1) := by decide +kernel
theorem dX7_carry_71 : decode cX7_carry 71 = .ok (.if_icmp .ne 11, 3) := by decide +kernel
theorem dX7_carry_74 : decode cX7_carry 74 = .ok (.aload_n 0, 1) := by decide +kernel
theorem dX7_carry_75 : decode cX7_carry 75 = .ok (.iload 5, 2) := by decide +kernel
theorem dX7_carry_77 : decode cX7_carry 77 = .ok (.putfield 64, 3) := by decide +kernel
theorem dX7_carry_80 : decode cX7_carry 80 = .ok (.iconst 1, 1) := by decide +kernel
theorem dX7_carry_81 : decode cX7_carry 81 = .ok (.ireturn, 1) := by decide +kernel
theorem dX7_carry_82 : decode cX7_carry 82 = .ok (.iinc 5 1, 3) := by decide +kernel
theorem dX7_carry_85 : decode cX7_carry 85 = .ok (.goto (-41), 3) := by decide +kernel
theorem dX7_carry_88 : decode cX7_carry 88 = .ok (.iconst (-1), 1) := by decide +kernel
theorem dX7_carry_89 : decode cX7_carry 89 = .ok (.ireturn, 1) := by decide +kernel
set_option maxRecDepth 20000 in
theorem ggX7_count_X7_stillIn : GoodIn wsX7_count wsX7_stillIn := goodIn_r _ [8, 1, 9, 14, 15, 16, 17, 18, 19, 20, 21, 22, 23, 24] (by decide +kernel) (by decide +kernel)
set_option maxRecDepth 20000 in
theorem gX7_count_X7_stillIn : GoodIn wsX7_count (wsV RX7 129 RX7 yX7_stillIn wsX7_stillIn) := goodIn_app (goodIn_of _ (by decide +kernel)) ggX7_count_X7_stillIn
set_option maxRecDepth 20000 in
theorem ggX7_count_X7_isEven : GoodIn wsX7_count wsX7_isEven := goodIn_r _ [13, 1, 9, 14, 15, 16, 17, 18, 19, 20, 21, 22, 23, 24] (by decide +kernel) (by decide +kernel)
set_option maxRecDepth 20000 in
theorem gX7_count_X7_isEven : GoodIn wsX7_count (wsV RX7 102 RX7 yX7_isEven wsX7_isEven) := goodIn_app (goodIn_of _ (by decide +kernel)) ggX7_count_X7_isEven
theorem dX7_count_0 : decode cX7_count 0 = .ok (.iload_n 1, 1) := by decide +kernel
theorem dX7_count_1 : decode cX7_count 1 = .ok (.tableswitch 67 0 3 #[31, 36, 41, 50], 31) := by decide +kernel
theorem dX7_count_32 : decode cX7_count 32 = .ok (.aload_n 0, 1) := by decide +kernel
theorem dX7_count_33 : decode cX7_count 33 = .ok (.getfield 7, 3) := by decide +kernel
theorem dX7_count_36 : decode cX7_count 36 = .ok (.ireturn, 1) := by decide +kernel
theorem dX7_count_37 : decode cX7_count 37 = .ok (.aload_n 0, 1) := by decide +kernel
theorem dX7_count_38 : decode cX7_count 38 = .ok (.getfield 61, 3) := by decide +kernel
theorem dX7_count_41 : decode cX7_count 41 = .ok (.ireturn, 1) := by decide +kernel
theorem dX7_count_42 : decode cX7_count 42 = .ok (.aload_n 0, 1) := by decide +kernel
theorem dX7_count_43 : decode cX7_count 43 = .ok (.aload_n 0, 1) := by decide +kernel
theorem dX7_count_44 : decode cX7_count 44 = .ok (.getfield 64, 3) := by decide +kernel
theorem dX7_count_47 : decode cX7_count 47 = .ok (.invokevirtual 129, 3) := by decide +kernel
theorem dX7_count_50 : decode cX7_count 50 = .ok (.ireturn, 1) := by decide +kernel
theorem dX7_count_51 : decode cX7_count 51 = .ok (.aload_n 0, 1) := by decide +kernel
theorem dX7_count_52 : decode cX7_count 52 = .ok (.aload_n 0, 1) := by decide +kernel
theorem dX7_count_53 : decode cX7_count 53 = .ok (.getfield 64, 3) := by decide +kernel
theorem dX7_count_56 : decode cX7_count 56 = .ok (.invokevirtual 102, 3) := by decide +kernel
theorem dX7_count_59 : decode cX7_count 59 = .ok (.ifCond .eq 7, 3) := by decide +kernel
theorem dX7_count_62 : decode cX7_count 62 = .ok (.iconst 1, 1) := by decide +kernel
theorem dX7_count_63 : decode cX7_count 63 = .ok (.goto 4, 3) := by decide +kernel
theorem dX7_count_66 : decode cX7_count 66 = .ok (.iconst 0, 1) := by decide +kernel
theorem dX7_count_67 : decode cX7_count 67 = .ok (.ireturn, 1) := by decide +kernel
theorem dX7_count_68 : decode cX7_count 68 = .ok (.bipush (-2), 2) := by decide +kernel
theorem dX7_count_70 : decode cX7_count 70 = .ok (.ireturn, 1) := by decide +kernel
