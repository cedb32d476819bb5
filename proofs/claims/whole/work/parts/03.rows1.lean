theorem dX0_init_0 : decode cX0_init 0 = .ok (.aload_n 0, 1) := by decide +kernel
theorem dX0_init_1 : decode cX0_init 1 = .ok (.invokespecial 3, 3) := by decide +kernel
theorem dX0_init_4 : decode cX0_init 4 = .ok (.aload_n 0, 1) := by decide +kernel
theorem dX0_init_5 : decode cX0_init 5 = .ok (.bipush 60, 2) := by decide +kernel
theorem dX0_init_7 : decode cX0_init 7 = .ok (.bipush 96, 2) := by decide +kernel
theorem dX0_init_9 : decode cX0_init 9 = .ok (.multianewarray 9 2, 4) := by decide +kernel
theorem dX0_init_13 : decode cX0_init 13 = .ok (.putfield 11, 3) := by decide +kernel
theorem dX0_init_16 : decode cX0_init 16 = .ok (.return_, 1) := by decide +kernel
set_option maxRecDepth 20000 in
theorem ggX0_countFree_X0_gather : GoodIn wsX0_countFree wsX0_gather := goodIn_r _ [7, 8, 9, 10, 11, 1, 2, 12, 13, 14, 15, 16, 17, 18, 19, 20, 21, 22, 23, 24, 25, 26, 27, 28, 29, 30, 31, 32, 33, 34, 35, 36, 37, 38, 39, 6, 40, 41, 42, 43, 44, 45, 46, 47, 48, 49, 50, 51, 52, 53, 54, 55, 56, 57, 73, 74, 75, 76, 77, 78, 79, 80, 70, 71, 72, 81, 82, 83, 84, 85, 86, 87, 88, 89] (by decide +kernel) (by decide +kernel)
set_option maxRecDepth 20000 in
theorem gX0_countFree_X0_gather : GoodIn wsX0_countFree (wsV RX0 16 RX0 yX0_gather wsX0_gather) := goodIn_app (goodIn_of _ (by decide +kernel)) ggX0_countFree_X0_gather
set_option maxRecDepth 20000 in
theorem ggX0_countFree_X0_findRule : GoodIn wsX0_countFree wsX0_findRule := goodIn_r _ [61, 2, 12, 70, 71, 72] (by decide +kernel) (by decide +kernel)
set_option maxRecDepth 20000 in
theorem gX0_countFree_X0_findRule : GoodIn wsX0_countFree (wsV RX0 27 RX0 yX0_findRule wsX0_findRule) := goodIn_app (goodIn_of _ (by decide +kernel)) ggX0_countFree_X0_findRule
set_option maxRecDepth 20000 in
theorem ggX0_countFree_X0_swap : GoodIn wsX0_countFree wsX0_swap := goodIn_r _ [65, 12, 70, 71, 72] (by decide +kernel) (by decide +kernel)
set_option maxRecDepth 20000 in
theorem gX0_countFree_X0_swap : GoodIn wsX0_countFree (wsV RX0 31 RX0 yX0_swap wsX0_swap) := goodIn_app (goodIn_of _ (by decide +kernel)) ggX0_countFree_X0_swap
set_option maxRecDepth 20000 in
theorem ggX0_countFree_X0_clearBelow : GoodIn wsX0_countFree wsX0_clearBelow := goodIn_r _ [69, 12, 2, 1, 70, 71, 72] (by decide +kernel) (by decide +kernel)
set_option maxRecDepth 20000 in
theorem gX0_countFree_X0_clearBelow : GoodIn wsX0_countFree (wsV RX0 35 RX0 yX0_clearBelow wsX0_clearBelow) := goodIn_app (goodIn_of _ (by decide +kernel)) ggX0_countFree_X0_clearBelow
theorem dX0_countFree_0 : decode cX0_countFree 0 = .ok (.iload_n 3, 1) := by decide +kernel
theorem dX0_countFree_1 : decode cX0_countFree 1 = .ok (.iconst 2, 1) := by decide +kernel
theorem dX0_countFree_2 : decode cX0_countFree 2 = .ok (.if_icmp .ge 6, 3) := by decide +kernel
theorem dX0_countFree_5 : decode cX0_countFree 5 = .ok (.bipush (-9), 2) := by decide +kernel
theorem dX0_countFree_7 : decode cX0_countFree 7 = .ok (.ireturn, 1) := by decide +kernel
theorem dX0_countFree_8 : decode cX0_countFree 8 = .ok (.aload_n 0, 1) := by decide +kernel
theorem dX0_countFree_9 : decode cX0_countFree 9 = .ok (.aload_n 1, 1) := by decide +kernel
theorem dX0_countFree_10 : decode cX0_countFree 10 = .ok (.aload_n 2, 1) := by decide +kernel
theorem dX0_countFree_11 : decode cX0_countFree 11 = .ok (.invokevirtual 16, 3) := by decide +kernel
theorem dX0_countFree_14 : decode cX0_countFree 14 = .ok (.iconst 0, 1) := by decide +kernel
theorem dX0_countFree_15 : decode cX0_countFree 15 = .ok (.istore 4, 2) := by decide +kernel
theorem dX0_countFree_17 : decode cX0_countFree 17 = .ok (.iconst 0, 1) := by decide +kernel
theorem dX0_countFree_18 : decode cX0_countFree 18 = .ok (.istore 5, 2) := by decide +kernel
theorem dX0_countFree_20 : decode cX0_countFree 20 = .ok (.iload 5, 2) := by decide +kernel
theorem dX0_countFree_22 : decode cX0_countFree 22 = .ok (.aload_n 0, 1) := by decide +kernel
theorem dX0_countFree_23 : decode cX0_countFree 23 = .ok (.getfield 20, 3) := by decide +kernel
theorem dX0_countFree_26 : decode cX0_countFree 26 = .ok (.if_icmp .ge 54, 3) := by decide +kernel
theorem dX0_countFree_29 : decode cX0_countFree 29 = .ok (.iload 4, 2) := by decide +kernel
theorem dX0_countFree_31 : decode cX0_countFree 31 = .ok (.aload_n 0, 1) := by decide +kernel
theorem dX0_countFree_32 : decode cX0_countFree 32 = .ok (.getfield 24, 3) := by decide +kernel
theorem dX0_countFree_35 : decode cX0_countFree 35 = .ok (.if_icmp .ge 45, 3) := by decide +kernel
theorem dX0_countFree_38 : decode cX0_countFree 38 = .ok (.aload_n 0, 1) := by decide +kernel
theorem dX0_countFree_39 : decode cX0_countFree 39 = .ok (.iload 4, 2) := by decide +kernel
theorem dX0_countFree_41 : decode cX0_countFree 41 = .ok (.iload 5, 2) := by decide +kernel
theorem dX0_countFree_43 : decode cX0_countFree 43 = .ok (.iload_n 3, 1) := by decide +kernel
theorem dX0_countFree_44 : decode cX0_countFree 44 = .ok (.invokevirtual 27, 3) := by decide +kernel
theorem dX0_countFree_47 : decode cX0_countFree 47 = .ok (.istore 6, 2) := by decide +kernel
theorem dX0_countFree_49 : decode cX0_countFree 49 = .ok (.iload 6, 2) := by decide +kernel
theorem dX0_countFree_51 : decode cX0_countFree 51 = .ok (.ifCond .lt 23, 3) := by decide +kernel
theorem dX0_countFree_54 : decode cX0_countFree 54 = .ok (.aload_n 0, 1) := by decide +kernel
theorem dX0_countFree_55 : decode cX0_countFree 55 = .ok (.iload 4, 2) := by decide +kernel
theorem dX0_countFree_57 : decode cX0_countFree 57 = .ok (.iload 6, 2) := by decide +kernel
theorem dX0_countFree_59 : decode cX0_countFree 59 = .ok (.invokevirtual 31, 3) := by decide +kernel
theorem dX0_countFree_62 : decode cX0_countFree 62 = .ok (.aload_n 0, 1) := by decide +kernel
theorem dX0_countFree_63 : decode cX0_countFree 63 = .ok (.iload 4, 2) := by decide +kernel
theorem dX0_countFree_65 : decode cX0_countFree 65 = .ok (.iload 5, 2) := by decide +kernel
theorem dX0_countFree_67 : decode cX0_countFree 67 = .ok (.iload_n 3, 1) := by decide +kernel
theorem dX0_countFree_68 : decode cX0_countFree 68 = .ok (.invokevirtual 35, 3) := by decide +kernel
theorem dX0_countFree_71 : decode cX0_countFree 71 = .ok (.iinc 4 1, 3) := by decide +kernel
theorem dX0_countFree_74 : decode cX0_countFree 74 = .ok (.iinc 5 1, 3) := by decide +kernel
theorem dX0_countFree_77 : decode cX0_countFree 77 = .ok (.goto (-57), 3) := by decide +kernel
theorem dX0_countFree_80 : decode cX0_countFree 80 = .ok (.aload_n 0, 1) := by decide +kernel
theorem dX0_countFree_81 : decode cX0_countFree 81 = .ok (.getfield 20, 3) := by decide +kernel
theorem dX0_countFree_84 : decode cX0_countFree 84 = .ok (.iload 4, 2) := by decide +kernel
theorem dX0_countFree_86 : decode cX0_countFree 86 = .ok (.isub, 1) := by decide +kernel
theorem dX0_countFree_87 : decode cX0_countFree 87 = .ok (.ireturn, 1) := by decide +kernel
set_option maxRecDepth 20000 in
theorem ggX0_gather_X1_isHere : GoodIn wsX0_gather wsX1_isHere := goodIn_r _ [11, 12, 13, 14, 9, 15, 16, 17, 18, 19, 20, 21, 22, 23, 24, 54, 55, 56, 57, 58, 59, 60, 61] (by decide +kernel) (by decide +kernel)
set_option maxRecDepth 20000 in
theorem gX0_gather_X1_isHere_n50 : GoodIn wsX0_gather (wsX1_isHere) := ggX0_gather_X1_isHere
set_option maxRecDepth 20000 in
theorem ggX0_gather_X1_underAt : GoodIn wsX0_gather wsX1_underAt := goodIn_r _ [23, 24, 17, 18, 19, 54, 55, 56, 57, 58, 59, 60, 61] (by decide +kernel) (by decide +kernel)
set_option maxRecDepth 20000 in
theorem gX0_gather_X1_underAt_n54 : GoodIn wsX0_gather (wsX1_underAt) := ggX0_gather_X1_underAt
set_option maxRecDepth 20000 in
theorem ggX0_gather_J7_fill_53178 : GoodIn wsX0_gather wsJ7_fill_53178 := goodIn_r _ [28] (by decide +kernel) (by decide +kernel)
set_option maxRecDepth 20000 in
theorem gX0_gather_J7_fill_53178 : GoodIn wsX0_gather (va_wsS RX0 58 yJ7_fill_53178 wsJ7_fill_53178) := goodIn_app (goodIn_of _ (by decide +kernel)) ggX0_gather_J7_fill_53178
set_option maxRecDepth 20000 in
theorem ggX0_gather_X1_overAt : GoodIn wsX0_gather wsX1_overAt := goodIn_r _ [15, 16, 17, 18, 19, 54, 55, 56, 57, 58, 59, 60, 61] (by decide +kernel) (by decide +kernel)
set_option maxRecDepth 20000 in
theorem gX0_gather_X1_overAt_n64 : GoodIn wsX0_gather (wsX1_overAt) := ggX0_gather_X1_overAt
set_option maxRecDepth 20000 in
theorem ggX0_gather_X1_arcAt : GoodIn wsX0_gather wsX1_arcAt := goodIn_r _ [31, 32, 17, 18, 19, 54, 55, 56, 57, 58, 59, 60, 61] (by decide +kernel) (by decide +kernel)
set_option maxRecDepth 20000 in
theorem gX0_gather_X1_arcAt_n67 : GoodIn wsX0_gather (wsX1_arcAt) := ggX0_gather_X1_arcAt
set_option maxRecDepth 20000 in
theorem ggX0_gather_X0_add : GoodIn wsX0_gather wsX0_add := goodIn_r _ [36, 37, 18, 38] (by decide +kernel) (by decide +kernel)
set_option maxRecDepth 20000 in
theorem gX0_gather_X0_add : GoodIn wsX0_gather (va_wsS RX0 70 yX0_add wsX0_add) := goodIn_app (goodIn_of _ (by decide +kernel)) ggX0_gather_X0_add
set_option maxRecDepth 20000 in
theorem ggX0_gather_X2_stepAfter : GoodIn wsX0_gather wsX2_stepAfter := goodIn_r _ [42, 43, 44, 45, 40, 46, 47, 17, 18, 19, 48, 49, 50, 51, 52, 53, 37, 38, 65, 66, 67, 68, 69, 70, 71, 72, 73] (by decide +kernel) (by decide +kernel)
set_option maxRecDepth 20000 in
theorem gX0_gather_X2_stepAfter_n74 : GoodIn wsX0_gather (wsX2_stepAfter) := ggX0_gather_X2_stepAfter
theorem dX0_gather_0 : decode cX0_gather 0 = .ok (.aload_n 0, 1) := by decide +kernel
theorem dX0_gather_1 : decode cX0_gather 1 = .ok (.aload_n 2, 1) := by decide +kernel
theorem dX0_gather_2 : decode cX0_gather 2 = .ok (.getfield 39, 3) := by decide +kernel
theorem dX0_gather_5 : decode cX0_gather 5 = .ok (.bipush 96, 2) := by decide +kernel
theorem dX0_gather_7 : decode cX0_gather 7 = .ok (.invokestatic 44, 3) := by decide +kernel
theorem dX0_gather_10 : decode cX0_gather 10 = .ok (.putfield 20, 3) := by decide +kernel
theorem dX0_gather_13 : decode cX0_gather 13 = .ok (.aload_n 0, 1) := by decide +kernel
theorem dX0_gather_14 : decode cX0_gather 14 = .ok (.iconst 0, 1) := by decide +kernel
theorem dX0_gather_15 : decode cX0_gather 15 = .ok (.putfield 24, 3) := by decide +kernel
theorem dX0_gather_18 : decode cX0_gather 18 = .ok (.iconst 0, 1) := by decide +kernel
theorem dX0_gather_19 : decode cX0_gather 19 = .ok (.istore_n 3, 1) := by decide +kernel
theorem dX0_gather_20 : decode cX0_gather 20 = .ok (.iload_n 3, 1) := by decide +kernel
theorem dX0_gather_21 : decode cX0_gather 21 = .ok (.bipush 60, 2) := by decide +kernel
theorem dX0_gather_23 : decode cX0_gather 23 = .ok (.if_icmp .ge 103, 3) := by decide +kernel
theorem dX0_gather_26 : decode cX0_gather 26 = .ok (.aload_n 0, 1) := by decide +kernel
theorem dX0_gather_27 : decode cX0_gather 27 = .ok (.getfield 24, 3) := by decide +kernel
theorem dX0_gather_30 : decode cX0_gather 30 = .ok (.bipush 60, 2) := by decide +kernel
theorem dX0_gather_32 : decode cX0_gather 32 = .ok (.if_icmp .ge 94, 3) := by decide +kernel
theorem dX0_gather_35 : decode cX0_gather 35 = .ok (.aload_n 2, 1) := by decide +kernel
theorem dX0_gather_36 : decode cX0_gather 36 = .ok (.iload_n 3, 1) := by decide +kernel
theorem dX0_gather_37 : decode cX0_gather 37 = .ok (.invokevirtual 50, 3) := by decide +kernel
theorem dX0_gather_40 : decode cX0_gather 40 = .ok (.ifCond .eq 80, 3) := by decide +kernel
theorem dX0_gather_43 : decode cX0_gather 43 = .ok (.aload_n 0, 1) := by decide +kernel
theorem dX0_gather_44 : decode cX0_gather 44 = .ok (.getfield 11, 3) := by decide +kernel
theorem dX0_gather_47 : decode cX0_gather 47 = .ok (.aload_n 0, 1) := by decide +kernel
theorem dX0_gather_48 : decode cX0_gather 48 = .ok (.getfield 24, 3) := by decide +kernel
theorem dX0_gather_51 : decode cX0_gather 51 = .ok (.aaload, 1) := by decide +kernel
theorem dX0_gather_52 : decode cX0_gather 52 = .ok (.astore 4, 2) := by decide +kernel
theorem dX0_gather_54 : decode cX0_gather 54 = .ok (.aload_n 0, 1) := by decide +kernel
theorem dX0_gather_55 : decode cX0_gather 55 = .ok (.dup, 1) := by decide +kernel
theorem dX0_gather_56 : decode cX0_gather 56 = .ok (.getfield 24, 3) := by decide +kernel
theorem dX0_gather_59 : decode cX0_gather 59 = .ok (.iconst 1, 1) := by decide +kernel
theorem dX0_gather_60 : decode cX0_gather 60 = .ok (.iadd, 1) := by decide +kernel
theorem dX0_gather_61 : decode cX0_gather 61 = .ok (.putfield 24, 3) := by decide +kernel
theorem dX0_gather_64 : decode cX0_gather 64 = .ok (.aload_n 2, 1) := by decide +kernel
theorem dX0_gather_65 : decode cX0_gather 65 = .ok (.iload_n 3, 1) := by decide +kernel
theorem dX0_gather_66 : decode cX0_gather 66 = .ok (.invokevirtual 54, 3) := by decide +kernel
theorem dX0_gather_69 : decode cX0_gather 69 = .ok (.istore 5, 2) := by decide +kernel
theorem dX0_gather_71 : decode cX0_gather 71 = .ok (.aload 4, 2) := by decide +kernel
theorem dX0_gather_73 : decode cX0_gather 73 = .ok (.iconst 0, 1) := by decide +kernel
theorem dX0_gather_74 : decode cX0_gather 74 = .ok (.invokestatic 58, 3) := by decide +kernel
theorem dX0_gather_77 : decode cX0_gather 77 = .ok (.aload 4, 2) := by decide +kernel
theorem dX0_gather_79 : decode cX0_gather 79 = .ok (.aload_n 2, 1) := by decide +kernel
theorem dX0_gather_80 : decode cX0_gather 80 = .ok (.aload_n 2, 1) := by decide +kernel
theorem dX0_gather_81 : decode cX0_gather 81 = .ok (.iload_n 3, 1) := by decide +kernel
theorem dX0_gather_82 : decode cX0_gather 82 = .ok (.invokevirtual 64, 3) := by decide +kernel
theorem dX0_gather_85 : decode cX0_gather 85 = .ok (.invokevirtual 67, 3) := by decide +kernel
theorem dX0_gather_88 : decode cX0_gather 88 = .ok (.iconst 2, 1) := by decide +kernel
theorem dX0_gather_89 : decode cX0_gather 89 = .ok (.invokestatic 70, 3) := by decide +kernel
theorem dX0_gather_92 : decode cX0_gather 92 = .ok (.aload 4, 2) := by decide +kernel
theorem dX0_gather_94 : decode cX0_gather 94 = .ok (.aload_n 2, 1) := by decide +kernel
theorem dX0_gather_95 : decode cX0_gather 95 = .ok (.iload 5, 2) := by decide +kernel
theorem dX0_gather_97 : decode cX0_gather 97 = .ok (.invokevirtual 67, 3) := by decide +kernel
theorem dX0_gather_100 : decode cX0_gather 100 = .ok (.iconst (-1), 1) := by decide +kernel
theorem dX0_gather_101 : decode cX0_gather 101 = .ok (.invokestatic 70, 3) := by decide +kernel
theorem dX0_gather_104 : decode cX0_gather 104 = .ok (.aload 4, 2) := by decide +kernel
theorem dX0_gather_106 : decode cX0_gather 106 = .ok (.aload_n 2, 1) := by decide +kernel
theorem dX0_gather_107 : decode cX0_gather 107 = .ok (.aload_n 1, 1) := by decide +kernel
theorem dX0_gather_108 : decode cX0_gather 108 = .ok (.iload 5, 2) := by decide +kernel
theorem dX0_gather_110 : decode cX0_gather 110 = .ok (.invokevirtual 74, 3) := by decide +kernel
theorem dX0_gather_113 : decode cX0_gather 113 = .ok (.invokevirtual 67, 3) := by decide +kernel
theorem dX0_gather_116 : decode cX0_gather 116 = .ok (.iconst (-1), 1) := by decide +kernel
theorem dX0_gather_117 : decode cX0_gather 117 = .ok (.invokestatic 70, 3) := by decide +kernel
theorem dX0_gather_120 : decode cX0_gather 120 = .ok (.iinc 3 1, 3) := by decide +kernel
theorem dX0_gather_123 : decode cX0_gather 123 = .ok (.goto (-103), 3) := by decide +kernel
theorem dX0_gather_126 : decode cX0_gather 126 = .ok (.return_, 1) := by decide +kernel
set_option maxRecDepth 20000 in
theorem ggX0_add_X5_isIn : GoodIn wsX0_add wsX5_isIn := goodIn_r _ [3] (by decide +kernel) (by decide +kernel)
set_option maxRecDepth 20000 in
theorem gX0_add_X5_isIn_n79 : GoodIn wsX0_add (wsX5_isIn) := ggX0_add_X5_isIn
theorem dX0_add_0 : decode cX0_add 0 = .ok (.aload_n 0, 1) := by decide +kernel
theorem dX0_add_1 : decode cX0_add 1 = .ok (.iload_n 1, 1) := by decide +kernel
theorem dX0_add_2 : decode cX0_add 2 = .ok (.invokestatic 79, 3) := by decide +kernel
theorem dX0_add_5 : decode cX0_add 5 = .ok (.ifCond .eq 10, 3) := by decide +kernel
theorem dX0_add_8 : decode cX0_add 8 = .ok (.aload_n 0, 1) := by decide +kernel
theorem dX0_add_9 : decode cX0_add 9 = .ok (.iload_n 1, 1) := by decide +kernel
theorem dX0_add_10 : decode cX0_add 10 = .ok (.dup2, 1) := by decide +kernel
theorem dX0_add_11 : decode cX0_add 11 = .ok (.iaload, 1) := by decide +kernel
theorem dX0_add_12 : decode cX0_add 12 = .ok (.iload_n 2, 1) := by decide +kernel
theorem dX0_add_13 : decode cX0_add 13 = .ok (.iadd, 1) := by decide +kernel
theorem dX0_add_14 : decode cX0_add 14 = .ok (.iastore, 1) := by decide +kernel
theorem dX0_add_15 : decode cX0_add 15 = .ok (.return_, 1) := by decide +kernel
theorem dX0_findRule_0 : decode cX0_findRule 0 = .ok (.iload_n 1, 1) := by decide +kernel
theorem dX0_findRule_1 : decode cX0_findRule 1 = .ok (.istore 4, 2) := by decide +kernel
theorem dX0_findRule_3 : decode cX0_findRule 3 = .ok (.iload 4, 2) := by decide +kernel
theorem dX0_findRule_5 : decode cX0_findRule 5 = .ok (.aload_n 0, 1) := by decide +kernel
theorem dX0_findRule_6 : decode cX0_findRule 6 = .ok (.getfield 24, 3) := by decide +kernel
theorem dX0_findRule_9 : decode cX0_findRule 9 = .ok (.if_icmp .ge 26, 3) := by decide +kernel
theorem dX0_findRule_12 : decode cX0_findRule 12 = .ok (.aload_n 0, 1) := by decide +kernel
theorem dX0_findRule_13 : decode cX0_findRule 13 = .ok (.getfield 11, 3) := by decide +kernel
theorem dX0_findRule_16 : decode cX0_findRule 16 = .ok (.iload 4, 2) := by decide +kernel
theorem dX0_findRule_18 : decode cX0_findRule 18 = .ok (.aaload, 1) := by decide +kernel
theorem dX0_findRule_19 : decode cX0_findRule 19 = .ok (.iload_n 2, 1) := by decide +kernel
theorem dX0_findRule_20 : decode cX0_findRule 20 = .ok (.iaload, 1) := by decide +kernel
theorem dX0_findRule_21 : decode cX0_findRule 21 = .ok (.iload_n 3, 1) := by decide +kernel
theorem dX0_findRule_22 : decode cX0_findRule 22 = .ok (.irem, 1) := by decide +kernel
theorem dX0_findRule_23 : decode cX0_findRule 23 = .ok (.ifCond .eq 6, 3) := by decide +kernel
theorem dX0_findRule_26 : decode cX0_findRule 26 = .ok (.iload 4, 2) := by decide +kernel
theorem dX0_findRule_28 : decode cX0_findRule 28 = .ok (.ireturn, 1) := by decide +kernel
theorem dX0_findRule_29 : decode cX0_findRule 29 = .ok (.iinc 4 1, 3) := by decide +kernel
theorem dX0_findRule_32 : decode cX0_findRule 32 = .ok (.goto (-29), 3) := by decide +kernel
theorem dX0_findRule_35 : decode cX0_findRule 35 = .ok (.bipush (-9), 2) := by decide +kernel
theorem dX0_findRule_37 : decode cX0_findRule 37 = .ok (.ireturn, 1) := by decide +kernel
theorem dX0_swap_0 : decode cX0_swap 0 = .ok (.aload_n 0, 1) := by decide +kernel
theorem dX0_swap_1 : decode cX0_swap 1 = .ok (.getfield 11, 3) := by decide +kernel
theorem dX0_swap_4 : decode cX0_swap 4 = .ok (.iload_n 1, 1) := by decide +kernel
theorem dX0_swap_5 : decode cX0_swap 5 = .ok (.aaload, 1) := by decide +kernel
theorem dX0_swap_6 : decode cX0_swap 6 = .ok (.astore_n 3, 1) := by decide +kernel
theorem dX0_swap_7 : decode cX0_swap 7 = .ok (.aload_n 0, 1) := by decide +kernel
theorem dX0_swap_8 : decode cX0_swap 8 = .ok (.getfield 11, 3) := by decide +kernel
theorem dX0_swap_11 : decode cX0_swap 11 = .ok (.iload_n 1, 1) := by decide +kernel
theorem dX0_swap_12 : decode cX0_swap 12 = .ok (.aload_n 0, 1) := by decide +kernel
theorem dX0_swap_13 : decode cX0_swap 13 = .ok (.getfield 11, 3) := by decide +kernel
theorem dX0_swap_16 : decode cX0_swap 16 = .ok (.iload_n 2, 1) := by decide +kernel
theorem dX0_swap_17 : decode cX0_swap 17 = .ok (.aaload, 1) := by decide +kernel
theorem dX0_swap_18 : decode cX0_swap 18 = .ok (.aastore, 1) := by decide +kernel
theorem dX0_swap_19 : decode cX0_swap 19 = .ok (.aload_n 0, 1) := by decide +kernel
theorem dX0_swap_20 : decode cX0_swap 20 = .ok (.getfield 11, 3) := by decide +kernel
theorem dX0_swap_23 : decode cX0_swap 23 = .ok (.iload_n 2, 1) := by decide +kernel
theorem dX0_swap_24 : decode cX0_swap 24 = .ok (.aload_n 3, 1) := by decide +kernel
theorem dX0_swap_25 : decode cX0_swap 25 = .ok (.aastore, 1) := by decide +kernel
theorem dX0_swap_26 : decode cX0_swap 26 = .ok (.return_, 1) := by decide +kernel
theorem dX0_clearBelow_0 : decode cX0_clearBelow 0 = .ok (.aload_n 0, 1) := by decide +kernel
theorem dX0_clearBelow_1 : decode cX0_clearBelow 1 = .ok (.getfield 11, 3) := by decide +kernel
theorem dX0_clearBelow_4 : decode cX0_clearBelow 4 = .ok (.iload_n 1, 1) := by decide +kernel
theorem dX0_clearBelow_5 : decode cX0_clearBelow 5 = .ok (.aaload, 1) := by decide +kernel
theorem dX0_clearBelow_6 : decode cX0_clearBelow 6 = .ok (.astore 4, 2) := by decide +kernel
theorem dX0_clearBelow_8 : decode cX0_clearBelow 8 = .ok (.aload 4, 2) := by decide +kernel
theorem dX0_clearBelow_10 : decode cX0_clearBelow 10 = .ok (.iload_n 2, 1) := by decide +kernel
theorem dX0_clearBelow_11 : decode cX0_clearBelow 11 = .ok (.iaload, 1) := by decide +kernel
theorem dX0_clearBelow_12 : decode cX0_clearBelow 12 = .ok (.istore 5, 2) := by decide +kernel
theorem dX0_clearBelow_14 : decode cX0_clearBelow 14 = .ok (.iload_n 1, 1) := by decide +kernel
theorem dX0_clearBelow_15 : decode cX0_clearBelow 15 = .ok (.iconst 1, 1) := by decide +kernel
theorem dX0_clearBelow_16 : decode cX0_clearBelow 16 = .ok (.iadd, 1) := by decide +kernel
theorem dX0_clearBelow_17 : decode cX0_clearBelow 17 = .ok (.istore 6, 2) := by decide +kernel
theorem dX0_clearBelow_19 : decode cX0_clearBelow 19 = .ok (.iload 6, 2) := by decide +kernel
theorem dX0_clearBelow_21 : decode cX0_clearBelow 21 = .ok (.aload_n 0, 1) := by decide +kernel
theorem dX0_clearBelow_22 : decode cX0_clearBelow 22 = .ok (.getfield 24, 3) := by decide +kernel
theorem dX0_clearBelow_25 : decode cX0_clearBelow 25 = .ok (.if_icmp .ge 73, 3) := by decide +kernel
theorem dX0_clearBelow_28 : decode cX0_clearBelow 28 = .ok (.aload_n 0, 1) := by decide +kernel
theorem dX0_clearBelow_29 : decode cX0_clearBelow 29 = .ok (.getfield 11, 3) := by decide +kernel
theorem dX0_clearBelow_32 : decode cX0_clearBelow 32 = .ok (.iload 6, 2) := by decide +kernel
theorem dX0_clearBelow_34 : decode cX0_clearBelow 34 = .ok (.aaload, 1) := by decide +kernel
theorem dX0_clearBelow_35 : decode cX0_clearBelow 35 = .ok (.astore 7, 2) := by decide +kernel
theorem dX0_clearBelow_37 : decode cX0_clearBelow 37 = .ok (.aload 7, 2) := by decide +kernel
theorem dX0_clearBelow_39 : decode cX0_clearBelow 39 = .ok (.iload_n 2, 1) := by decide +kernel
theorem dX0_clearBelow_40 : decode cX0_clearBelow 40 = .ok (.iaload, 1) := by decide +kernel
theorem dX0_clearBelow_41 : decode cX0_clearBelow 41 = .ok (.istore 8, 2) := by decide +kernel
theorem dX0_clearBelow_43 : decode cX0_clearBelow 43 = .ok (.iload 8, 2) := by decide +kernel
theorem dX0_clearBelow_45 : decode cX0_clearBelow 45 = .ok (.iload_n 3, 1) := by decide +kernel
theorem dX0_clearBelow_46 : decode cX0_clearBelow 46 = .ok (.irem, 1) := by decide +kernel
theorem dX0_clearBelow_47 : decode cX0_clearBelow 47 = .ok (.ifCond .eq 45, 3) := by decide +kernel
theorem dX0_clearBelow_50 : decode cX0_clearBelow 50 = .ok (.iload_n 2, 1) := by decide +kernel
theorem dX0_clearBelow_51 : decode cX0_clearBelow 51 = .ok (.istore 9, 2) := by decide +kernel
theorem dX0_clearBelow_53 : decode cX0_clearBelow 53 = .ok (.iload 9, 2) := by decide +kernel
theorem dX0_clearBelow_55 : decode cX0_clearBelow 55 = .ok (.aload_n 0, 1) := by decide +kernel
theorem dX0_clearBelow_56 : decode cX0_clearBelow 56 = .ok (.getfield 20, 3) := by decide +kernel
theorem dX0_clearBelow_59 : decode cX0_clearBelow 59 = .ok (.if_icmp .ge 33, 3) := by decide +kernel
theorem dX0_clearBelow_62 : decode cX0_clearBelow 62 = .ok (.aload 7, 2) := by decide +kernel
theorem dX0_clearBelow_64 : decode cX0_clearBelow 64 = .ok (.iload 9, 2) := by decide +kernel
theorem dX0_clearBelow_66 : decode cX0_clearBelow 66 = .ok (.aload 7, 2) := by decide +kernel
theorem dX0_clearBelow_68 : decode cX0_clearBelow 68 = .ok (.iload 9, 2) := by decide +kernel
theorem dX0_clearBelow_70 : decode cX0_clearBelow 70 = .ok (.iaload, 1) := by decide +kernel
theorem dX0_clearBelow_71 : decode cX0_clearBelow 71 = .ok (.iload 5, 2) := by decide +kernel
theorem dX0_clearBelow_73 : decode cX0_clearBelow 73 = .ok (.imul, 1) := by decide +kernel
theorem dX0_clearBelow_74 : decode cX0_clearBelow 74 = .ok (.aload 4, 2) := by decide +kernel
theorem dX0_clearBelow_76 : decode cX0_clearBelow 76 = .ok (.iload 9, 2) := by decide +kernel
theorem dX0_clearBelow_78 : decode cX0_clearBelow 78 = .ok (.iaload, 1) := by decide +kernel
theorem dX0_clearBelow_79 : decode cX0_clearBelow 79 = .ok (.iload 8, 2) := by decide +kernel
theorem dX0_clearBelow_81 : decode cX0_clearBelow 81 = .ok (.imul, 1) := by decide +kernel
theorem dX0_clearBelow_82 : decode cX0_clearBelow 82 = .ok (.isub, 1) := by decide +kernel
theorem dX0_clearBelow_83 : decode cX0_clearBelow 83 = .ok (.iload_n 3, 1) := by decide +kernel
theorem dX0_clearBelow_84 : decode cX0_clearBelow 84 = .ok (.irem, 1) := by decide +kernel
theorem dX0_clearBelow_85 : decode cX0_clearBelow 85 = .ok (.iastore, 1) := by decide +kernel
theorem dX0_clearBelow_86 : decode cX0_clearBelow 86 = .ok (.iinc 9 1, 3) := by decide +kernel
theorem dX0_clearBelow_89 : decode cX0_clearBelow 89 = .ok (.goto (-36), 3) := by decide +kernel
theorem dX0_clearBelow_92 : decode cX0_clearBelow 92 = .ok (.iinc 6 1, 3) := by decide +kernel
theorem dX0_clearBelow_95 : decode cX0_clearBelow 95 = .ok (.goto (-76), 3) := by decide +kernel
theorem dX0_clearBelow_98 : decode cX0_clearBelow 98 = .ok (.return_, 1) := by decide +kernel
theorem dX1_init_0 : decode cX1_init 0 = .ok (.aload_n 0, 1) := by decide +kernel
theorem dX1_init_1 : decode cX1_init 1 = .ok (.invokespecial 3, 3) := by decide +kernel
theorem dX1_init_4 : decode cX1_init 4 = .ok (.aload_n 0, 1) := by decide +kernel
theorem dX1_init_5 : decode cX1_init 5 = .ok (.sipush 144, 3) := by decide +kernel
theorem dX1_init_8 : decode cX1_init 8 = .ok (.newarray .int, 2) := by decide +kernel
theorem dX1_init_10 : decode cX1_init 10 = .ok (.putfield 9, 3) := by decide +kernel
theorem dX1_init_13 : decode cX1_init 13 = .ok (.aload_n 0, 1) := by decide +kernel
theorem dX1_init_14 : decode cX1_init 14 = .ok (.sipush 144, 3) := by decide +kernel
theorem dX1_init_17 : decode cX1_init 17 = .ok (.newarray .int, 2) := by decide +kernel
theorem dX1_init_19 : decode cX1_init 19 = .ok (.putfield 15, 3) := by decide +kernel
theorem dX1_init_22 : decode cX1_init 22 = .ok (.aload_n 0, 1) := by decide +kernel
theorem dX1_init_23 : decode cX1_init 23 = .ok (.bipush 60, 2) := by decide +kernel
theorem dX1_init_25 : decode cX1_init 25 = .ok (.newarray .int, 2) := by decide +kernel
theorem dX1_init_27 : decode cX1_init 27 = .ok (.putfield 18, 3) := by decide +kernel
theorem dX1_init_30 : decode cX1_init 30 = .ok (.aload_n 0, 1) := by decide +kernel
theorem dX1_init_31 : decode cX1_init 31 = .ok (.bipush 60, 2) := by decide +kernel
theorem dX1_init_33 : decode cX1_init 33 = .ok (.newarray .int, 2) := by decide +kernel
theorem dX1_init_35 : decode cX1_init 35 = .ok (.putfield 21, 3) := by decide +kernel
theorem dX1_init_38 : decode cX1_init 38 = .ok (.aload_n 0, 1) := by decide +kernel
theorem dX1_init_39 : decode cX1_init 39 = .ok (.bipush 36, 2) := by decide +kernel
theorem dX1_init_41 : decode cX1_init 41 = .ok (.newarray .int, 2) := by decide +kernel
theorem dX1_init_43 : decode cX1_init 43 = .ok (.putfield 24, 3) := by decide +kernel
theorem dX1_init_46 : decode cX1_init 46 = .ok (.aload_n 0, 1) := by decide +kernel
theorem dX1_init_47 : decode cX1_init 47 = .ok (.bipush 36, 2) := by decide +kernel
theorem dX1_init_49 : decode cX1_init 49 = .ok (.newarray .int, 2) := by decide +kernel
theorem dX1_init_51 : decode cX1_init 51 = .ok (.putfield 27, 3) := by decide +kernel
theorem dX1_init_54 : decode cX1_init 54 = .ok (.return_, 1) := by decide +kernel
set_option maxRecDepth 20000 in
theorem ggX1_survey_J7_fill_53178 : GoodIn wsX1_survey wsJ7_fill_53178 := goodIn_r _ [8] (by decide +kernel) (by decide +kernel)
set_option maxRecDepth 20000 in
theorem gX1_survey_J7_fill_53178 : GoodIn wsX1_survey (va_wsS RX1 30 yJ7_fill_53178 wsJ7_fill_53178) := goodIn_app (goodIn_of _ (by decide +kernel)) ggX1_survey_J7_fill_53178
set_option maxRecDepth 20000 in
theorem ggX1_survey_X1_passAt : GoodIn wsX1_survey wsX1_passAt := goodIn_r _ [13, 1, 2, 14, 15, 16, 17, 18, 19, 20, 21, 22, 23, 24, 25, 26, 27, 28, 29, 30, 31, 32, 33, 34, 35, 36, 37, 38, 39, 40, 41, 42, 43, 44, 45, 46, 86, 87, 88, 89, 90, 91, 92, 93, 94, 95, 96, 97, 98, 99, 100, 101, 102, 103, 104, 105, 106, 107, 108] (by decide +kernel) (by decide +kernel)
set_option maxRecDepth 20000 in
theorem gX1_survey_X1_passAt : GoodIn wsX1_survey (wsV RX1 42 RX1 yX1_passAt wsX1_passAt) := goodIn_app (goodIn_of _ (by decide +kernel)) ggX1_survey_X1_passAt
set_option maxRecDepth 20000 in
theorem ggX1_survey_X1_numberArcs : GoodIn wsX1_survey wsX1_numberArcs := goodIn_r _ [50, 3, 51, 4, 52, 53, 54, 55, 56, 15, 57, 58, 59, 60, 61, 20, 62, 63, 64, 65, 12, 66, 86, 87, 88, 89, 90, 91, 92, 93, 94, 95, 96, 97, 98, 99, 100, 101, 102] (by decide +kernel) (by decide +kernel)
set_option maxRecDepth 20000 in
theorem gX1_survey_X1_numberArcs : GoodIn wsX1_survey (wsV RX1 52 RX1 yX1_numberArcs wsX1_numberArcs) := goodIn_app (goodIn_of _ (by decide +kernel)) ggX1_survey_X1_numberArcs
set_option maxRecDepth 20000 in
theorem ggX1_survey_X1_tie : GoodIn wsX1_survey wsX1_tie := goodIn_r _ [70, 71, 72, 1, 2, 73, 74, 15, 75, 76, 77, 19, 20, 21, 78, 79, 80, 12, 81, 82, 83, 84, 85, 86, 87, 88, 89, 90, 91, 92, 93, 94, 95, 96, 97, 98, 99, 100, 101, 102] (by decide +kernel) (by decide +kernel)
set_option maxRecDepth 20000 in
theorem gX1_survey_X1_tie : GoodIn wsX1_survey (wsV RX1 56 RX1 yX1_tie wsX1_tie) := goodIn_app (goodIn_of _ (by decide +kernel)) ggX1_survey_X1_tie
theorem dX1_survey_0 : decode cX1_survey 0 = .ok (.aload_n 0, 1) := by decide +kernel
theorem dX1_survey_1 : decode cX1_survey 1 = .ok (.getfield 18, 3) := by decide +kernel
theorem dX1_survey_4 : decode cX1_survey 4 = .ok (.bipush (-9), 2) := by decide +kernel
theorem dX1_survey_6 : decode cX1_survey 6 = .ok (.invokestatic 30, 3) := by decide +kernel
theorem dX1_survey_9 : decode cX1_survey 9 = .ok (.aload_n 0, 1) := by decide +kernel
theorem dX1_survey_10 : decode cX1_survey 10 = .ok (.getfield 21, 3) := by decide +kernel
theorem dX1_survey_13 : decode cX1_survey 13 = .ok (.bipush (-9), 2) := by decide +kernel
theorem dX1_survey_15 : decode cX1_survey 15 = .ok (.invokestatic 30, 3) := by decide +kernel
theorem dX1_survey_18 : decode cX1_survey 18 = .ok (.iconst 0, 1) := by decide +kernel
theorem dX1_survey_19 : decode cX1_survey 19 = .ok (.istore_n 3, 1) := by decide +kernel
theorem dX1_survey_20 : decode cX1_survey 20 = .ok (.iload_n 3, 1) := by decide +kernel
theorem dX1_survey_21 : decode cX1_survey 21 = .ok (.aload_n 2, 1) := by decide +kernel
theorem dX1_survey_22 : decode cX1_survey 22 = .ok (.getfield 36, 3) := by decide +kernel
theorem dX1_survey_25 : decode cX1_survey 25 = .ok (.if_icmp .ge 29, 3) := by decide +kernel
theorem dX1_survey_28 : decode cX1_survey 28 = .ok (.iload_n 3, 1) := by decide +kernel
theorem dX1_survey_29 : decode cX1_survey 29 = .ok (.sipush 144, 3) := by decide +kernel
theorem dX1_survey_32 : decode cX1_survey 32 = .ok (.if_icmp .ge 22, 3) := by decide +kernel
theorem dX1_survey_35 : decode cX1_survey 35 = .ok (.aload_n 0, 1) := by decide +kernel
theorem dX1_survey_36 : decode cX1_survey 36 = .ok (.getfield 9, 3) := by decide +kernel
theorem dX1_survey_39 : decode cX1_survey 39 = .ok (.iload_n 3, 1) := by decide +kernel
theorem dX1_survey_40 : decode cX1_survey 40 = .ok (.aload_n 0, 1) := by decide +kernel
theorem dX1_survey_41 : decode cX1_survey 41 = .ok (.aload_n 1, 1) := by decide +kernel
theorem dX1_survey_42 : decode cX1_survey 42 = .ok (.aload_n 2, 1) := by decide +kernel
theorem dX1_survey_43 : decode cX1_survey 43 = .ok (.iload_n 3, 1) := by decide +kernel
theorem dX1_survey_44 : decode cX1_survey 44 = .ok (.invokevirtual 42, 3) := by decide +kernel
theorem dX1_survey_47 : decode cX1_survey 47 = .ok (.iastore, 1) := by decide +kernel
theorem dX1_survey_48 : decode cX1_survey 48 = .ok (.iinc 3 1, 3) := by decide +kernel
theorem dX1_survey_51 : decode cX1_survey 51 = .ok (.goto (-31), 3) := by decide +kernel
theorem dX1_survey_54 : decode cX1_survey 54 = .ok (.aload_n 0, 1) := by decide +kernel
theorem dX1_survey_55 : decode cX1_survey 55 = .ok (.iconst 0, 1) := by decide +kernel
theorem dX1_survey_56 : decode cX1_survey 56 = .ok (.putfield 46, 3) := by decide +kernel
theorem dX1_survey_59 : decode cX1_survey 59 = .ok (.iconst 0, 1) := by decide +kernel
theorem dX1_survey_60 : decode cX1_survey 60 = .ok (.istore_n 3, 1) := by decide +kernel
theorem dX1_survey_61 : decode cX1_survey 61 = .ok (.iload_n 3, 1) := by decide +kernel
theorem dX1_survey_62 : decode cX1_survey 62 = .ok (.aload_n 2, 1) := by decide +kernel
theorem dX1_survey_63 : decode cX1_survey 63 = .ok (.getfield 49, 3) := by decide +kernel
theorem dX1_survey_66 : decode cX1_survey 66 = .ok (.if_icmp .ge 15, 3) := by decide +kernel
theorem dX1_survey_69 : decode cX1_survey 69 = .ok (.aload_n 0, 1) := by decide +kernel
theorem dX1_survey_70 : decode cX1_survey 70 = .ok (.aload_n 2, 1) := by decide +kernel
theorem dX1_survey_71 : decode cX1_survey 71 = .ok (.iload_n 3, 1) := by decide +kernel
theorem dX1_survey_72 : decode cX1_survey 72 = .ok (.invokevirtual 52, 3) := by decide +kernel
theorem dX1_survey_75 : decode cX1_survey 75 = .ok (.iinc 3 1, 3) := by decide +kernel
theorem dX1_survey_78 : decode cX1_survey 78 = .ok (.goto (-17), 3) := by decide +kernel
theorem dX1_survey_81 : decode cX1_survey 81 = .ok (.aload_n 0, 1) := by decide +kernel
theorem dX1_survey_82 : decode cX1_survey 82 = .ok (.aload_n 2, 1) := by decide +kernel
theorem dX1_survey_83 : decode cX1_survey 83 = .ok (.invokevirtual 56, 3) := by decide +kernel
theorem dX1_survey_86 : decode cX1_survey 86 = .ok (.return_, 1) := by decide +kernel
set_option maxRecDepth 20000 in
theorem ggX1_passAt_X2_endAt : GoodIn wsX1_passAt wsX2_endAt := goodIn_r _ [6, 7, 8, 9, 10, 44, 45, 46, 47, 48, 49, 50, 51, 52] (by decide +kernel) (by decide +kernel)
set_option maxRecDepth 20000 in
theorem gX1_passAt_X2_endAt_n60 : GoodIn wsX1_passAt (wsX2_endAt) := ggX1_passAt_X2_endAt
set_option maxRecDepth 20000 in
theorem ggX1_passAt_X3_numberOf : GoodIn wsX1_passAt wsX3_numberOf := goodIn_r _ [14, 15, 16, 17, 12, 18, 19, 53, 54, 55, 56, 57, 58] (by decide +kernel) (by decide +kernel)
set_option maxRecDepth 20000 in
theorem gX1_passAt_X3_numberOf_n64 : GoodIn wsX1_passAt (wsX3_numberOf) := ggX1_passAt_X3_numberOf
set_option maxRecDepth 20000 in
theorem ggX1_passAt_X3_isCrossing : GoodIn wsX1_passAt wsX3_isCrossing := goodIn_r _ [22, 23, 24, 25, 12, 26, 27, 8, 9, 10, 53, 54, 55, 56, 57, 58] (by decide +kernel) (by decide +kernel)
set_option maxRecDepth 20000 in
theorem gX1_passAt_X3_isCrossing_n69 : GoodIn wsX1_passAt (wsX3_isCrossing) := ggX1_passAt_X3_isCrossing
set_option maxRecDepth 20000 in
theorem ggX1_passAt_X2_rightAt : GoodIn wsX1_passAt wsX2_rightAt := goodIn_r _ [30, 31, 8, 9, 10, 44, 45, 46, 47, 48, 49, 50, 51, 52] (by decide +kernel) (by decide +kernel)
set_option maxRecDepth 20000 in
theorem gX1_passAt_X2_rightAt_n73 : GoodIn wsX1_passAt (wsX2_rightAt) := ggX1_passAt_X2_rightAt
set_option maxRecDepth 20000 in
theorem ggX1_passAt_X2_downAt : GoodIn wsX1_passAt wsX2_downAt := goodIn_r _ [34, 35, 8, 9, 10, 44, 45, 46, 47, 48, 49, 50, 51, 52] (by decide +kernel) (by decide +kernel)
set_option maxRecDepth 20000 in
theorem gX1_passAt_X2_downAt_n76 : GoodIn wsX1_passAt (wsX2_downAt) := ggX1_passAt_X2_downAt
set_option maxRecDepth 20000 in
theorem ggX1_passAt_X3_kindOf : GoodIn wsX1_passAt wsX3_kindOf := goodIn_r _ [26, 27, 8, 9, 10, 53, 54, 55, 56, 57, 58] (by decide +kernel) (by decide +kernel)
set_option maxRecDepth 20000 in
theorem gX1_passAt_X3_kindOf_n79 : GoodIn wsX1_passAt (wsX3_kindOf) := ggX1_passAt_X3_kindOf
theorem dX1_passAt_0 : decode cX1_passAt 0 = .ok (.aload_n 2, 1) := by decide +kernel
theorem dX1_passAt_1 : decode cX1_passAt 1 = .ok (.iload_n 3, 1) := by decide +kernel
theorem dX1_passAt_2 : decode cX1_passAt 2 = .ok (.invokevirtual 60, 3) := by decide +kernel
theorem dX1_passAt_5 : decode cX1_passAt 5 = .ok (.istore 4, 2) := by decide +kernel
theorem dX1_passAt_7 : decode cX1_passAt 7 = .ok (.aload_n 1, 1) := by decide +kernel
theorem dX1_passAt_8 : decode cX1_passAt 8 = .ok (.iload 4, 2) := by decide +kernel
theorem dX1_passAt_10 : decode cX1_passAt 10 = .ok (.invokevirtual 64, 3) := by decide +kernel
theorem dX1_passAt_13 : decode cX1_passAt 13 = .ok (.istore 5, 2) := by decide +kernel
theorem dX1_passAt_15 : decode cX1_passAt 15 = .ok (.iload 5, 2) := by decide +kernel
theorem dX1_passAt_17 : decode cX1_passAt 17 = .ok (.ifCond .lt 19, 3) := by decide +kernel
theorem dX1_passAt_20 : decode cX1_passAt 20 = .ok (.iload 5, 2) := by decide +kernel
theorem dX1_passAt_22 : decode cX1_passAt 22 = .ok (.bipush 60, 2) := by decide +kernel
theorem dX1_passAt_24 : decode cX1_passAt 24 = .ok (.if_icmp .ge 12, 3) := by decide +kernel
theorem dX1_passAt_27 : decode cX1_passAt 27 = .ok (.aload_n 1, 1) := by decide +kernel
theorem dX1_passAt_28 : decode cX1_passAt 28 = .ok (.iload 5, 2) := by decide +kernel
theorem dX1_passAt_30 : decode cX1_passAt 30 = .ok (.invokevirtual 69, 3) := by decide +kernel
theorem dX1_passAt_33 : decode cX1_passAt 33 = .ok (.ifCond .ne 5, 3) := by decide +kernel
theorem dX1_passAt_36 : decode cX1_passAt 36 = .ok (.iconst 0, 1) := by decide +kernel
theorem dX1_passAt_37 : decode cX1_passAt 37 = .ok (.ireturn, 1) := by decide +kernel
theorem dX1_passAt_38 : decode cX1_passAt 38 = .ok (.aload_n 2, 1) := by decide +kernel
theorem dX1_passAt_39 : decode cX1_passAt 39 = .ok (.iload_n 3, 1) := by decide +kernel
theorem dX1_passAt_40 : decode cX1_passAt 40 = .ok (.invokevirtual 73, 3) := by decide +kernel
theorem dX1_passAt_43 : decode cX1_passAt 43 = .ok (.aload_n 2, 1) := by decide +kernel
theorem dX1_passAt_44 : decode cX1_passAt 44 = .ok (.iload_n 3, 1) := by decide +kernel
theorem dX1_passAt_45 : decode cX1_passAt 45 = .ok (.invokevirtual 76, 3) := by decide +kernel
theorem dX1_passAt_48 : decode cX1_passAt 48 = .ok (.if_icmp .ne 7, 3) := by decide +kernel
theorem dX1_passAt_51 : decode cX1_passAt 51 = .ok (.iconst 1, 1) := by decide +kernel
theorem dX1_passAt_52 : decode cX1_passAt 52 = .ok (.goto 4, 3) := by decide +kernel
theorem dX1_passAt_55 : decode cX1_passAt 55 = .ok (.iconst 0, 1) := by decide +kernel
theorem dX1_passAt_56 : decode cX1_passAt 56 = .ok (.istore 6, 2) := by decide +kernel
theorem dX1_passAt_58 : decode cX1_passAt 58 = .ok (.iload 4, 2) := by decide +kernel
theorem dX1_passAt_60 : decode cX1_passAt 60 = .ok (.bipush 100, 2) := by decide +kernel
theorem dX1_passAt_62 : decode cX1_passAt 62 = .ok (.idiv, 1) := by decide +kernel
theorem dX1_passAt_63 : decode cX1_passAt 63 = .ok (.iconst 2, 1) := by decide +kernel
theorem dX1_passAt_64 : decode cX1_passAt 64 = .ok (.irem, 1) := by decide +kernel
theorem dX1_passAt_65 : decode cX1_passAt 65 = .ok (.iconst 1, 1) := by decide +kernel
theorem dX1_passAt_66 : decode cX1_passAt 66 = .ok (.if_icmp .ne 7, 3) := by decide +kernel
theorem dX1_passAt_69 : decode cX1_passAt 69 = .ok (.iconst 1, 1) := by decide +kernel
theorem dX1_passAt_70 : decode cX1_passAt 70 = .ok (.goto 4, 3) := by decide +kernel
theorem dX1_passAt_73 : decode cX1_passAt 73 = .ok (.iconst 0, 1) := by decide +kernel
theorem dX1_passAt_74 : decode cX1_passAt 74 = .ok (.istore 7, 2) := by decide +kernel
theorem dX1_passAt_76 : decode cX1_passAt 76 = .ok (.iload 7, 2) := by decide +kernel
theorem dX1_passAt_78 : decode cX1_passAt 78 = .ok (.aload_n 1, 1) := by decide +kernel
theorem dX1_passAt_79 : decode cX1_passAt 79 = .ok (.iload 5, 2) := by decide +kernel
theorem dX1_passAt_81 : decode cX1_passAt 81 = .ok (.invokevirtual 79, 3) := by decide +kernel
theorem dX1_passAt_84 : decode cX1_passAt 84 = .ok (.iconst 3, 1) := by decide +kernel
theorem dX1_passAt_85 : decode cX1_passAt 85 = .ok (.if_icmp .ne 7, 3) := by decide +kernel
theorem dX1_passAt_88 : decode cX1_passAt 88 = .ok (.iconst 1, 1) := by decide +kernel
theorem dX1_passAt_89 : decode cX1_passAt 89 = .ok (.goto 4, 3) := by decide +kernel
theorem dX1_passAt_92 : decode cX1_passAt 92 = .ok (.iconst 0, 1) := by decide +kernel
theorem dX1_passAt_93 : decode cX1_passAt 93 = .ok (.if_icmp .eq 7, 3) := by decide +kernel
theorem dX1_passAt_96 : decode cX1_passAt 96 = .ok (.iconst 1, 1) := by decide +kernel
theorem dX1_passAt_97 : decode cX1_passAt 97 = .ok (.goto 4, 3) := by decide +kernel
theorem dX1_passAt_100 : decode cX1_passAt 100 = .ok (.iconst 0, 1) := by decide +kernel
theorem dX1_passAt_101 : decode cX1_passAt 101 = .ok (.istore 8, 2) := by decide +kernel
theorem dX1_passAt_103 : decode cX1_passAt 103 = .ok (.iload 6, 2) := by decide +kernel
theorem dX1_passAt_105 : decode cX1_passAt 105 = .ok (.iload 8, 2) := by decide +kernel
theorem dX1_passAt_107 : decode cX1_passAt 107 = .ok (.if_icmp .ne 13, 3) := by decide +kernel
theorem dX1_passAt_110 : decode cX1_passAt 110 = .ok (.aload_n 0, 1) := by decide +kernel
theorem dX1_passAt_111 : decode cX1_passAt 111 = .ok (.getfield 18, 3) := by decide +kernel
theorem dX1_passAt_114 : decode cX1_passAt 114 = .ok (.iload 5, 2) := by decide +kernel
theorem dX1_passAt_116 : decode cX1_passAt 116 = .ok (.iload_n 3, 1) := by decide +kernel
theorem dX1_passAt_117 : decode cX1_passAt 117 = .ok (.iastore, 1) := by decide +kernel
theorem dX1_passAt_118 : decode cX1_passAt 118 = .ok (.iconst 1, 1) := by decide +kernel
theorem dX1_passAt_119 : decode cX1_passAt 119 = .ok (.ireturn, 1) := by decide +kernel
theorem dX1_passAt_120 : decode cX1_passAt 120 = .ok (.aload_n 0, 1) := by decide +kernel
theorem dX1_passAt_121 : decode cX1_passAt 121 = .ok (.getfield 21, 3) := by decide +kernel
theorem dX1_passAt_124 : decode cX1_passAt 124 = .ok (.iload 5, 2) := by decide +kernel
theorem dX1_passAt_126 : decode cX1_passAt 126 = .ok (.iload_n 3, 1) := by decide +kernel
theorem dX1_passAt_127 : decode cX1_passAt 127 = .ok (.iastore, 1) := by decide +kernel
theorem dX1_passAt_128 : decode cX1_passAt 128 = .ok (.iconst 2, 1) := by decide +kernel
theorem dX1_passAt_129 : decode cX1_passAt 129 = .ok (.ireturn, 1) := by decide +kernel
set_option maxRecDepth 20000 in
theorem ggX1_numberArcs_X2_firstStep : GoodIn wsX1_numberArcs wsX2_firstStep := goodIn_r _ [11, 12, 13, 14, 15, 16, 30, 31, 32, 33, 34, 35, 36, 37, 38] (by decide +kernel) (by decide +kernel)
set_option maxRecDepth 20000 in
theorem gX1_numberArcs_X2_firstStep_n82 : GoodIn wsX1_numberArcs (wsX2_firstStep) := ggX1_numberArcs_X2_firstStep
set_option maxRecDepth 20000 in
theorem ggX1_numberArcs_X1_countPasses : GoodIn wsX1_numberArcs wsX1_countPasses := goodIn_r _ [21, 1, 8, 9, 10, 11, 12, 13, 14, 15, 16, 22, 23, 24, 25, 26, 27, 28, 29, 30, 31, 32, 33, 34, 35, 36, 37, 38] (by decide +kernel) (by decide +kernel)
set_option maxRecDepth 20000 in
theorem gX1_numberArcs_X1_countPasses : GoodIn wsX1_numberArcs (wsV RX1 85 RX1 yX1_countPasses wsX1_countPasses) := goodIn_app (goodIn_of _ (by decide +kernel)) ggX1_numberArcs_X1_countPasses
set_option maxRecDepth 20000 in
theorem ggX1_numberArcs_X5_isIn : GoodIn wsX1_numberArcs wsX5_isIn := goodIn_r _ [16] (by decide +kernel) (by decide +kernel)
set_option maxRecDepth 20000 in
theorem gX1_numberArcs_X5_isIn_n89 : GoodIn wsX1_numberArcs (wsX5_isIn) := ggX1_numberArcs_X5_isIn
theorem dX1_numberArcs_0 : decode cX1_numberArcs 0 = .ok (.aload_n 1, 1) := by decide +kernel
theorem dX1_numberArcs_1 : decode cX1_numberArcs 1 = .ok (.iload_n 2, 1) := by decide +kernel
theorem dX1_numberArcs_2 : decode cX1_numberArcs 2 = .ok (.iconst 1, 1) := by decide +kernel
theorem dX1_numberArcs_3 : decode cX1_numberArcs 3 = .ok (.iadd, 1) := by decide +kernel
theorem dX1_numberArcs_4 : decode cX1_numberArcs 4 = .ok (.invokevirtual 82, 3) := by decide +kernel
theorem dX1_numberArcs_7 : decode cX1_numberArcs 7 = .ok (.istore_n 3, 1) := by decide +kernel
theorem dX1_numberArcs_8 : decode cX1_numberArcs 8 = .ok (.aload_n 0, 1) := by decide +kernel
theorem dX1_numberArcs_9 : decode cX1_numberArcs 9 = .ok (.aload_n 1, 1) := by decide +kernel
theorem dX1_numberArcs_10 : decode cX1_numberArcs 10 = .ok (.iload_n 2, 1) := by decide +kernel
theorem dX1_numberArcs_11 : decode cX1_numberArcs 11 = .ok (.iconst 2, 1) := by decide +kernel
theorem dX1_numberArcs_12 : decode cX1_numberArcs 12 = .ok (.invokevirtual 85, 3) := by decide +kernel
theorem dX1_numberArcs_15 : decode cX1_numberArcs 15 = .ok (.istore 4, 2) := by decide +kernel
theorem dX1_numberArcs_17 : decode cX1_numberArcs 17 = .ok (.iconst 0, 1) := by decide +kernel
theorem dX1_numberArcs_18 : decode cX1_numberArcs 18 = .ok (.istore 5, 2) := by decide +kernel
theorem dX1_numberArcs_20 : decode cX1_numberArcs 20 = .ok (.aload_n 1, 1) := by decide +kernel
theorem dX1_numberArcs_21 : decode cX1_numberArcs 21 = .ok (.iload_n 2, 1) := by decide +kernel
theorem dX1_numberArcs_22 : decode cX1_numberArcs 22 = .ok (.invokevirtual 82, 3) := by decide +kernel
theorem dX1_numberArcs_25 : decode cX1_numberArcs 25 = .ok (.istore 6, 2) := by decide +kernel
theorem dX1_numberArcs_27 : decode cX1_numberArcs 27 = .ok (.iload 6, 2) := by decide +kernel
theorem dX1_numberArcs_29 : decode cX1_numberArcs 29 = .ok (.iload_n 3, 1) := by decide +kernel
theorem dX1_numberArcs_30 : decode cX1_numberArcs 30 = .ok (.if_icmp .ge 60, 3) := by decide +kernel
theorem dX1_numberArcs_33 : decode cX1_numberArcs 33 = .ok (.aload_n 0, 1) := by decide +kernel
theorem dX1_numberArcs_34 : decode cX1_numberArcs 34 = .ok (.getfield 9, 3) := by decide +kernel
theorem dX1_numberArcs_37 : decode cX1_numberArcs 37 = .ok (.iload 6, 2) := by decide +kernel
theorem dX1_numberArcs_39 : decode cX1_numberArcs 39 = .ok (.invokestatic 89, 3) := by decide +kernel
theorem dX1_numberArcs_42 : decode cX1_numberArcs 42 = .ok (.ifCond .eq 48, 3) := by decide +kernel
theorem dX1_numberArcs_45 : decode cX1_numberArcs 45 = .ok (.aload_n 0, 1) := by decide +kernel
theorem dX1_numberArcs_46 : decode cX1_numberArcs 46 = .ok (.getfield 15, 3) := by decide +kernel
theorem dX1_numberArcs_49 : decode cX1_numberArcs 49 = .ok (.iload 6, 2) := by decide +kernel
theorem dX1_numberArcs_51 : decode cX1_numberArcs 51 = .ok (.aload_n 0, 1) := by decide +kernel
theorem dX1_numberArcs_52 : decode cX1_numberArcs 52 = .ok (.getfield 46, 3) := by decide +kernel
theorem dX1_numberArcs_55 : decode cX1_numberArcs 55 = .ok (.iload 5, 2) := by decide +kernel
theorem dX1_numberArcs_57 : decode cX1_numberArcs 57 = .ok (.iload 4, 2) := by decide +kernel
theorem dX1_numberArcs_59 : decode cX1_numberArcs 59 = .ok (.if_icmp .ge 8, 3) := by decide +kernel
theorem dX1_numberArcs_62 : decode cX1_numberArcs 62 = .ok (.iload 5, 2) := by decide +kernel
theorem dX1_numberArcs_64 : decode cX1_numberArcs 64 = .ok (.goto 4, 3) := by decide +kernel
theorem dX1_numberArcs_67 : decode cX1_numberArcs 67 = .ok (.iconst 0, 1) := by decide +kernel
theorem dX1_numberArcs_68 : decode cX1_numberArcs 68 = .ok (.iadd, 1) := by decide +kernel
theorem dX1_numberArcs_69 : decode cX1_numberArcs 69 = .ok (.iastore, 1) := by decide +kernel
theorem dX1_numberArcs_70 : decode cX1_numberArcs 70 = .ok (.aload_n 0, 1) := by decide +kernel
theorem dX1_numberArcs_71 : decode cX1_numberArcs 71 = .ok (.getfield 9, 3) := by decide +kernel
theorem dX1_numberArcs_74 : decode cX1_numberArcs 74 = .ok (.iload 6, 2) := by decide +kernel
theorem dX1_numberArcs_76 : decode cX1_numberArcs 76 = .ok (.iaload, 1) := by decide +kernel
theorem dX1_numberArcs_77 : decode cX1_numberArcs 77 = .ok (.iconst 2, 1) := by decide +kernel
theorem dX1_numberArcs_78 : decode cX1_numberArcs 78 = .ok (.if_icmp .ne 6, 3) := by decide +kernel
theorem dX1_numberArcs_81 : decode cX1_numberArcs 81 = .ok (.iinc 5 1, 3) := by decide +kernel
theorem dX1_numberArcs_84 : decode cX1_numberArcs 84 = .ok (.iinc 6 1, 3) := by decide +kernel
theorem dX1_numberArcs_87 : decode cX1_numberArcs 87 = .ok (.goto (-60), 3) := by decide +kernel
theorem dX1_numberArcs_90 : decode cX1_numberArcs 90 = .ok (.aload_n 0, 1) := by decide +kernel
theorem dX1_numberArcs_91 : decode cX1_numberArcs 91 = .ok (.dup, 1) := by decide +kernel
theorem dX1_numberArcs_92 : decode cX1_numberArcs 92 = .ok (.getfield 46, 3) := by decide +kernel
theorem dX1_numberArcs_95 : decode cX1_numberArcs 95 = .ok (.iload 4, 2) := by decide +kernel
theorem dX1_numberArcs_97 : decode cX1_numberArcs 97 = .ok (.iconst 1, 1) := by decide +kernel
theorem dX1_numberArcs_98 : decode cX1_numberArcs 98 = .ok (.invokestatic 93, 3) := by decide +kernel
theorem dX1_numberArcs_101 : decode cX1_numberArcs 101 = .ok (.iadd, 1) := by decide +kernel
theorem dX1_numberArcs_102 : decode cX1_numberArcs 102 = .ok (.putfield 46, 3) := by decide +kernel
theorem dX1_numberArcs_105 : decode cX1_numberArcs 105 = .ok (.return_, 1) := by decide +kernel
set_option maxRecDepth 20000 in
theorem ggX1_tie_X2_ownerAt : GoodIn wsX1_tie wsX2_ownerAt := goodIn_r _ [9, 10, 11, 12, 13, 31, 32, 33, 34, 35, 36, 37, 38, 39] (by decide +kernel) (by decide +kernel)
set_option maxRecDepth 20000 in
theorem gX1_tie_X2_ownerAt_n102 : GoodIn wsX1_tie (wsX2_ownerAt) := ggX1_tie_X2_ownerAt
set_option maxRecDepth 20000 in
theorem ggX1_tie_X1_groupOf : GoodIn wsX1_tie wsX1_groupOf := goodIn_r _ [18, 2, 11, 12, 13, 23, 24, 25, 26, 27, 28, 29, 30] (by decide +kernel) (by decide +kernel)
set_option maxRecDepth 20000 in
theorem gX1_tie_X1_groupOf : GoodIn wsX1_tie (wsV RX1 105 RX1 yX1_groupOf wsX1_groupOf) := goodIn_app (goodIn_of _ (by decide +kernel)) ggX1_tie_X1_groupOf
set_option maxRecDepth 20000 in
theorem ggX1_tie_X1_regroup : GoodIn wsX1_tie wsX1_regroup := goodIn_r _ [22, 2, 23, 24, 25, 26, 27, 28, 29, 30] (by decide +kernel) (by decide +kernel)
set_option maxRecDepth 20000 in
theorem gX1_tie_X1_regroup : GoodIn wsX1_tie (wsV RX1 108 RX1 yX1_regroup wsX1_regroup) := goodIn_app (goodIn_of _ (by decide +kernel)) ggX1_tie_X1_regroup
theorem dX1_tie_0 : decode cX1_tie 0 = .ok (.aload_n 0, 1) := by decide +kernel
theorem dX1_tie_1 : decode cX1_tie 1 = .ok (.iconst 0, 1) := by decide +kernel
theorem dX1_tie_2 : decode cX1_tie 2 = .ok (.putfield 99, 3) := by decide +kernel
theorem dX1_tie_5 : decode cX1_tie 5 = .ok (.iconst 0, 1) := by decide +kernel
theorem dX1_tie_6 : decode cX1_tie 6 = .ok (.istore_n 2, 1) := by decide +kernel
theorem dX1_tie_7 : decode cX1_tie 7 = .ok (.iload_n 2, 1) := by decide +kernel
theorem dX1_tie_8 : decode cX1_tie 8 = .ok (.bipush 36, 2) := by decide +kernel
theorem dX1_tie_10 : decode cX1_tie 10 = .ok (.if_icmp .ge 16, 3) := by decide +kernel
theorem dX1_tie_13 : decode cX1_tie 13 = .ok (.aload_n 0, 1) := by decide +kernel
theorem dX1_tie_14 : decode cX1_tie 14 = .ok (.getfield 27, 3) := by decide +kernel
theorem dX1_tie_17 : decode cX1_tie 17 = .ok (.iload_n 2, 1) := by decide +kernel
theorem dX1_tie_18 : decode cX1_tie 18 = .ok (.iload_n 2, 1) := by decide +kernel
theorem dX1_tie_19 : decode cX1_tie 19 = .ok (.iastore, 1) := by decide +kernel
theorem dX1_tie_20 : decode cX1_tie 20 = .ok (.iinc 2 1, 3) := by decide +kernel
theorem dX1_tie_23 : decode cX1_tie 23 = .ok (.goto (-16), 3) := by decide +kernel
theorem dX1_tie_26 : decode cX1_tie 26 = .ok (.iconst 0, 1) := by decide +kernel
theorem dX1_tie_27 : decode cX1_tie 27 = .ok (.istore_n 2, 1) := by decide +kernel
theorem dX1_tie_28 : decode cX1_tie 28 = .ok (.iload_n 2, 1) := by decide +kernel
theorem dX1_tie_29 : decode cX1_tie 29 = .ok (.bipush 60, 2) := by decide +kernel
theorem dX1_tie_31 : decode cX1_tie 31 = .ok (.if_icmp .ge 82, 3) := by decide +kernel
theorem dX1_tie_34 : decode cX1_tie 34 = .ok (.aload_n 0, 1) := by decide +kernel
theorem dX1_tie_35 : decode cX1_tie 35 = .ok (.aload_n 1, 1) := by decide +kernel
theorem dX1_tie_36 : decode cX1_tie 36 = .ok (.aload_n 0, 1) := by decide +kernel
theorem dX1_tie_37 : decode cX1_tie 37 = .ok (.getfield 18, 3) := by decide +kernel
theorem dX1_tie_40 : decode cX1_tie 40 = .ok (.iload_n 2, 1) := by decide +kernel
theorem dX1_tie_41 : decode cX1_tie 41 = .ok (.iaload, 1) := by decide +kernel
theorem dX1_tie_42 : decode cX1_tie 42 = .ok (.invokevirtual 102, 3) := by decide +kernel
theorem dX1_tie_45 : decode cX1_tie 45 = .ok (.invokevirtual 105, 3) := by decide +kernel
theorem dX1_tie_48 : decode cX1_tie 48 = .ok (.istore_n 3, 1) := by decide +kernel
theorem dX1_tie_49 : decode cX1_tie 49 = .ok (.aload_n 0, 1) := by decide +kernel
theorem dX1_tie_50 : decode cX1_tie 50 = .ok (.aload_n 1, 1) := by decide +kernel
theorem dX1_tie_51 : decode cX1_tie 51 = .ok (.aload_n 0, 1) := by decide +kernel
theorem dX1_tie_52 : decode cX1_tie 52 = .ok (.getfield 21, 3) := by decide +kernel
theorem dX1_tie_55 : decode cX1_tie 55 = .ok (.iload_n 2, 1) := by decide +kernel
theorem dX1_tie_56 : decode cX1_tie 56 = .ok (.iaload, 1) := by decide +kernel
theorem dX1_tie_57 : decode cX1_tie 57 = .ok (.invokevirtual 102, 3) := by decide +kernel
theorem dX1_tie_60 : decode cX1_tie 60 = .ok (.invokevirtual 105, 3) := by decide +kernel
theorem dX1_tie_63 : decode cX1_tie 63 = .ok (.istore 4, 2) := by decide +kernel
theorem dX1_tie_65 : decode cX1_tie 65 = .ok (.iload_n 3, 1) := by decide +kernel
theorem dX1_tie_66 : decode cX1_tie 66 = .ok (.iload 4, 2) := by decide +kernel
theorem dX1_tie_68 : decode cX1_tie 68 = .ok (.if_icmp .eq 39, 3) := by decide +kernel
theorem dX1_tie_71 : decode cX1_tie 71 = .ok (.aload_n 0, 1) := by decide +kernel
theorem dX1_tie_72 : decode cX1_tie 72 = .ok (.getfield 99, 3) := by decide +kernel
theorem dX1_tie_75 : decode cX1_tie 75 = .ok (.bipush 36, 2) := by decide +kernel
theorem dX1_tie_77 : decode cX1_tie 77 = .ok (.if_icmp .ge 30, 3) := by decide +kernel
theorem dX1_tie_80 : decode cX1_tie 80 = .ok (.aload_n 0, 1) := by decide +kernel
theorem dX1_tie_81 : decode cX1_tie 81 = .ok (.getfield 24, 3) := by decide +kernel
theorem dX1_tie_84 : decode cX1_tie 84 = .ok (.aload_n 0, 1) := by decide +kernel
theorem dX1_tie_85 : decode cX1_tie 85 = .ok (.getfield 99, 3) := by decide +kernel
theorem dX1_tie_88 : decode cX1_tie 88 = .ok (.iload_n 2, 1) := by decide +kernel
theorem dX1_tie_89 : decode cX1_tie 89 = .ok (.iastore, 1) := by decide +kernel
theorem dX1_tie_90 : decode cX1_tie 90 = .ok (.aload_n 0, 1) := by decide +kernel
theorem dX1_tie_91 : decode cX1_tie 91 = .ok (.dup, 1) := by decide +kernel
theorem dX1_tie_92 : decode cX1_tie 92 = .ok (.getfield 99, 3) := by decide +kernel
theorem dX1_tie_95 : decode cX1_tie 95 = .ok (.iconst 1, 1) := by decide +kernel
theorem dX1_tie_96 : decode cX1_tie 96 = .ok (.iadd, 1) := by decide +kernel
theorem dX1_tie_97 : decode cX1_tie 97 = .ok (.putfield 99, 3) := by decide +kernel
theorem dX1_tie_100 : decode cX1_tie 100 = .ok (.aload_n 0, 1) := by decide +kernel
theorem dX1_tie_101 : decode cX1_tie 101 = .ok (.iload_n 3, 1) := by decide +kernel
theorem dX1_tie_102 : decode cX1_tie 102 = .ok (.iload 4, 2) := by decide +kernel
theorem dX1_tie_104 : decode cX1_tie 104 = .ok (.invokevirtual 108, 3) := by decide +kernel
theorem dX1_tie_107 : decode cX1_tie 107 = .ok (.iinc 2 1, 3) := by decide +kernel
theorem dX1_tie_110 : decode cX1_tie 110 = .ok (.goto (-82), 3) := by decide +kernel
theorem dX1_tie_113 : decode cX1_tie 113 = .ok (.return_, 1) := by decide +kernel
set_option maxRecDepth 20000 in
theorem ggX1_groupOf_X5_at : GoodIn wsX1_groupOf wsX5_at := goodIn_r _ [4] (by decide +kernel) (by decide +kernel)
set_option maxRecDepth 20000 in
theorem gX1_groupOf_X5_at_n112 : GoodIn wsX1_groupOf (wsX5_at) := ggX1_groupOf_X5_at
theorem dX1_groupOf_0 : decode cX1_groupOf 0 = .ok (.aload_n 0, 1) := by decide +kernel
theorem dX1_groupOf_1 : decode cX1_groupOf 1 = .ok (.getfield 27, 3) := by decide +kernel
theorem dX1_groupOf_4 : decode cX1_groupOf 4 = .ok (.iload_n 1, 1) := by decide +kernel
theorem dX1_groupOf_5 : decode cX1_groupOf 5 = .ok (.invokestatic 112, 3) := by decide +kernel
theorem dX1_groupOf_8 : decode cX1_groupOf 8 = .ok (.ireturn, 1) := by decide +kernel
theorem dX1_regroup_0 : decode cX1_regroup 0 = .ok (.iconst 0, 1) := by decide +kernel
theorem dX1_regroup_1 : decode cX1_regroup 1 = .ok (.istore_n 3, 1) := by decide +kernel
theorem dX1_regroup_2 : decode cX1_regroup 2 = .ok (.iload_n 3, 1) := by decide +kernel
theorem dX1_regroup_3 : decode cX1_regroup 3 = .ok (.bipush 36, 2) := by decide +kernel
theorem dX1_regroup_5 : decode cX1_regroup 5 = .ok (.if_icmp .ge 26, 3) := by decide +kernel
theorem dX1_regroup_8 : decode cX1_regroup 8 = .ok (.aload_n 0, 1) := by decide +kernel
theorem dX1_regroup_9 : decode cX1_regroup 9 = .ok (.getfield 27, 3) := by decide +kernel
theorem dX1_regroup_12 : decode cX1_regroup 12 = .ok (.iload_n 3, 1) := by decide +kernel
theorem dX1_regroup_13 : decode cX1_regroup 13 = .ok (.iaload, 1) := by decide +kernel
theorem dX1_regroup_14 : decode cX1_regroup 14 = .ok (.iload_n 1, 1) := by decide +kernel
theorem dX1_regroup_15 : decode cX1_regroup 15 = .ok (.if_icmp .ne 10, 3) := by decide +kernel
theorem dX1_regroup_18 : decode cX1_regroup 18 = .ok (.aload_n 0, 1) := by decide +kernel
theorem dX1_regroup_19 : decode cX1_regroup 19 = .ok (.getfield 27, 3) := by decide +kernel
theorem dX1_regroup_22 : decode cX1_regroup 22 = .ok (.iload_n 3, 1) := by decide +kernel
theorem dX1_regroup_23 : decode cX1_regroup 23 = .ok (.iload_n 2, 1) := by decide +kernel
theorem dX1_regroup_24 : decode cX1_regroup 24 = .ok (.iastore, 1) := by decide +kernel
theorem dX1_regroup_25 : decode cX1_regroup 25 = .ok (.iinc 3 1, 3) := by decide +kernel
theorem dX1_regroup_28 : decode cX1_regroup 28 = .ok (.goto (-26), 3) := by decide +kernel
theorem dX1_regroup_31 : decode cX1_regroup 31 = .ok (.return_, 1) := by decide +kernel
set_option maxRecDepth 20000 in
theorem ggX1_tieAt_X5_at : GoodIn wsX1_tieAt wsX5_at := goodIn_r _ [4] (by decide +kernel) (by decide +kernel)
set_option maxRecDepth 20000 in
theorem gX1_tieAt_X5_at_n112 : GoodIn wsX1_tieAt (wsX5_at) := ggX1_tieAt_X5_at
theorem dX1_tieAt_0 : decode cX1_tieAt 0 = .ok (.aload_n 0, 1) := by decide +kernel
theorem dX1_tieAt_1 : decode cX1_tieAt 1 = .ok (.getfield 24, 3) := by decide +kernel
theorem dX1_tieAt_4 : decode cX1_tieAt 4 = .ok (.iload_n 1, 1) := by decide +kernel
theorem dX1_tieAt_5 : decode cX1_tieAt 5 = .ok (.invokestatic 112, 3) := by decide +kernel
theorem dX1_tieAt_8 : decode cX1_tieAt 8 = .ok (.ireturn, 1) := by decide +kernel
set_option maxRecDepth 20000 in
theorem ggX1_overAt_X5_at : GoodIn wsX1_overAt wsX5_at := goodIn_r _ [4] (by decide +kernel) (by decide +kernel)
set_option maxRecDepth 20000 in
theorem gX1_overAt_X5_at_n112 : GoodIn wsX1_overAt (wsX5_at) := ggX1_overAt_X5_at
theorem dX1_overAt_0 : decode cX1_overAt 0 = .ok (.aload_n 0, 1) := by decide +kernel
theorem dX1_overAt_1 : decode cX1_overAt 1 = .ok (.getfield 18, 3) := by decide +kernel
theorem dX1_overAt_4 : decode cX1_overAt 4 = .ok (.iload_n 1, 1) := by decide +kernel
theorem dX1_overAt_5 : decode cX1_overAt 5 = .ok (.invokestatic 112, 3) := by decide +kernel
theorem dX1_overAt_8 : decode cX1_overAt 8 = .ok (.ireturn, 1) := by decide +kernel
set_option maxRecDepth 20000 in
theorem ggX1_underAt_X5_at : GoodIn wsX1_underAt wsX5_at := goodIn_r _ [4] (by decide +kernel) (by decide +kernel)
set_option maxRecDepth 20000 in
theorem gX1_underAt_X5_at_n112 : GoodIn wsX1_underAt (wsX5_at) := ggX1_underAt_X5_at
theorem dX1_underAt_0 : decode cX1_underAt 0 = .ok (.aload_n 0, 1) := by decide +kernel
theorem dX1_underAt_1 : decode cX1_underAt 1 = .ok (.getfield 21, 3) := by decide +kernel
theorem dX1_underAt_4 : decode cX1_underAt 4 = .ok (.iload_n 1, 1) := by decide +kernel
theorem dX1_underAt_5 : decode cX1_underAt 5 = .ok (.invokestatic 112, 3) := by decide +kernel
theorem dX1_underAt_8 : decode cX1_underAt 8 = .ok (.ireturn, 1) := by decide +kernel
set_option maxRecDepth 20000 in
theorem ggX1_arcAt_X5_at : GoodIn wsX1_arcAt wsX5_at := goodIn_r _ [4] (by decide +kernel) (by decide +kernel)
set_option maxRecDepth 20000 in
theorem gX1_arcAt_X5_at_n112 : GoodIn wsX1_arcAt (wsX5_at) := ggX1_arcAt_X5_at
theorem dX1_arcAt_0 : decode cX1_arcAt 0 = .ok (.aload_n 0, 1) := by decide +kernel
theorem dX1_arcAt_1 : decode cX1_arcAt 1 = .ok (.getfield 15, 3) := by decide +kernel
theorem dX1_arcAt_4 : decode cX1_arcAt 4 = .ok (.iload_n 1, 1) := by decide +kernel
theorem dX1_arcAt_5 : decode cX1_arcAt 5 = .ok (.invokestatic 112, 3) := by decide +kernel
theorem dX1_arcAt_8 : decode cX1_arcAt 8 = .ok (.ireturn, 1) := by decide +kernel
set_option maxRecDepth 20000 in
theorem ggX1_isHere_X1_overAt : GoodIn wsX1_isHere wsX1_overAt := goodIn_r _ [5, 6, 7, 8, 9, 15, 16, 17, 18, 19, 20, 21, 22] (by decide +kernel) (by decide +kernel)
set_option maxRecDepth 20000 in
theorem gX1_isHere_X1_overAt : GoodIn wsX1_isHere (wsV RX1 116 RX1 yX1_overAt wsX1_overAt) := goodIn_app (goodIn_of _ (by decide +kernel)) ggX1_isHere_X1_overAt
set_option maxRecDepth 20000 in
theorem ggX1_isHere_X1_underAt : GoodIn wsX1_isHere wsX1_underAt := goodIn_r _ [13, 14, 7, 8, 9, 15, 16, 17, 18, 19, 20, 21, 22] (by decide +kernel) (by decide +kernel)
set_option maxRecDepth 20000 in
theorem gX1_isHere_X1_underAt : GoodIn wsX1_isHere (wsV RX1 119 RX1 yX1_underAt wsX1_underAt) := goodIn_app (goodIn_of _ (by decide +kernel)) ggX1_isHere_X1_underAt
theorem dX1_isHere_0 : decode cX1_isHere 0 = .ok (.aload_n 0, 1) := by decide +kernel
theorem dX1_isHere_1 : decode cX1_isHere 1 = .ok (.iload_n 1, 1) := by decide +kernel
theorem dX1_isHere_2 : decode cX1_isHere 2 = .ok (.invokevirtual 116, 3) := by decide +kernel
theorem dX1_isHere_5 : decode cX1_isHere 5 = .ok (.ifCond .lt 15, 3) := by decide +kernel
theorem dX1_isHere_8 : decode cX1_isHere 8 = .ok (.aload_n 0, 1) := by decide +kernel
theorem dX1_isHere_9 : decode cX1_isHere 9 = .ok (.iload_n 1, 1) := by decide +kernel
theorem dX1_isHere_10 : decode cX1_isHere 10 = .ok (.invokevirtual 119, 3) := by decide +kernel
theorem dX1_isHere_13 : decode cX1_isHere 13 = .ok (.ifCond .lt 7, 3) := by decide +kernel
theorem dX1_isHere_16 : decode cX1_isHere 16 = .ok (.iconst 1, 1) := by decide +kernel
theorem dX1_isHere_17 : decode cX1_isHere 17 = .ok (.goto 4, 3) := by decide +kernel
theorem dX1_isHere_20 : decode cX1_isHere 20 = .ok (.iconst 0, 1) := by decide +kernel
theorem dX1_isHere_21 : decode cX1_isHere 21 = .ok (.ireturn, 1) := by decide +kernel
set_option maxRecDepth 20000 in
theorem ggX1_loopOver_X1_overAt : GoodIn wsX1_loopOver wsX1_overAt := goodIn_r _ [5, 6, 7, 8, 9, 15, 16, 17, 18, 19, 20, 21, 22] (by decide +kernel) (by decide +kernel)
set_option maxRecDepth 20000 in
theorem gX1_loopOver_X1_overAt : GoodIn wsX1_loopOver (wsV RX1 116 RX1 yX1_overAt wsX1_overAt) := goodIn_app (goodIn_of _ (by decide +kernel)) ggX1_loopOver_X1_overAt
set_option maxRecDepth 20000 in
theorem ggX1_loopOver_X2_ownerAt : GoodIn wsX1_loopOver wsX2_ownerAt := goodIn_r _ [13, 14, 7, 8, 9, 23, 24, 25, 26, 27, 28, 29, 30, 31] (by decide +kernel) (by decide +kernel)
set_option maxRecDepth 20000 in
theorem gX1_loopOver_X2_ownerAt_n102 : GoodIn wsX1_loopOver (wsX2_ownerAt) := ggX1_loopOver_X2_ownerAt
theorem dX1_loopOver_0 : decode cX1_loopOver 0 = .ok (.aload_n 1, 1) := by decide +kernel
theorem dX1_loopOver_1 : decode cX1_loopOver 1 = .ok (.aload_n 0, 1) := by decide +kernel
theorem dX1_loopOver_2 : decode cX1_loopOver 2 = .ok (.iload_n 2, 1) := by decide +kernel
theorem dX1_loopOver_3 : decode cX1_loopOver 3 = .ok (.invokevirtual 116, 3) := by decide +kernel
theorem dX1_loopOver_6 : decode cX1_loopOver 6 = .ok (.invokevirtual 102, 3) := by decide +kernel
theorem dX1_loopOver_9 : decode cX1_loopOver 9 = .ok (.ireturn, 1) := by decide +kernel
set_option maxRecDepth 20000 in
theorem ggX1_loopUnder_X1_underAt : GoodIn wsX1_loopUnder wsX1_underAt := goodIn_r _ [5, 6, 7, 8, 9, 15, 16, 17, 18, 19, 20, 21, 22] (by decide +kernel) (by decide +kernel)
set_option maxRecDepth 20000 in
theorem gX1_loopUnder_X1_underAt : GoodIn wsX1_loopUnder (wsV RX1 119 RX1 yX1_underAt wsX1_underAt) := goodIn_app (goodIn_of _ (by decide +kernel)) ggX1_loopUnder_X1_underAt
set_option maxRecDepth 20000 in
theorem ggX1_loopUnder_X2_ownerAt : GoodIn wsX1_loopUnder wsX2_ownerAt := goodIn_r _ [13, 14, 7, 8, 9, 23, 24, 25, 26, 27, 28, 29, 30, 31] (by decide +kernel) (by decide +kernel)
set_option maxRecDepth 20000 in
theorem gX1_loopUnder_X2_ownerAt_n102 : GoodIn wsX1_loopUnder (wsX2_ownerAt) := ggX1_loopUnder_X2_ownerAt
theorem dX1_loopUnder_0 : decode cX1_loopUnder 0 = .ok (.aload_n 1, 1) := by decide +kernel
theorem dX1_loopUnder_1 : decode cX1_loopUnder 1 = .ok (.aload_n 0, 1) := by decide +kernel
theorem dX1_loopUnder_2 : decode cX1_loopUnder 2 = .ok (.iload_n 2, 1) := by decide +kernel
theorem dX1_loopUnder_3 : decode cX1_loopUnder 3 = .ok (.invokevirtual 119, 3) := by decide +kernel
theorem dX1_loopUnder_6 : decode cX1_loopUnder 6 = .ok (.invokevirtual 102, 3) := by decide +kernel
theorem dX1_loopUnder_9 : decode cX1_loopUnder 9 = .ok (.ireturn, 1) := by decide +kernel
set_option maxRecDepth 20000 in
theorem ggX1_countPasses_X2_firstStep : GoodIn wsX1_countPasses wsX2_firstStep := goodIn_r _ [5, 6, 7, 8, 9, 10, 19, 20, 21, 22, 23, 24, 25, 26, 27] (by decide +kernel) (by decide +kernel)
set_option maxRecDepth 20000 in
theorem gX1_countPasses_X2_firstStep_n82 : GoodIn wsX1_countPasses (wsX2_firstStep) := ggX1_countPasses_X2_firstStep
set_option maxRecDepth 20000 in
theorem ggX1_countPasses_X5_isIn : GoodIn wsX1_countPasses wsX5_isIn := goodIn_r _ [10] (by decide +kernel) (by decide +kernel)
set_option maxRecDepth 20000 in
theorem gX1_countPasses_X5_isIn_n89 : GoodIn wsX1_countPasses (wsX5_isIn) := ggX1_countPasses_X5_isIn
theorem dX1_countPasses_0 : decode cX1_countPasses 0 = .ok (.iconst 0, 1) := by decide +kernel
theorem dX1_countPasses_1 : decode cX1_countPasses 1 = .ok (.istore 4, 2) := by decide +kernel
theorem dX1_countPasses_3 : decode cX1_countPasses 3 = .ok (.aload_n 1, 1) := by decide +kernel
theorem dX1_countPasses_4 : decode cX1_countPasses 4 = .ok (.iload_n 2, 1) := by decide +kernel
theorem dX1_countPasses_5 : decode cX1_countPasses 5 = .ok (.iconst 1, 1) := by decide +kernel
theorem dX1_countPasses_6 : decode cX1_countPasses 6 = .ok (.iadd, 1) := by decide +kernel
theorem dX1_countPasses_7 : decode cX1_countPasses 7 = .ok (.invokevirtual 82, 3) := by decide +kernel
theorem dX1_countPasses_10 : decode cX1_countPasses 10 = .ok (.istore 5, 2) := by decide +kernel
theorem dX1_countPasses_12 : decode cX1_countPasses 12 = .ok (.aload_n 1, 1) := by decide +kernel
theorem dX1_countPasses_13 : decode cX1_countPasses 13 = .ok (.iload_n 2, 1) := by decide +kernel
theorem dX1_countPasses_14 : decode cX1_countPasses 14 = .ok (.invokevirtual 82, 3) := by decide +kernel
theorem dX1_countPasses_17 : decode cX1_countPasses 17 = .ok (.istore 6, 2) := by decide +kernel
theorem dX1_countPasses_19 : decode cX1_countPasses 19 = .ok (.iload 6, 2) := by decide +kernel
theorem dX1_countPasses_21 : decode cX1_countPasses 21 = .ok (.iload 5, 2) := by decide +kernel
theorem dX1_countPasses_23 : decode cX1_countPasses 23 = .ok (.if_icmp .ge 35, 3) := by decide +kernel
theorem dX1_countPasses_26 : decode cX1_countPasses 26 = .ok (.aload_n 0, 1) := by decide +kernel
theorem dX1_countPasses_27 : decode cX1_countPasses 27 = .ok (.getfield 9, 3) := by decide +kernel
theorem dX1_countPasses_30 : decode cX1_countPasses 30 = .ok (.iload 6, 2) := by decide +kernel
theorem dX1_countPasses_32 : decode cX1_countPasses 32 = .ok (.invokestatic 89, 3) := by decide +kernel
theorem dX1_countPasses_35 : decode cX1_countPasses 35 = .ok (.ifCond .eq 23, 3) := by decide +kernel
theorem dX1_countPasses_38 : decode cX1_countPasses 38 = .ok (.aload_n 0, 1) := by decide +kernel
theorem dX1_countPasses_39 : decode cX1_countPasses 39 = .ok (.getfield 9, 3) := by decide +kernel
theorem dX1_countPasses_42 : decode cX1_countPasses 42 = .ok (.iload 6, 2) := by decide +kernel
theorem dX1_countPasses_44 : decode cX1_countPasses 44 = .ok (.iaload, 1) := by decide +kernel
theorem dX1_countPasses_45 : decode cX1_countPasses 45 = .ok (.iload_n 3, 1) := by decide +kernel
theorem dX1_countPasses_46 : decode cX1_countPasses 46 = .ok (.if_icmp .ne 6, 3) := by decide +kernel
theorem dX1_countPasses_49 : decode cX1_countPasses 49 = .ok (.iinc 4 1, 3) := by decide +kernel
theorem dX1_countPasses_52 : decode cX1_countPasses 52 = .ok (.iinc 6 1, 3) := by decide +kernel
theorem dX1_countPasses_55 : decode cX1_countPasses 55 = .ok (.goto (-36), 3) := by decide +kernel
theorem dX1_countPasses_58 : decode cX1_countPasses 58 = .ok (.iload 4, 2) := by decide +kernel
theorem dX1_countPasses_60 : decode cX1_countPasses 60 = .ok (.ireturn, 1) := by decide +kernel
set_option maxRecDepth 20000 in
theorem ggX1_countBends_X1_countPasses : GoodIn wsX1_countBends wsX1_countPasses := goodIn_r _ [5, 6, 7, 8, 9, 10, 11, 12, 13, 14, 15, 16, 17, 18, 19, 20, 21, 22, 23, 24, 25, 26, 27, 28, 29, 30, 31, 32] (by decide +kernel) (by decide +kernel)
set_option maxRecDepth 20000 in
theorem gX1_countBends_X1_countPasses : GoodIn wsX1_countBends (wsV RX1 85 RX1 yX1_countPasses wsX1_countPasses) := goodIn_app (goodIn_of _ (by decide +kernel)) ggX1_countBends_X1_countPasses
theorem dX1_countBends_0 : decode cX1_countBends 0 = .ok (.aload_n 0, 1) := by decide +kernel
theorem dX1_countBends_1 : decode cX1_countBends 1 = .ok (.aload_n 1, 1) := by decide +kernel
theorem dX1_countBends_2 : decode cX1_countBends 2 = .ok (.iload_n 2, 1) := by decide +kernel
theorem dX1_countBends_3 : decode cX1_countBends 3 = .ok (.iconst 0, 1) := by decide +kernel
theorem dX1_countBends_4 : decode cX1_countBends 4 = .ok (.invokevirtual 85, 3) := by decide +kernel
theorem dX1_countBends_7 : decode cX1_countBends 7 = .ok (.ireturn, 1) := by decide +kernel
set_option maxRecDepth 20000 in
theorem ggX1_countUneven_X1_lastPass : GoodIn wsX1_countUneven wsX1_lastPass := goodIn_r _ [6, 1, 7, 8, 9, 10, 11, 12, 13, 14, 15, 16, 17, 18, 19, 20, 21, 22, 23, 24, 25, 26, 27, 28, 29, 30, 31, 32] (by decide +kernel) (by decide +kernel)
set_option maxRecDepth 20000 in
theorem gX1_countUneven_X1_lastPass : GoodIn wsX1_countUneven (wsV RX1 122 RX1 yX1_lastPass wsX1_lastPass) := goodIn_app (goodIn_of _ (by decide +kernel)) ggX1_countUneven_X1_lastPass
set_option maxRecDepth 20000 in
theorem ggX1_countUneven_X2_firstStep : GoodIn wsX1_countUneven wsX2_firstStep := goodIn_r _ [10, 11, 12, 13, 14, 15, 24, 25, 26, 27, 28, 29, 30, 31, 32] (by decide +kernel) (by decide +kernel)
set_option maxRecDepth 20000 in
theorem gX1_countUneven_X2_firstStep_n82 : GoodIn wsX1_countUneven (wsX2_firstStep) := ggX1_countUneven_X2_firstStep
set_option maxRecDepth 20000 in
theorem ggX1_countUneven_X5_isIn : GoodIn wsX1_countUneven wsX5_isIn := goodIn_r _ [15] (by decide +kernel) (by decide +kernel)
set_option maxRecDepth 20000 in
theorem gX1_countUneven_X5_isIn_n89 : GoodIn wsX1_countUneven (wsX5_isIn) := ggX1_countUneven_X5_isIn
theorem dX1_countUneven_0 : decode cX1_countUneven 0 = .ok (.iconst 0, 1) := by decide +kernel
theorem dX1_countUneven_1 : decode cX1_countUneven 1 = .ok (.istore_n 3, 1) := by decide +kernel
theorem dX1_countUneven_2 : decode cX1_countUneven 2 = .ok (.aload_n 0, 1) := by decide +kernel
theorem dX1_countUneven_3 : decode cX1_countUneven 3 = .ok (.aload_n 1, 1) := by decide +kernel
theorem dX1_countUneven_4 : decode cX1_countUneven 4 = .ok (.iload_n 2, 1) := by decide +kernel
theorem dX1_countUneven_5 : decode cX1_countUneven 5 = .ok (.invokevirtual 122, 3) := by decide +kernel
theorem dX1_countUneven_8 : decode cX1_countUneven 8 = .ok (.istore 4, 2) := by decide +kernel
theorem dX1_countUneven_10 : decode cX1_countUneven 10 = .ok (.aload_n 1, 1) := by decide +kernel
theorem dX1_countUneven_11 : decode cX1_countUneven 11 = .ok (.iload_n 2, 1) := by decide +kernel
theorem dX1_countUneven_12 : decode cX1_countUneven 12 = .ok (.iconst 1, 1) := by decide +kernel
theorem dX1_countUneven_13 : decode cX1_countUneven 13 = .ok (.iadd, 1) := by decide +kernel
theorem dX1_countUneven_14 : decode cX1_countUneven 14 = .ok (.invokevirtual 82, 3) := by decide +kernel
theorem dX1_countUneven_17 : decode cX1_countUneven 17 = .ok (.istore 5, 2) := by decide +kernel
theorem dX1_countUneven_19 : decode cX1_countUneven 19 = .ok (.aload_n 1, 1) := by decide +kernel
theorem dX1_countUneven_20 : decode cX1_countUneven 20 = .ok (.iload_n 2, 1) := by decide +kernel
theorem dX1_countUneven_21 : decode cX1_countUneven 21 = .ok (.invokevirtual 82, 3) := by decide +kernel
theorem dX1_countUneven_24 : decode cX1_countUneven 24 = .ok (.istore 6, 2) := by decide +kernel
theorem dX1_countUneven_26 : decode cX1_countUneven 26 = .ok (.iload 6, 2) := by decide +kernel
theorem dX1_countUneven_28 : decode cX1_countUneven 28 = .ok (.iload 5, 2) := by decide +kernel
theorem dX1_countUneven_30 : decode cX1_countUneven 30 = .ok (.if_icmp .ge 55, 3) := by decide +kernel
theorem dX1_countUneven_33 : decode cX1_countUneven 33 = .ok (.aload_n 0, 1) := by decide +kernel
theorem dX1_countUneven_34 : decode cX1_countUneven 34 = .ok (.getfield 9, 3) := by decide +kernel
theorem dX1_countUneven_37 : decode cX1_countUneven 37 = .ok (.iload 6, 2) := by decide +kernel
theorem dX1_countUneven_39 : decode cX1_countUneven 39 = .ok (.invokestatic 89, 3) := by decide +kernel
theorem dX1_countUneven_42 : decode cX1_countUneven 42 = .ok (.ifCond .eq 43, 3) := by decide +kernel
theorem dX1_countUneven_45 : decode cX1_countUneven 45 = .ok (.aload_n 0, 1) := by decide +kernel
theorem dX1_countUneven_46 : decode cX1_countUneven 46 = .ok (.getfield 9, 3) := by decide +kernel
theorem dX1_countUneven_49 : decode cX1_countUneven 49 = .ok (.iload 6, 2) := by decide +kernel
theorem dX1_countUneven_51 : decode cX1_countUneven 51 = .ok (.iaload, 1) := by decide +kernel
theorem dX1_countUneven_52 : decode cX1_countUneven 52 = .ok (.ifCond .eq 27, 3) := by decide +kernel
theorem dX1_countUneven_55 : decode cX1_countUneven 55 = .ok (.aload_n 0, 1) := by decide +kernel
theorem dX1_countUneven_56 : decode cX1_countUneven 56 = .ok (.getfield 9, 3) := by decide +kernel
theorem dX1_countUneven_59 : decode cX1_countUneven 59 = .ok (.iload 6, 2) := by decide +kernel
theorem dX1_countUneven_61 : decode cX1_countUneven 61 = .ok (.iaload, 1) := by decide +kernel
theorem dX1_countUneven_62 : decode cX1_countUneven 62 = .ok (.iload 4, 2) := by decide +kernel
theorem dX1_countUneven_64 : decode cX1_countUneven 64 = .ok (.if_icmp .ne 6, 3) := by decide +kernel
theorem dX1_countUneven_67 : decode cX1_countUneven 67 = .ok (.iinc 3 1, 3) := by decide +kernel
theorem dX1_countUneven_70 : decode cX1_countUneven 70 = .ok (.aload_n 0, 1) := by decide +kernel
theorem dX1_countUneven_71 : decode cX1_countUneven 71 = .ok (.getfield 9, 3) := by decide +kernel
theorem dX1_countUneven_74 : decode cX1_countUneven 74 = .ok (.iload 6, 2) := by decide +kernel
theorem dX1_countUneven_76 : decode cX1_countUneven 76 = .ok (.iaload, 1) := by decide +kernel
theorem dX1_countUneven_77 : decode cX1_countUneven 77 = .ok (.istore 4, 2) := by decide +kernel
theorem dX1_countUneven_79 : decode cX1_countUneven 79 = .ok (.iinc 6 1, 3) := by decide +kernel
theorem dX1_countUneven_82 : decode cX1_countUneven 82 = .ok (.goto (-56), 3) := by decide +kernel
theorem dX1_countUneven_85 : decode cX1_countUneven 85 = .ok (.iload_n 3, 1) := by decide +kernel
theorem dX1_countUneven_86 : decode cX1_countUneven 86 = .ok (.ireturn, 1) := by decide +kernel
set_option maxRecDepth 20000 in
theorem ggX1_lastPass_X2_firstStep : GoodIn wsX1_lastPass wsX2_firstStep := goodIn_r _ [5, 6, 7, 8, 9, 10, 19, 20, 21, 22, 23, 24, 25, 26, 27] (by decide +kernel) (by decide +kernel)
set_option maxRecDepth 20000 in
theorem gX1_lastPass_X2_firstStep_n82 : GoodIn wsX1_lastPass (wsX2_firstStep) := ggX1_lastPass_X2_firstStep
set_option maxRecDepth 20000 in
theorem ggX1_lastPass_X5_isIn : GoodIn wsX1_lastPass wsX5_isIn := goodIn_r _ [10] (by decide +kernel) (by decide +kernel)
set_option maxRecDepth 20000 in
theorem gX1_lastPass_X5_isIn_n89 : GoodIn wsX1_lastPass (wsX5_isIn) := ggX1_lastPass_X5_isIn
theorem dX1_lastPass_0 : decode cX1_lastPass 0 = .ok (.iconst 0, 1) := by decide +kernel
theorem dX1_lastPass_1 : decode cX1_lastPass 1 = .ok (.istore_n 3, 1) := by decide +kernel
theorem dX1_lastPass_2 : decode cX1_lastPass 2 = .ok (.aload_n 1, 1) := by decide +kernel
theorem dX1_lastPass_3 : decode cX1_lastPass 3 = .ok (.iload_n 2, 1) := by decide +kernel
theorem dX1_lastPass_4 : decode cX1_lastPass 4 = .ok (.iconst 1, 1) := by decide +kernel
theorem dX1_lastPass_5 : decode cX1_lastPass 5 = .ok (.iadd, 1) := by decide +kernel
theorem dX1_lastPass_6 : decode cX1_lastPass 6 = .ok (.invokevirtual 82, 3) := by decide +kernel
theorem dX1_lastPass_9 : decode cX1_lastPass 9 = .ok (.istore 4, 2) := by decide +kernel
theorem dX1_lastPass_11 : decode cX1_lastPass 11 = .ok (.aload_n 1, 1) := by decide +kernel
theorem dX1_lastPass_12 : decode cX1_lastPass 12 = .ok (.iload_n 2, 1) := by decide +kernel
theorem dX1_lastPass_13 : decode cX1_lastPass 13 = .ok (.invokevirtual 82, 3) := by decide +kernel
theorem dX1_lastPass_16 : decode cX1_lastPass 16 = .ok (.istore 5, 2) := by decide +kernel
theorem dX1_lastPass_18 : decode cX1_lastPass 18 = .ok (.iload 5, 2) := by decide +kernel
theorem dX1_lastPass_20 : decode cX1_lastPass 20 = .ok (.iload 4, 2) := by decide +kernel
theorem dX1_lastPass_22 : decode cX1_lastPass 22 = .ok (.if_icmp .ge 39, 3) := by decide +kernel
theorem dX1_lastPass_25 : decode cX1_lastPass 25 = .ok (.aload_n 0, 1) := by decide +kernel
theorem dX1_lastPass_26 : decode cX1_lastPass 26 = .ok (.getfield 9, 3) := by decide +kernel
theorem dX1_lastPass_29 : decode cX1_lastPass 29 = .ok (.iload 5, 2) := by decide +kernel
theorem dX1_lastPass_31 : decode cX1_lastPass 31 = .ok (.invokestatic 89, 3) := by decide +kernel
theorem dX1_lastPass_34 : decode cX1_lastPass 34 = .ok (.ifCond .eq 27, 3) := by decide +kernel
theorem dX1_lastPass_37 : decode cX1_lastPass 37 = .ok (.aload_n 0, 1) := by decide +kernel
theorem dX1_lastPass_38 : decode cX1_lastPass 38 = .ok (.getfield 9, 3) := by decide +kernel
theorem dX1_lastPass_41 : decode cX1_lastPass 41 = .ok (.iload 5, 2) := by decide +kernel
theorem dX1_lastPass_43 : decode cX1_lastPass 43 = .ok (.iaload, 1) := by decide +kernel
theorem dX1_lastPass_44 : decode cX1_lastPass 44 = .ok (.ifCond .eq 11, 3) := by decide +kernel
theorem dX1_lastPass_47 : decode cX1_lastPass 47 = .ok (.aload_n 0, 1) := by decide +kernel
theorem dX1_lastPass_48 : decode cX1_lastPass 48 = .ok (.getfield 9, 3) := by decide +kernel
theorem dX1_lastPass_51 : decode cX1_lastPass 51 = .ok (.iload 5, 2) := by decide +kernel
theorem dX1_lastPass_53 : decode cX1_lastPass 53 = .ok (.iaload, 1) := by decide +kernel
theorem dX1_lastPass_54 : decode cX1_lastPass 54 = .ok (.istore_n 3, 1) := by decide +kernel
theorem dX1_lastPass_55 : decode cX1_lastPass 55 = .ok (.iinc 5 1, 3) := by decide +kernel
theorem dX1_lastPass_58 : decode cX1_lastPass 58 = .ok (.goto (-40), 3) := by decide +kernel
theorem dX1_lastPass_61 : decode cX1_lastPass 61 = .ok (.iload_n 3, 1) := by decide +kernel
theorem dX1_lastPass_62 : decode cX1_lastPass 62 = .ok (.ireturn, 1) := by decide +kernel
set_option maxRecDepth 20000 in
theorem ggX1_isShared_X1_loopOver : GoodIn wsX1_isShared wsX1_loopOver := goodIn_r _ [5, 6, 7, 8, 4, 9, 10, 11, 12, 13, 14, 15, 16, 17, 18, 28, 29, 30, 31, 32, 33, 34, 35, 36, 37, 38, 39, 40, 41, 42, 43, 44] (by decide +kernel) (by decide +kernel)
set_option maxRecDepth 20000 in
theorem gX1_isShared_X1_loopOver : GoodIn wsX1_isShared (wsV RX1 126 RX1 yX1_loopOver wsX1_loopOver) := goodIn_app (goodIn_of _ (by decide +kernel)) ggX1_isShared_X1_loopOver
set_option maxRecDepth 20000 in
theorem ggX1_isShared_X1_loopUnder : GoodIn wsX1_isShared wsX1_loopUnder := goodIn_r _ [22, 23, 24, 25, 4, 26, 27, 11, 12, 13, 14, 15, 16, 17, 18, 28, 29, 30, 31, 32, 33, 34, 35, 36, 37, 38, 39, 40, 41, 42, 43, 44] (by decide +kernel) (by decide +kernel)
set_option maxRecDepth 20000 in
theorem gX1_isShared_X1_loopUnder : GoodIn wsX1_isShared (wsV RX1 129 RX1 yX1_loopUnder wsX1_loopUnder) := goodIn_app (goodIn_of _ (by decide +kernel)) ggX1_isShared_X1_loopUnder
theorem dX1_isShared_0 : decode cX1_isShared 0 = .ok (.aload_n 0, 1) := by decide +kernel
theorem dX1_isShared_1 : decode cX1_isShared 1 = .ok (.aload_n 1, 1) := by decide +kernel
theorem dX1_isShared_2 : decode cX1_isShared 2 = .ok (.iload_n 2, 1) := by decide +kernel
theorem dX1_isShared_3 : decode cX1_isShared 3 = .ok (.invokevirtual 126, 3) := by decide +kernel
theorem dX1_isShared_6 : decode cX1_isShared 6 = .ok (.istore 5, 2) := by decide +kernel
theorem dX1_isShared_8 : decode cX1_isShared 8 = .ok (.aload_n 0, 1) := by decide +kernel
theorem dX1_isShared_9 : decode cX1_isShared 9 = .ok (.aload_n 1, 1) := by decide +kernel
theorem dX1_isShared_10 : decode cX1_isShared 10 = .ok (.iload_n 2, 1) := by decide +kernel
theorem dX1_isShared_11 : decode cX1_isShared 11 = .ok (.invokevirtual 129, 3) := by decide +kernel
theorem dX1_isShared_14 : decode cX1_isShared 14 = .ok (.istore 6, 2) := by decide +kernel
theorem dX1_isShared_16 : decode cX1_isShared 16 = .ok (.iload 5, 2) := by decide +kernel
theorem dX1_isShared_18 : decode cX1_isShared 18 = .ok (.iload_n 3, 1) := by decide +kernel
theorem dX1_isShared_19 : decode cX1_isShared 19 = .ok (.if_icmp .ne 10, 3) := by decide +kernel
theorem dX1_isShared_22 : decode cX1_isShared 22 = .ok (.iload 6, 2) := by decide +kernel
theorem dX1_isShared_24 : decode cX1_isShared 24 = .ok (.iload 4, 2) := by decide +kernel
theorem dX1_isShared_26 : decode cX1_isShared 26 = .ok (.if_icmp .eq 16, 3) := by decide +kernel
theorem dX1_isShared_29 : decode cX1_isShared 29 = .ok (.iload 5, 2) := by decide +kernel
theorem dX1_isShared_31 : decode cX1_isShared 31 = .ok (.iload 4, 2) := by decide +kernel
theorem dX1_isShared_33 : decode cX1_isShared 33 = .ok (.if_icmp .ne 13, 3) := by decide +kernel
theorem dX1_isShared_36 : decode cX1_isShared 36 = .ok (.iload 6, 2) := by decide +kernel
theorem dX1_isShared_38 : decode cX1_isShared 38 = .ok (.iload_n 3, 1) := by decide +kernel
theorem dX1_isShared_39 : decode cX1_isShared 39 = .ok (.if_icmp .ne 7, 3) := by decide +kernel
theorem dX1_isShared_42 : decode cX1_isShared 42 = .ok (.iconst 1, 1) := by decide +kernel
theorem dX1_isShared_43 : decode cX1_isShared 43 = .ok (.goto 4, 3) := by decide +kernel
theorem dX1_isShared_46 : decode cX1_isShared 46 = .ok (.iconst 0, 1) := by decide +kernel
theorem dX1_isShared_47 : decode cX1_isShared 47 = .ok (.ireturn, 1) := by decide +kernel
set_option maxRecDepth 20000 in
theorem ggX1_countShared_X1_isShared : GoodIn wsX1_countShared wsX1_isShared := goodIn_r _ [5, 6, 7, 8, 4, 9, 10, 11, 12, 13, 14, 15, 16, 17, 18, 19, 20, 21, 22, 23, 24, 25, 26, 27, 28, 29, 30, 31, 32, 33, 34, 35, 36, 37, 38, 39, 40, 41, 42, 43, 44, 45, 46, 47, 48] (by decide +kernel) (by decide +kernel)
set_option maxRecDepth 20000 in
theorem gX1_countShared_X1_isShared : GoodIn wsX1_countShared (wsV RX1 132 RX1 yX1_isShared wsX1_isShared) := goodIn_app (goodIn_of _ (by decide +kernel)) ggX1_countShared_X1_isShared
theorem dX1_countShared_0 : decode cX1_countShared 0 = .ok (.iconst 0, 1) := by decide +kernel
theorem dX1_countShared_1 : decode cX1_countShared 1 = .ok (.istore 4, 2) := by decide +kernel
theorem dX1_countShared_3 : decode cX1_countShared 3 = .ok (.iconst 0, 1) := by decide +kernel
theorem dX1_countShared_4 : decode cX1_countShared 4 = .ok (.istore 5, 2) := by decide +kernel
theorem dX1_countShared_6 : decode cX1_countShared 6 = .ok (.iload 5, 2) := by decide +kernel
theorem dX1_countShared_8 : decode cX1_countShared 8 = .ok (.bipush 60, 2) := by decide +kernel
theorem dX1_countShared_10 : decode cX1_countShared 10 = .ok (.if_icmp .ge 24, 3) := by decide +kernel
theorem dX1_countShared_13 : decode cX1_countShared 13 = .ok (.aload_n 0, 1) := by decide +kernel
theorem dX1_countShared_14 : decode cX1_countShared 14 = .ok (.aload_n 1, 1) := by decide +kernel
theorem dX1_countShared_15 : decode cX1_countShared 15 = .ok (.iload 5, 2) := by decide +kernel
theorem dX1_countShared_17 : decode cX1_countShared 17 = .ok (.iload_n 2, 1) := by decide +kernel
theorem dX1_countShared_18 : decode cX1_countShared 18 = .ok (.iload_n 3, 1) := by decide +kernel
theorem dX1_countShared_19 : decode cX1_countShared 19 = .ok (.invokevirtual 132, 3) := by decide +kernel
theorem dX1_countShared_22 : decode cX1_countShared 22 = .ok (.ifCond .eq 6, 3) := by decide +kernel
theorem dX1_countShared_25 : decode cX1_countShared 25 = .ok (.iinc 4 1, 3) := by decide +kernel
theorem dX1_countShared_28 : decode cX1_countShared 28 = .ok (.iinc 5 1, 3) := by decide +kernel
theorem dX1_countShared_31 : decode cX1_countShared 31 = .ok (.goto (-25), 3) := by decide +kernel
theorem dX1_countShared_34 : decode cX1_countShared 34 = .ok (.iload 4, 2) := by decide +kernel
theorem dX1_countShared_36 : decode cX1_countShared 36 = .ok (.ireturn, 1) := by decide +kernel
set_option maxRecDepth 20000 in
theorem ggX1_signAt_X1_overAt : GoodIn wsX1_signAt wsX1_overAt := goodIn_r _ [5, 6, 7, 8, 9, 24, 25, 26, 27, 28, 29, 30, 31] (by decide +kernel) (by decide +kernel)
set_option maxRecDepth 20000 in
theorem gX1_signAt_X1_overAt : GoodIn wsX1_signAt (wsV RX1 116 RX1 yX1_overAt wsX1_overAt) := goodIn_app (goodIn_of _ (by decide +kernel)) ggX1_signAt_X1_overAt
set_option maxRecDepth 20000 in
theorem ggX1_signAt_X1_underAt : GoodIn wsX1_signAt wsX1_underAt := goodIn_r _ [13, 14, 7, 8, 9, 24, 25, 26, 27, 28, 29, 30, 31] (by decide +kernel) (by decide +kernel)
set_option maxRecDepth 20000 in
theorem gX1_signAt_X1_underAt : GoodIn wsX1_signAt (wsV RX1 119 RX1 yX1_underAt wsX1_underAt) := goodIn_app (goodIn_of _ (by decide +kernel)) ggX1_signAt_X1_underAt
set_option maxRecDepth 20000 in
theorem ggX1_signAt_X2_rightAt : GoodIn wsX1_signAt wsX2_rightAt := goodIn_r _ [18, 19, 7, 8, 9, 32, 33, 34, 35, 36, 37, 38, 39, 40] (by decide +kernel) (by decide +kernel)
set_option maxRecDepth 20000 in
theorem gX1_signAt_X2_rightAt_n73 : GoodIn wsX1_signAt (wsX2_rightAt) := ggX1_signAt_X2_rightAt
set_option maxRecDepth 20000 in
theorem ggX1_signAt_X2_downAt : GoodIn wsX1_signAt wsX2_downAt := goodIn_r _ [22, 23, 7, 8, 9, 32, 33, 34, 35, 36, 37, 38, 39, 40] (by decide +kernel) (by decide +kernel)
set_option maxRecDepth 20000 in
theorem gX1_signAt_X2_downAt_n76 : GoodIn wsX1_signAt (wsX2_downAt) := ggX1_signAt_X2_downAt
theorem dX1_signAt_0 : decode cX1_signAt 0 = .ok (.aload_n 0, 1) := by decide +kernel
theorem dX1_signAt_1 : decode cX1_signAt 1 = .ok (.iload_n 2, 1) := by decide +kernel
theorem dX1_signAt_2 : decode cX1_signAt 2 = .ok (.invokevirtual 116, 3) := by decide +kernel
theorem dX1_signAt_5 : decode cX1_signAt 5 = .ok (.istore_n 3, 1) := by decide +kernel
theorem dX1_signAt_6 : decode cX1_signAt 6 = .ok (.aload_n 0, 1) := by decide +kernel
theorem dX1_signAt_7 : decode cX1_signAt 7 = .ok (.iload_n 2, 1) := by decide +kernel
theorem dX1_signAt_8 : decode cX1_signAt 8 = .ok (.invokevirtual 119, 3) := by decide +kernel
theorem dX1_signAt_11 : decode cX1_signAt 11 = .ok (.istore 4, 2) := by decide +kernel
theorem dX1_signAt_13 : decode cX1_signAt 13 = .ok (.aload_n 1, 1) := by decide +kernel
theorem dX1_signAt_14 : decode cX1_signAt 14 = .ok (.iload_n 3, 1) := by decide +kernel
theorem dX1_signAt_15 : decode cX1_signAt 15 = .ok (.invokevirtual 73, 3) := by decide +kernel
theorem dX1_signAt_18 : decode cX1_signAt 18 = .ok (.aload_n 1, 1) := by decide +kernel
theorem dX1_signAt_19 : decode cX1_signAt 19 = .ok (.iload 4, 2) := by decide +kernel
theorem dX1_signAt_21 : decode cX1_signAt 21 = .ok (.invokevirtual 76, 3) := by decide +kernel
theorem dX1_signAt_24 : decode cX1_signAt 24 = .ok (.imul, 1) := by decide +kernel
theorem dX1_signAt_25 : decode cX1_signAt 25 = .ok (.aload_n 1, 1) := by decide +kernel
theorem dX1_signAt_26 : decode cX1_signAt 26 = .ok (.iload_n 3, 1) := by decide +kernel
theorem dX1_signAt_27 : decode cX1_signAt 27 = .ok (.invokevirtual 76, 3) := by decide +kernel
theorem dX1_signAt_30 : decode cX1_signAt 30 = .ok (.aload_n 1, 1) := by decide +kernel
theorem dX1_signAt_31 : decode cX1_signAt 31 = .ok (.iload 4, 2) := by decide +kernel
theorem dX1_signAt_33 : decode cX1_signAt 33 = .ok (.invokevirtual 73, 3) := by decide +kernel
theorem dX1_signAt_36 : decode cX1_signAt 36 = .ok (.imul, 1) := by decide +kernel
theorem dX1_signAt_37 : decode cX1_signAt 37 = .ok (.isub, 1) := by decide +kernel
theorem dX1_signAt_38 : decode cX1_signAt 38 = .ok (.istore 5, 2) := by decide +kernel
theorem dX1_signAt_40 : decode cX1_signAt 40 = .ok (.iload 5, 2) := by decide +kernel
theorem dX1_signAt_42 : decode cX1_signAt 42 = .ok (.ifCond .le 7, 3) := by decide +kernel
theorem dX1_signAt_45 : decode cX1_signAt 45 = .ok (.iconst 1, 1) := by decide +kernel
theorem dX1_signAt_46 : decode cX1_signAt 46 = .ok (.goto 4, 3) := by decide +kernel
theorem dX1_signAt_49 : decode cX1_signAt 49 = .ok (.iconst (-1), 1) := by decide +kernel
theorem dX1_signAt_50 : decode cX1_signAt 50 = .ok (.ireturn, 1) := by decide +kernel
set_option maxRecDepth 20000 in
theorem ggX1_sumSigns_X1_isHere : GoodIn wsX1_sumSigns wsX1_isHere := goodIn_r _ [5, 6, 7, 8, 4, 9, 10, 11, 12, 13, 14, 15, 16, 17, 18, 32, 33, 34, 35, 36, 37, 38, 39] (by decide +kernel) (by decide +kernel)
set_option maxRecDepth 20000 in
theorem gX1_sumSigns_X1_isHere : GoodIn wsX1_sumSigns (wsV RX1 136 RX1 yX1_isHere wsX1_isHere) := goodIn_app (goodIn_of _ (by decide +kernel)) ggX1_sumSigns_X1_isHere
set_option maxRecDepth 20000 in
theorem ggX1_sumSigns_X1_signAt : GoodIn wsX1_sumSigns wsX1_signAt := goodIn_r _ [22, 6, 7, 8, 4, 9, 10, 11, 12, 13, 14, 15, 16, 17, 18, 23, 24, 25, 26, 27, 28, 29, 30, 31, 32, 33, 34, 35, 36, 37, 38, 39, 40, 41, 42, 43, 44, 45, 46, 47, 48] (by decide +kernel) (by decide +kernel)
set_option maxRecDepth 20000 in
theorem gX1_sumSigns_X1_signAt : GoodIn wsX1_sumSigns (wsV RX1 139 RX1 yX1_signAt wsX1_signAt) := goodIn_app (goodIn_of _ (by decide +kernel)) ggX1_sumSigns_X1_signAt
theorem dX1_sumSigns_0 : decode cX1_sumSigns 0 = .ok (.iconst 0, 1) := by decide +kernel
theorem dX1_sumSigns_1 : decode cX1_sumSigns 1 = .ok (.istore_n 2, 1) := by decide +kernel
theorem dX1_sumSigns_2 : decode cX1_sumSigns 2 = .ok (.iconst 0, 1) := by decide +kernel
theorem dX1_sumSigns_3 : decode cX1_sumSigns 3 = .ok (.istore_n 3, 1) := by decide +kernel
theorem dX1_sumSigns_4 : decode cX1_sumSigns 4 = .ok (.iload_n 3, 1) := by decide +kernel
theorem dX1_sumSigns_5 : decode cX1_sumSigns 5 = .ok (.bipush 60, 2) := by decide +kernel
theorem dX1_sumSigns_7 : decode cX1_sumSigns 7 = .ok (.if_icmp .ge 26, 3) := by decide +kernel
theorem dX1_sumSigns_10 : decode cX1_sumSigns 10 = .ok (.aload_n 0, 1) := by decide +kernel
theorem dX1_sumSigns_11 : decode cX1_sumSigns 11 = .ok (.iload_n 3, 1) := by decide +kernel
theorem dX1_sumSigns_12 : decode cX1_sumSigns 12 = .ok (.invokevirtual 136, 3) := by decide +kernel
theorem dX1_sumSigns_15 : decode cX1_sumSigns 15 = .ok (.ifCond .eq 12, 3) := by decide +kernel
theorem dX1_sumSigns_18 : decode cX1_sumSigns 18 = .ok (.iload_n 2, 1) := by decide +kernel
theorem dX1_sumSigns_19 : decode cX1_sumSigns 19 = .ok (.aload_n 0, 1) := by decide +kernel
theorem dX1_sumSigns_20 : decode cX1_sumSigns 20 = .ok (.aload_n 1, 1) := by decide +kernel
theorem dX1_sumSigns_21 : decode cX1_sumSigns 21 = .ok (.iload_n 3, 1) := by decide +kernel
theorem dX1_sumSigns_22 : decode cX1_sumSigns 22 = .ok (.invokevirtual 139, 3) := by decide +kernel
theorem dX1_sumSigns_25 : decode cX1_sumSigns 25 = .ok (.iadd, 1) := by decide +kernel
theorem dX1_sumSigns_26 : decode cX1_sumSigns 26 = .ok (.istore_n 2, 1) := by decide +kernel
theorem dX1_sumSigns_27 : decode cX1_sumSigns 27 = .ok (.iinc 3 1, 3) := by decide +kernel
theorem dX1_sumSigns_30 : decode cX1_sumSigns 30 = .ok (.goto (-26), 3) := by decide +kernel
theorem dX1_sumSigns_33 : decode cX1_sumSigns 33 = .ok (.iload_n 2, 1) := by decide +kernel
theorem dX1_sumSigns_34 : decode cX1_sumSigns 34 = .ok (.ireturn, 1) := by decide +kernel
set_option maxRecDepth 20000 in
theorem ggX1_sumSharedSigns_X1_isShared : GoodIn wsX1_sumSharedSigns wsX1_isShared := goodIn_r _ [5, 6, 7, 8, 4, 9, 10, 11, 12, 13, 14, 15, 16, 17, 18, 19, 20, 21, 22, 23, 24, 25, 26, 27, 28, 29, 30, 31, 44, 45, 46, 47, 48, 49, 50, 51, 52, 53, 54, 55, 56, 57, 58, 59, 60] (by decide +kernel) (by decide +kernel)
set_option maxRecDepth 20000 in
theorem gX1_sumSharedSigns_X1_isShared : GoodIn wsX1_sumSharedSigns (wsV RX1 132 RX1 yX1_isShared wsX1_isShared) := goodIn_app (goodIn_of _ (by decide +kernel)) ggX1_sumSharedSigns_X1_isShared
set_option maxRecDepth 20000 in
theorem ggX1_sumSharedSigns_X1_signAt : GoodIn wsX1_sumSharedSigns wsX1_signAt := goodIn_r _ [35, 10, 11, 12, 4, 13, 14, 15, 16, 17, 27, 28, 29, 30, 31, 36, 19, 37, 38, 39, 40, 41, 42, 43, 44, 45, 46, 47, 48, 49, 50, 51, 52, 53, 54, 55, 56, 57, 58, 59, 60] (by decide +kernel) (by decide +kernel)
set_option maxRecDepth 20000 in
theorem gX1_sumSharedSigns_X1_signAt : GoodIn wsX1_sumSharedSigns (wsV RX1 139 RX1 yX1_signAt wsX1_signAt) := goodIn_app (goodIn_of _ (by decide +kernel)) ggX1_sumSharedSigns_X1_signAt
theorem dX1_sumSharedSigns_0 : decode cX1_sumSharedSigns 0 = .ok (.iconst 0, 1) := by decide +kernel
theorem dX1_sumSharedSigns_1 : decode cX1_sumSharedSigns 1 = .ok (.istore 4, 2) := by decide +kernel
theorem dX1_sumSharedSigns_3 : decode cX1_sumSharedSigns 3 = .ok (.iconst 0, 1) := by decide +kernel
theorem dX1_sumSharedSigns_4 : decode cX1_sumSharedSigns 4 = .ok (.istore 5, 2) := by decide +kernel
theorem dX1_sumSharedSigns_6 : decode cX1_sumSharedSigns 6 = .ok (.iload 5, 2) := by decide +kernel
theorem dX1_sumSharedSigns_8 : decode cX1_sumSharedSigns 8 = .ok (.bipush 60, 2) := by decide +kernel
theorem dX1_sumSharedSigns_10 : decode cX1_sumSharedSigns 10 = .ok (.if_icmp .ge 33, 3) := by decide +kernel
theorem dX1_sumSharedSigns_13 : decode cX1_sumSharedSigns 13 = .ok (.aload_n 0, 1) := by decide +kernel
theorem dX1_sumSharedSigns_14 : decode cX1_sumSharedSigns 14 = .ok (.aload_n 1, 1) := by decide +kernel
theorem dX1_sumSharedSigns_15 : decode cX1_sumSharedSigns 15 = .ok (.iload 5, 2) := by decide +kernel
theorem dX1_sumSharedSigns_17 : decode cX1_sumSharedSigns 17 = .ok (.iload_n 2, 1) := by decide +kernel
theorem dX1_sumSharedSigns_18 : decode cX1_sumSharedSigns 18 = .ok (.iload_n 3, 1) := by decide +kernel
theorem dX1_sumSharedSigns_19 : decode cX1_sumSharedSigns 19 = .ok (.invokevirtual 132, 3) := by decide +kernel
theorem dX1_sumSharedSigns_22 : decode cX1_sumSharedSigns 22 = .ok (.ifCond .eq 15, 3) := by decide +kernel
theorem dX1_sumSharedSigns_25 : decode cX1_sumSharedSigns 25 = .ok (.iload 4, 2) := by decide +kernel
theorem dX1_sumSharedSigns_27 : decode cX1_sumSharedSigns 27 = .ok (.aload_n 0, 1) := by decide +kernel
theorem dX1_sumSharedSigns_28 : decode cX1_sumSharedSigns 28 = .ok (.aload_n 1, 1) := by decide +kernel
theorem dX1_sumSharedSigns_29 : decode cX1_sumSharedSigns 29 = .ok (.iload 5, 2) := by decide +kernel
theorem dX1_sumSharedSigns_31 : decode cX1_sumSharedSigns 31 = .ok (.invokevirtual 139, 3) := by decide +kernel
theorem dX1_sumSharedSigns_34 : decode cX1_sumSharedSigns 34 = .ok (.iadd, 1) := by decide +kernel
theorem dX1_sumSharedSigns_35 : decode cX1_sumSharedSigns 35 = .ok (.istore 4, 2) := by decide +kernel
theorem dX1_sumSharedSigns_37 : decode cX1_sumSharedSigns 37 = .ok (.iinc 5 1, 3) := by decide +kernel
theorem dX1_sumSharedSigns_40 : decode cX1_sumSharedSigns 40 = .ok (.goto (-34), 3) := by decide +kernel
theorem dX1_sumSharedSigns_43 : decode cX1_sumSharedSigns 43 = .ok (.iload 4, 2) := by decide +kernel
theorem dX1_sumSharedSigns_45 : decode cX1_sumSharedSigns 45 = .ok (.ireturn, 1) := by decide +kernel
theorem dX2_init_0 : decode cX2_init 0 = .ok (.aload_n 0, 1) := by decide +kernel
theorem dX2_init_1 : decode cX2_init 1 = .ok (.invokespecial 3, 3) := by decide +kernel
theorem dX2_init_4 : decode cX2_init 4 = .ok (.aload_n 0, 1) := by decide +kernel
theorem dX2_init_5 : decode cX2_init 5 = .ok (.sipush 144, 3) := by decide +kernel
theorem dX2_init_8 : decode cX2_init 8 = .ok (.newarray .int, 2) := by decide +kernel
theorem dX2_init_10 : decode cX2_init 10 = .ok (.putfield 9, 3) := by decide +kernel
theorem dX2_init_13 : decode cX2_init 13 = .ok (.aload_n 0, 1) := by decide +kernel
theorem dX2_init_14 : decode cX2_init 14 = .ok (.bipush 37, 2) := by decide +kernel
theorem dX2_init_16 : decode cX2_init 16 = .ok (.newarray .int, 2) := by decide +kernel
theorem dX2_init_18 : decode cX2_init 18 = .ok (.putfield 15, 3) := by decide +kernel
theorem dX2_init_21 : decode cX2_init 21 = .ok (.aload_n 0, 1) := by decide +kernel
theorem dX2_init_22 : decode cX2_init 22 = .ok (.sipush 144, 3) := by decide +kernel
theorem dX2_init_25 : decode cX2_init 25 = .ok (.newarray .int, 2) := by decide +kernel
theorem dX2_init_27 : decode cX2_init 27 = .ok (.putfield 18, 3) := by decide +kernel
theorem dX2_init_30 : decode cX2_init 30 = .ok (.aload_n 0, 1) := by decide +kernel
theorem dX2_init_31 : decode cX2_init 31 = .ok (.sipush 144, 3) := by decide +kernel
theorem dX2_init_34 : decode cX2_init 34 = .ok (.newarray .int, 2) := by decide +kernel
theorem dX2_init_36 : decode cX2_init 36 = .ok (.putfield 21, 3) := by decide +kernel
theorem dX2_init_39 : decode cX2_init 39 = .ok (.aload_n 0, 1) := by decide +kernel
theorem dX2_init_40 : decode cX2_init 40 = .ok (.sipush 144, 3) := by decide +kernel
theorem dX2_init_43 : decode cX2_init 43 = .ok (.newarray .int, 2) := by decide +kernel
theorem dX2_init_45 : decode cX2_init 45 = .ok (.putfield 24, 3) := by decide +kernel
theorem dX2_init_48 : decode cX2_init 48 = .ok (.aload_n 0, 1) := by decide +kernel
theorem dX2_init_49 : decode cX2_init 49 = .ok (.sipush 144, 3) := by decide +kernel
theorem dX2_init_52 : decode cX2_init 52 = .ok (.newarray .int, 2) := by decide +kernel
theorem dX2_init_54 : decode cX2_init 54 = .ok (.putfield 27, 3) := by decide +kernel
theorem dX2_init_57 : decode cX2_init 57 = .ok (.aload_n 0, 1) := by decide +kernel
theorem dX2_init_58 : decode cX2_init 58 = .ok (.sipush 144, 3) := by decide +kernel
theorem dX2_init_61 : decode cX2_init 61 = .ok (.newarray .int, 2) := by decide +kernel
theorem dX2_init_63 : decode cX2_init 63 = .ok (.putfield 30, 3) := by decide +kernel
theorem dX2_init_66 : decode cX2_init 66 = .ok (.return_, 1) := by decide +kernel
set_option maxRecDepth 20000 in
theorem ggX2_follow_J7_fill_53178 : GoodIn wsX2_follow wsJ7_fill_53178 := goodIn_r _ [8] (by decide +kernel) (by decide +kernel)
set_option maxRecDepth 20000 in
theorem gX2_follow_J7_fill_53178 : GoodIn wsX2_follow (va_wsS RX2 40 yJ7_fill_53178 wsJ7_fill_53178) := goodIn_app (goodIn_of _ (by decide +kernel)) ggX2_follow_J7_fill_53178
set_option maxRecDepth 20000 in
theorem ggX2_follow_X2_isFree : GoodIn wsX2_follow wsX2_isFree := goodIn_r _ [13, 3, 14, 15, 16, 17, 18, 19, 45, 46, 47, 48, 49, 50, 51, 52, 53, 54, 55, 56, 57, 58, 59] (by decide +kernel) (by decide +kernel)
set_option maxRecDepth 20000 in
theorem gX2_follow_X2_isFree : GoodIn wsX2_follow (wsV RX2 54 RX2 yX2_isFree wsX2_isFree) := goodIn_app (goodIn_of _ (by decide +kernel)) ggX2_follow_X2_isFree
set_option maxRecDepth 20000 in
theorem ggX2_follow_X2_goRound : GoodIn wsX2_follow wsX2_goRound := goodIn_r _ [23, 2, 3, 1, 24, 25, 26, 27, 28, 9, 10, 11, 12, 13, 14, 15, 16, 17, 18, 19, 29, 30, 31, 32, 33, 34, 35, 36, 37, 38, 39, 40, 41, 42, 43, 44, 45, 46, 47, 48, 49, 50, 51, 52, 53, 54, 55, 56, 57, 58, 59] (by decide +kernel) (by decide +kernel)
set_option maxRecDepth 20000 in
theorem gX2_follow_X2_goRound : GoodIn wsX2_follow (wsV RX2 58 RX2 yX2_goRound wsX2_goRound) := goodIn_app (goodIn_of _ (by decide +kernel)) ggX2_follow_X2_goRound
theorem dX2_follow_0 : decode cX2_follow 0 = .ok (.aload_n 0, 1) := by decide +kernel
theorem dX2_follow_1 : decode cX2_follow 1 = .ok (.iconst 0, 1) := by decide +kernel
theorem dX2_follow_2 : decode cX2_follow 2 = .ok (.putfield 33, 3) := by decide +kernel
theorem dX2_follow_5 : decode cX2_follow 5 = .ok (.aload_n 0, 1) := by decide +kernel
theorem dX2_follow_6 : decode cX2_follow 6 = .ok (.iconst 0, 1) := by decide +kernel
theorem dX2_follow_7 : decode cX2_follow 7 = .ok (.putfield 37, 3) := by decide +kernel
theorem dX2_follow_10 : decode cX2_follow 10 = .ok (.aload_n 0, 1) := by decide +kernel
theorem dX2_follow_11 : decode cX2_follow 11 = .ok (.getfield 9, 3) := by decide +kernel
theorem dX2_follow_14 : decode cX2_follow 14 = .ok (.bipush (-9), 2) := by decide +kernel
theorem dX2_follow_16 : decode cX2_follow 16 = .ok (.invokestatic 40, 3) := by decide +kernel
theorem dX2_follow_19 : decode cX2_follow 19 = .ok (.iconst 0, 1) := by decide +kernel
theorem dX2_follow_20 : decode cX2_follow 20 = .ok (.istore_n 2, 1) := by decide +kernel
theorem dX2_follow_21 : decode cX2_follow 21 = .ok (.iload_n 2, 1) := by decide +kernel
theorem dX2_follow_22 : decode cX2_follow 22 = .ok (.iconst 2, 1) := by decide +kernel
theorem dX2_follow_23 : decode cX2_follow 23 = .ok (.aload_n 1, 1) := by decide +kernel
theorem dX2_follow_24 : decode cX2_follow 24 = .ok (.getfield 46, 3) := by decide +kernel
theorem dX2_follow_27 : decode cX2_follow 27 = .ok (.imul, 1) := by decide +kernel
theorem dX2_follow_28 : decode cX2_follow 28 = .ok (.if_icmp .ge 76, 3) := by decide +kernel
theorem dX2_follow_31 : decode cX2_follow 31 = .ok (.iconst 0, 1) := by decide +kernel
theorem dX2_follow_32 : decode cX2_follow 32 = .ok (.istore_n 3, 1) := by decide +kernel
theorem dX2_follow_33 : decode cX2_follow 33 = .ok (.iload_n 3, 1) := by decide +kernel
theorem dX2_follow_34 : decode cX2_follow 34 = .ok (.iconst 2, 1) := by decide +kernel
theorem dX2_follow_35 : decode cX2_follow 35 = .ok (.aload_n 1, 1) := by decide +kernel
theorem dX2_follow_36 : decode cX2_follow 36 = .ok (.getfield 51, 3) := by decide +kernel
theorem dX2_follow_39 : decode cX2_follow 39 = .ok (.imul, 1) := by decide +kernel
theorem dX2_follow_40 : decode cX2_follow 40 = .ok (.if_icmp .ge 58, 3) := by decide +kernel
theorem dX2_follow_43 : decode cX2_follow 43 = .ok (.aload_n 0, 1) := by decide +kernel
theorem dX2_follow_44 : decode cX2_follow 44 = .ok (.aload_n 1, 1) := by decide +kernel
theorem dX2_follow_45 : decode cX2_follow 45 = .ok (.iload_n 2, 1) := by decide +kernel
theorem dX2_follow_46 : decode cX2_follow 46 = .ok (.iload_n 3, 1) := by decide +kernel
theorem dX2_follow_47 : decode cX2_follow 47 = .ok (.invokevirtual 54, 3) := by decide +kernel
theorem dX2_follow_50 : decode cX2_follow 50 = .ok (.ifCond .eq 42, 3) := by decide +kernel
theorem dX2_follow_53 : decode cX2_follow 53 = .ok (.aload_n 0, 1) := by decide +kernel
theorem dX2_follow_54 : decode cX2_follow 54 = .ok (.getfield 33, 3) := by decide +kernel
theorem dX2_follow_57 : decode cX2_follow 57 = .ok (.bipush 36, 2) := by decide +kernel
theorem dX2_follow_59 : decode cX2_follow 59 = .ok (.if_icmp .ge 33, 3) := by decide +kernel
theorem dX2_follow_62 : decode cX2_follow 62 = .ok (.aload_n 0, 1) := by decide +kernel
theorem dX2_follow_63 : decode cX2_follow 63 = .ok (.aload_n 1, 1) := by decide +kernel
theorem dX2_follow_64 : decode cX2_follow 64 = .ok (.iload_n 2, 1) := by decide +kernel
theorem dX2_follow_65 : decode cX2_follow 65 = .ok (.iload_n 3, 1) := by decide +kernel
theorem dX2_follow_66 : decode cX2_follow 66 = .ok (.invokevirtual 58, 3) := by decide +kernel
theorem dX2_follow_69 : decode cX2_follow 69 = .ok (.aload_n 0, 1) := by decide +kernel
theorem dX2_follow_70 : decode cX2_follow 70 = .ok (.dup, 1) := by decide +kernel
theorem dX2_follow_71 : decode cX2_follow 71 = .ok (.getfield 33, 3) := by decide +kernel
theorem dX2_follow_74 : decode cX2_follow 74 = .ok (.iconst 1, 1) := by decide +kernel
theorem dX2_follow_75 : decode cX2_follow 75 = .ok (.iadd, 1) := by decide +kernel
theorem dX2_follow_76 : decode cX2_follow 76 = .ok (.putfield 33, 3) := by decide +kernel
theorem dX2_follow_79 : decode cX2_follow 79 = .ok (.aload_n 0, 1) := by decide +kernel
theorem dX2_follow_80 : decode cX2_follow 80 = .ok (.getfield 15, 3) := by decide +kernel
theorem dX2_follow_83 : decode cX2_follow 83 = .ok (.aload_n 0, 1) := by decide +kernel
theorem dX2_follow_84 : decode cX2_follow 84 = .ok (.getfield 33, 3) := by decide +kernel
theorem dX2_follow_87 : decode cX2_follow 87 = .ok (.aload_n 0, 1) := by decide +kernel
theorem dX2_follow_88 : decode cX2_follow 88 = .ok (.getfield 37, 3) := by decide +kernel
theorem dX2_follow_91 : decode cX2_follow 91 = .ok (.iastore, 1) := by decide +kernel
theorem dX2_follow_92 : decode cX2_follow 92 = .ok (.iinc 3 1, 3) := by decide +kernel
theorem dX2_follow_95 : decode cX2_follow 95 = .ok (.goto (-62), 3) := by decide +kernel
theorem dX2_follow_98 : decode cX2_follow 98 = .ok (.iinc 2 1, 3) := by decide +kernel
theorem dX2_follow_101 : decode cX2_follow 101 = .ok (.goto (-80), 3) := by decide +kernel
theorem dX2_follow_104 : decode cX2_follow 104 = .ok (.return_, 1) := by decide +kernel
set_option maxRecDepth 20000 in
theorem ggX2_isFree_X3_hasCell : GoodIn wsX2_isFree wsX3_hasCell := goodIn_r _ [5, 6, 7, 17, 18, 19, 20, 21, 22] (by decide +kernel) (by decide +kernel)
set_option maxRecDepth 20000 in
theorem gX2_isFree_X3_hasCell_n62 : GoodIn wsX2_isFree (wsX3_hasCell) := ggX2_isFree_X3_hasCell
theorem dX2_isFree_0 : decode cX2_isFree 0 = .ok (.aload_n 1, 1) := by decide +kernel
theorem dX2_isFree_1 : decode cX2_isFree 1 = .ok (.iload_n 2, 1) := by decide +kernel
theorem dX2_isFree_2 : decode cX2_isFree 2 = .ok (.iload_n 3, 1) := by decide +kernel
theorem dX2_isFree_3 : decode cX2_isFree 3 = .ok (.invokevirtual 62, 3) := by decide +kernel
theorem dX2_isFree_6 : decode cX2_isFree 6 = .ok (.ifCond .eq 21, 3) := by decide +kernel
theorem dX2_isFree_9 : decode cX2_isFree 9 = .ok (.aload_n 0, 1) := by decide +kernel
theorem dX2_isFree_10 : decode cX2_isFree 10 = .ok (.getfield 9, 3) := by decide +kernel
theorem dX2_isFree_13 : decode cX2_isFree 13 = .ok (.iload_n 2, 1) := by decide +kernel
theorem dX2_isFree_14 : decode cX2_isFree 14 = .ok (.bipush 12, 2) := by decide +kernel
theorem dX2_isFree_16 : decode cX2_isFree 16 = .ok (.imul, 1) := by decide +kernel
theorem dX2_isFree_17 : decode cX2_isFree 17 = .ok (.iload_n 3, 1) := by decide +kernel
theorem dX2_isFree_18 : decode cX2_isFree 18 = .ok (.iadd, 1) := by decide +kernel
theorem dX2_isFree_19 : decode cX2_isFree 19 = .ok (.iaload, 1) := by decide +kernel
theorem dX2_isFree_20 : decode cX2_isFree 20 = .ok (.ifCond .ge 7, 3) := by decide +kernel
theorem dX2_isFree_23 : decode cX2_isFree 23 = .ok (.iconst 1, 1) := by decide +kernel
theorem dX2_isFree_24 : decode cX2_isFree 24 = .ok (.goto 4, 3) := by decide +kernel
theorem dX2_isFree_27 : decode cX2_isFree 27 = .ok (.iconst 0, 1) := by decide +kernel
theorem dX2_isFree_28 : decode cX2_isFree 28 = .ok (.ireturn, 1) := by decide +kernel
set_option maxRecDepth 20000 in
theorem ggX2_goRound_X2_isFree : GoodIn wsX2_goRound wsX2_isFree := goodIn_r _ [13, 2, 14, 15, 16, 17, 18, 19, 36, 37, 38, 39, 40, 41, 42, 43, 44, 45, 46, 47, 48, 49, 50] (by decide +kernel) (by decide +kernel)
set_option maxRecDepth 20000 in
theorem gX2_goRound_X2_isFree : GoodIn wsX2_goRound (wsV RX2 54 RX2 yX2_isFree wsX2_isFree) := goodIn_app (goodIn_of _ (by decide +kernel)) ggX2_goRound_X2_isFree
set_option maxRecDepth 20000 in
theorem ggX2_goRound_X3_kindAt : GoodIn wsX2_goRound wsX3_kindAt := goodIn_r _ [22, 18, 23, 24, 25, 15, 26, 27, 28, 29, 30, 31, 32, 33, 34, 35, 45, 46, 47, 48, 49, 50] (by decide +kernel) (by decide +kernel)
set_option maxRecDepth 20000 in
theorem gX2_goRound_X3_kindAt_n66 : GoodIn wsX2_goRound (wsX3_kindAt) := ggX2_goRound_X3_kindAt
theorem dX2_goRound_0 : decode cX2_goRound 0 = .ok (.iconst 1, 1) := by decide +kernel
theorem dX2_goRound_1 : decode cX2_goRound 1 = .ok (.istore 4, 2) := by decide +kernel
theorem dX2_goRound_3 : decode cX2_goRound 3 = .ok (.iload_n 2, 1) := by decide +kernel
theorem dX2_goRound_4 : decode cX2_goRound 4 = .ok (.iload_n 3, 1) := by decide +kernel
theorem dX2_goRound_5 : decode cX2_goRound 5 = .ok (.iadd, 1) := by decide +kernel
theorem dX2_goRound_6 : decode cX2_goRound 6 = .ok (.iconst 2, 1) := by decide +kernel
theorem dX2_goRound_7 : decode cX2_goRound 7 = .ok (.irem, 1) := by decide +kernel
theorem dX2_goRound_8 : decode cX2_goRound 8 = .ok (.ifCond .ne 7, 3) := by decide +kernel
theorem dX2_goRound_11 : decode cX2_goRound 11 = .ok (.iconst (-1), 1) := by decide +kernel
theorem dX2_goRound_12 : decode cX2_goRound 12 = .ok (.goto 4, 3) := by decide +kernel
theorem dX2_goRound_15 : decode cX2_goRound 15 = .ok (.iconst 1, 1) := by decide +kernel
theorem dX2_goRound_16 : decode cX2_goRound 16 = .ok (.istore 5, 2) := by decide +kernel
theorem dX2_goRound_18 : decode cX2_goRound 18 = .ok (.aload_n 0, 1) := by decide +kernel
theorem dX2_goRound_19 : decode cX2_goRound 19 = .ok (.getfield 37, 3) := by decide +kernel
theorem dX2_goRound_22 : decode cX2_goRound 22 = .ok (.sipush 144, 3) := by decide +kernel
theorem dX2_goRound_25 : decode cX2_goRound 25 = .ok (.if_icmp .ge 208, 3) := by decide +kernel
theorem dX2_goRound_28 : decode cX2_goRound 28 = .ok (.aload_n 0, 1) := by decide +kernel
theorem dX2_goRound_29 : decode cX2_goRound 29 = .ok (.aload_n 1, 1) := by decide +kernel
theorem dX2_goRound_30 : decode cX2_goRound 30 = .ok (.iload_n 2, 1) := by decide +kernel
theorem dX2_goRound_31 : decode cX2_goRound 31 = .ok (.iload_n 3, 1) := by decide +kernel
theorem dX2_goRound_32 : decode cX2_goRound 32 = .ok (.invokevirtual 54, 3) := by decide +kernel
theorem dX2_goRound_35 : decode cX2_goRound 35 = .ok (.ifCond .eq 198, 3) := by decide +kernel
theorem dX2_goRound_38 : decode cX2_goRound 38 = .ok (.iload 4, 2) := by decide +kernel
theorem dX2_goRound_40 : decode cX2_goRound 40 = .ok (.ifCond .le 9, 3) := by decide +kernel
theorem dX2_goRound_43 : decode cX2_goRound 43 = .ok (.iload_n 2, 1) := by decide +kernel
theorem dX2_goRound_44 : decode cX2_goRound 44 = .ok (.iconst 1, 1) := by decide +kernel
theorem dX2_goRound_45 : decode cX2_goRound 45 = .ok (.iadd, 1) := by decide +kernel
theorem dX2_goRound_46 : decode cX2_goRound 46 = .ok (.goto 4, 3) := by decide +kernel
theorem dX2_goRound_49 : decode cX2_goRound 49 = .ok (.iload_n 2, 1) := by decide +kernel
theorem dX2_goRound_50 : decode cX2_goRound 50 = .ok (.istore 6, 2) := by decide +kernel
theorem dX2_goRound_52 : decode cX2_goRound 52 = .ok (.iload 5, 2) := by decide +kernel
theorem dX2_goRound_54 : decode cX2_goRound 54 = .ok (.ifCond .le 9, 3) := by decide +kernel
theorem dX2_goRound_57 : decode cX2_goRound 57 = .ok (.iload_n 3, 1) := by decide +kernel
theorem dX2_goRound_58 : decode cX2_goRound 58 = .ok (.iconst 1, 1) := by decide +kernel
theorem dX2_goRound_59 : decode cX2_goRound 59 = .ok (.iadd, 1) := by decide +kernel
theorem dX2_goRound_60 : decode cX2_goRound 60 = .ok (.goto 4, 3) := by decide +kernel
theorem dX2_goRound_63 : decode cX2_goRound 63 = .ok (.iload_n 3, 1) := by decide +kernel
theorem dX2_goRound_64 : decode cX2_goRound 64 = .ok (.istore 7, 2) := by decide +kernel
theorem dX2_goRound_66 : decode cX2_goRound 66 = .ok (.aload_n 0, 1) := by decide +kernel
theorem dX2_goRound_67 : decode cX2_goRound 67 = .ok (.getfield 9, 3) := by decide +kernel
theorem dX2_goRound_70 : decode cX2_goRound 70 = .ok (.iload_n 2, 1) := by decide +kernel
theorem dX2_goRound_71 : decode cX2_goRound 71 = .ok (.bipush 12, 2) := by decide +kernel
theorem dX2_goRound_73 : decode cX2_goRound 73 = .ok (.imul, 1) := by decide +kernel
theorem dX2_goRound_74 : decode cX2_goRound 74 = .ok (.iload_n 3, 1) := by decide +kernel
theorem dX2_goRound_75 : decode cX2_goRound 75 = .ok (.iadd, 1) := by decide +kernel
theorem dX2_goRound_76 : decode cX2_goRound 76 = .ok (.aload_n 0, 1) := by decide +kernel
theorem dX2_goRound_77 : decode cX2_goRound 77 = .ok (.getfield 33, 3) := by decide +kernel
theorem dX2_goRound_80 : decode cX2_goRound 80 = .ok (.iastore, 1) := by decide +kernel
theorem dX2_goRound_81 : decode cX2_goRound 81 = .ok (.aload_n 0, 1) := by decide +kernel
theorem dX2_goRound_82 : decode cX2_goRound 82 = .ok (.getfield 18, 3) := by decide +kernel
theorem dX2_goRound_85 : decode cX2_goRound 85 = .ok (.aload_n 0, 1) := by decide +kernel
theorem dX2_goRound_86 : decode cX2_goRound 86 = .ok (.getfield 37, 3) := by decide +kernel
theorem dX2_goRound_89 : decode cX2_goRound 89 = .ok (.aload_n 0, 1) := by decide +kernel
theorem dX2_goRound_90 : decode cX2_goRound 90 = .ok (.getfield 33, 3) := by decide +kernel
theorem dX2_goRound_93 : decode cX2_goRound 93 = .ok (.iastore, 1) := by decide +kernel
theorem dX2_goRound_94 : decode cX2_goRound 94 = .ok (.aload_n 0, 1) := by decide +kernel
theorem dX2_goRound_95 : decode cX2_goRound 95 = .ok (.getfield 21, 3) := by decide +kernel
theorem dX2_goRound_98 : decode cX2_goRound 98 = .ok (.aload_n 0, 1) := by decide +kernel
theorem dX2_goRound_99 : decode cX2_goRound 99 = .ok (.getfield 37, 3) := by decide +kernel
theorem dX2_goRound_102 : decode cX2_goRound 102 = .ok (.bipush 100, 2) := by decide +kernel
theorem dX2_goRound_104 : decode cX2_goRound 104 = .ok (.iload_n 2, 1) := by decide +kernel
theorem dX2_goRound_105 : decode cX2_goRound 105 = .ok (.imul, 1) := by decide +kernel
theorem dX2_goRound_106 : decode cX2_goRound 106 = .ok (.iload_n 3, 1) := by decide +kernel
theorem dX2_goRound_107 : decode cX2_goRound 107 = .ok (.iadd, 1) := by decide +kernel
theorem dX2_goRound_108 : decode cX2_goRound 108 = .ok (.iastore, 1) := by decide +kernel
theorem dX2_goRound_109 : decode cX2_goRound 109 = .ok (.aload_n 0, 1) := by decide +kernel
theorem dX2_goRound_110 : decode cX2_goRound 110 = .ok (.getfield 24, 3) := by decide +kernel
theorem dX2_goRound_113 : decode cX2_goRound 113 = .ok (.aload_n 0, 1) := by decide +kernel
theorem dX2_goRound_114 : decode cX2_goRound 114 = .ok (.getfield 37, 3) := by decide +kernel
theorem dX2_goRound_117 : decode cX2_goRound 117 = .ok (.bipush 100, 2) := by decide +kernel
theorem dX2_goRound_119 : decode cX2_goRound 119 = .ok (.iload 6, 2) := by decide +kernel
theorem dX2_goRound_121 : decode cX2_goRound 121 = .ok (.imul, 1) := by decide +kernel
theorem dX2_goRound_122 : decode cX2_goRound 122 = .ok (.iload 7, 2) := by decide +kernel
theorem dX2_goRound_124 : decode cX2_goRound 124 = .ok (.iadd, 1) := by decide +kernel
theorem dX2_goRound_125 : decode cX2_goRound 125 = .ok (.iastore, 1) := by decide +kernel
theorem dX2_goRound_126 : decode cX2_goRound 126 = .ok (.aload_n 0, 1) := by decide +kernel
theorem dX2_goRound_127 : decode cX2_goRound 127 = .ok (.getfield 27, 3) := by decide +kernel
theorem dX2_goRound_130 : decode cX2_goRound 130 = .ok (.aload_n 0, 1) := by decide +kernel
theorem dX2_goRound_131 : decode cX2_goRound 131 = .ok (.getfield 37, 3) := by decide +kernel
theorem dX2_goRound_134 : decode cX2_goRound 134 = .ok (.iload 5, 2) := by decide +kernel
theorem dX2_goRound_136 : decode cX2_goRound 136 = .ok (.iastore, 1) := by decide +kernel
theorem dX2_goRound_137 : decode cX2_goRound 137 = .ok (.aload_n 0, 1) := by decide +kernel
theorem dX2_goRound_138 : decode cX2_goRound 138 = .ok (.getfield 30, 3) := by decide +kernel
theorem dX2_goRound_141 : decode cX2_goRound 141 = .ok (.aload_n 0, 1) := by decide +kernel
theorem dX2_goRound_142 : decode cX2_goRound 142 = .ok (.getfield 37, 3) := by decide +kernel
theorem dX2_goRound_145 : decode cX2_goRound 145 = .ok (.iload 4, 2) := by decide +kernel
theorem dX2_goRound_147 : decode cX2_goRound 147 = .ok (.iastore, 1) := by decide +kernel
theorem dX2_goRound_148 : decode cX2_goRound 148 = .ok (.aload_n 0, 1) := by decide +kernel
theorem dX2_goRound_149 : decode cX2_goRound 149 = .ok (.dup, 1) := by decide +kernel
theorem dX2_goRound_150 : decode cX2_goRound 150 = .ok (.getfield 37, 3) := by decide +kernel
theorem dX2_goRound_153 : decode cX2_goRound 153 = .ok (.iconst 1, 1) := by decide +kernel
theorem dX2_goRound_154 : decode cX2_goRound 154 = .ok (.iadd, 1) := by decide +kernel
theorem dX2_goRound_155 : decode cX2_goRound 155 = .ok (.putfield 37, 3) := by decide +kernel
theorem dX2_goRound_158 : decode cX2_goRound 158 = .ok (.aload_n 1, 1) := by decide +kernel
theorem dX2_goRound_159 : decode cX2_goRound 159 = .ok (.iload 6, 2) := by decide +kernel
theorem dX2_goRound_161 : decode cX2_goRound 161 = .ok (.iload 7, 2) := by decide +kernel
theorem dX2_goRound_163 : decode cX2_goRound 163 = .ok (.invokevirtual 66, 3) := by decide +kernel
theorem dX2_goRound_166 : decode cX2_goRound 166 = .ok (.istore 8, 2) := by decide +kernel
theorem dX2_goRound_168 : decode cX2_goRound 168 = .ok (.iload 8, 2) := by decide +kernel
theorem dX2_goRound_170 : decode cX2_goRound 170 = .ok (.iconst 1, 1) := by decide +kernel
theorem dX2_goRound_171 : decode cX2_goRound 171 = .ok (.if_icmp .ne 7, 3) := by decide +kernel
theorem dX2_goRound_174 : decode cX2_goRound 174 = .ok (.iload_n 2, 1) := by decide +kernel
theorem dX2_goRound_175 : decode cX2_goRound 175 = .ok (.goto 7, 3) := by decide +kernel
theorem dX2_goRound_178 : decode cX2_goRound 178 = .ok (.iload_n 2, 1) := by decide +kernel
theorem dX2_goRound_179 : decode cX2_goRound 179 = .ok (.iload 4, 2) := by decide +kernel
theorem dX2_goRound_181 : decode cX2_goRound 181 = .ok (.iadd, 1) := by decide +kernel
theorem dX2_goRound_182 : decode cX2_goRound 182 = .ok (.istore_n 2, 1) := by decide +kernel
theorem dX2_goRound_183 : decode cX2_goRound 183 = .ok (.iload 8, 2) := by decide +kernel
theorem dX2_goRound_185 : decode cX2_goRound 185 = .ok (.iconst 2, 1) := by decide +kernel
theorem dX2_goRound_186 : decode cX2_goRound 186 = .ok (.if_icmp .ne 7, 3) := by decide +kernel
theorem dX2_goRound_189 : decode cX2_goRound 189 = .ok (.iload_n 3, 1) := by decide +kernel
theorem dX2_goRound_190 : decode cX2_goRound 190 = .ok (.goto 7, 3) := by decide +kernel
theorem dX2_goRound_193 : decode cX2_goRound 193 = .ok (.iload_n 3, 1) := by decide +kernel
theorem dX2_goRound_194 : decode cX2_goRound 194 = .ok (.iload 5, 2) := by decide +kernel
theorem dX2_goRound_196 : decode cX2_goRound 196 = .ok (.iadd, 1) := by decide +kernel
theorem dX2_goRound_197 : decode cX2_goRound 197 = .ok (.istore_n 3, 1) := by decide +kernel
theorem dX2_goRound_198 : decode cX2_goRound 198 = .ok (.iload 8, 2) := by decide +kernel
theorem dX2_goRound_200 : decode cX2_goRound 200 = .ok (.iconst 1, 1) := by decide +kernel
theorem dX2_goRound_201 : decode cX2_goRound 201 = .ok (.if_icmp .ne 9, 3) := by decide +kernel
theorem dX2_goRound_204 : decode cX2_goRound 204 = .ok (.iload 4, 2) := by decide +kernel
theorem dX2_goRound_206 : decode cX2_goRound 206 = .ok (.ineg, 1) := by decide +kernel
theorem dX2_goRound_207 : decode cX2_goRound 207 = .ok (.goto 5, 3) := by decide +kernel
theorem dX2_goRound_210 : decode cX2_goRound 210 = .ok (.iload 4, 2) := by decide +kernel
theorem dX2_goRound_212 : decode cX2_goRound 212 = .ok (.istore 4, 2) := by decide +kernel
theorem dX2_goRound_214 : decode cX2_goRound 214 = .ok (.iload 8, 2) := by decide +kernel
theorem dX2_goRound_216 : decode cX2_goRound 216 = .ok (.iconst 2, 1) := by decide +kernel
theorem dX2_goRound_217 : decode cX2_goRound 217 = .ok (.if_icmp .ne 9, 3) := by decide +kernel
theorem dX2_goRound_220 : decode cX2_goRound 220 = .ok (.iload 5, 2) := by decide +kernel
theorem dX2_goRound_222 : decode cX2_goRound 222 = .ok (.ineg, 1) := by decide +kernel
theorem dX2_goRound_223 : decode cX2_goRound 223 = .ok (.goto 5, 3) := by decide +kernel
theorem dX2_goRound_226 : decode cX2_goRound 226 = .ok (.iload 5, 2) := by decide +kernel
theorem dX2_goRound_228 : decode cX2_goRound 228 = .ok (.istore 5, 2) := by decide +kernel
theorem dX2_goRound_230 : decode cX2_goRound 230 = .ok (.goto (-212), 3) := by decide +kernel
theorem dX2_goRound_233 : decode cX2_goRound 233 = .ok (.return_, 1) := by decide +kernel
theorem dX2_has_0 : decode cX2_has 0 = .ok (.iload_n 1, 1) := by decide +kernel
theorem dX2_has_1 : decode cX2_has 1 = .ok (.ifCond .lt 15, 3) := by decide +kernel
theorem dX2_has_4 : decode cX2_has 4 = .ok (.iload_n 1, 1) := by decide +kernel
theorem dX2_has_5 : decode cX2_has 5 = .ok (.aload_n 0, 1) := by decide +kernel
theorem dX2_has_6 : decode cX2_has 6 = .ok (.getfield 33, 3) := by decide +kernel
theorem dX2_has_9 : decode cX2_has 9 = .ok (.if_icmp .ge 7, 3) := by decide +kernel
theorem dX2_has_12 : decode cX2_has 12 = .ok (.iconst 1, 1) := by decide +kernel
theorem dX2_has_13 : decode cX2_has 13 = .ok (.goto 4, 3) := by decide +kernel
theorem dX2_has_16 : decode cX2_has 16 = .ok (.iconst 0, 1) := by decide +kernel
theorem dX2_has_17 : decode cX2_has 17 = .ok (.ireturn, 1) := by decide +kernel
theorem dX2_ownerOf_0 : decode cX2_ownerOf 0 = .ok (.iload_n 1, 1) := by decide +kernel
theorem dX2_ownerOf_1 : decode cX2_ownerOf 1 = .ok (.bipush 100, 2) := by decide +kernel
theorem dX2_ownerOf_3 : decode cX2_ownerOf 3 = .ok (.idiv, 1) := by decide +kernel
theorem dX2_ownerOf_4 : decode cX2_ownerOf 4 = .ok (.istore_n 2, 1) := by decide +kernel
theorem dX2_ownerOf_5 : decode cX2_ownerOf 5 = .ok (.iload_n 1, 1) := by decide +kernel
theorem dX2_ownerOf_6 : decode cX2_ownerOf 6 = .ok (.bipush 100, 2) := by decide +kernel
theorem dX2_ownerOf_8 : decode cX2_ownerOf 8 = .ok (.irem, 1) := by decide +kernel
theorem dX2_ownerOf_9 : decode cX2_ownerOf 9 = .ok (.istore_n 3, 1) := by decide +kernel
theorem dX2_ownerOf_10 : decode cX2_ownerOf 10 = .ok (.iload_n 1, 1) := by decide +kernel
theorem dX2_ownerOf_11 : decode cX2_ownerOf 11 = .ok (.ifCond .lt 19, 3) := by decide +kernel
theorem dX2_ownerOf_14 : decode cX2_ownerOf 14 = .ok (.iload_n 2, 1) := by decide +kernel
theorem dX2_ownerOf_15 : decode cX2_ownerOf 15 = .ok (.bipush 12, 2) := by decide +kernel
theorem dX2_ownerOf_17 : decode cX2_ownerOf 17 = .ok (.if_icmp .ge 13, 3) := by decide +kernel
theorem dX2_ownerOf_20 : decode cX2_ownerOf 20 = .ok (.iload_n 3, 1) := by decide +kernel
theorem dX2_ownerOf_21 : decode cX2_ownerOf 21 = .ok (.bipush 12, 2) := by decide +kernel
theorem dX2_ownerOf_23 : decode cX2_ownerOf 23 = .ok (.if_icmp .ge 7, 3) := by decide +kernel
theorem dX2_ownerOf_26 : decode cX2_ownerOf 26 = .ok (.iconst 1, 1) := by decide +kernel
theorem dX2_ownerOf_27 : decode cX2_ownerOf 27 = .ok (.goto 4, 3) := by decide +kernel
theorem dX2_ownerOf_30 : decode cX2_ownerOf 30 = .ok (.iconst 0, 1) := by decide +kernel
theorem dX2_ownerOf_31 : decode cX2_ownerOf 31 = .ok (.istore 4, 2) := by decide +kernel
theorem dX2_ownerOf_33 : decode cX2_ownerOf 33 = .ok (.iload 4, 2) := by decide +kernel
theorem dX2_ownerOf_35 : decode cX2_ownerOf 35 = .ok (.ifCond .eq 17, 3) := by decide +kernel
theorem dX2_ownerOf_38 : decode cX2_ownerOf 38 = .ok (.aload_n 0, 1) := by decide +kernel
theorem dX2_ownerOf_39 : decode cX2_ownerOf 39 = .ok (.getfield 9, 3) := by decide +kernel
theorem dX2_ownerOf_42 : decode cX2_ownerOf 42 = .ok (.iload_n 2, 1) := by decide +kernel
theorem dX2_ownerOf_43 : decode cX2_ownerOf 43 = .ok (.bipush 12, 2) := by decide +kernel
theorem dX2_ownerOf_45 : decode cX2_ownerOf 45 = .ok (.imul, 1) := by decide +kernel
theorem dX2_ownerOf_46 : decode cX2_ownerOf 46 = .ok (.iload_n 3, 1) := by decide +kernel
theorem dX2_ownerOf_47 : decode cX2_ownerOf 47 = .ok (.iadd, 1) := by decide +kernel
theorem dX2_ownerOf_48 : decode cX2_ownerOf 48 = .ok (.iaload, 1) := by decide +kernel
theorem dX2_ownerOf_49 : decode cX2_ownerOf 49 = .ok (.goto 5, 3) := by decide +kernel
theorem dX2_ownerOf_52 : decode cX2_ownerOf 52 = .ok (.bipush (-9), 2) := by decide +kernel
theorem dX2_ownerOf_54 : decode cX2_ownerOf 54 = .ok (.ireturn, 1) := by decide +kernel
set_option maxRecDepth 20000 in
theorem ggX2_ownerAt_X5_at : GoodIn wsX2_ownerAt wsX5_at := goodIn_r _ [4] (by decide +kernel) (by decide +kernel)
set_option maxRecDepth 20000 in
theorem gX2_ownerAt_X5_at_n70 : GoodIn wsX2_ownerAt (wsX5_at) := ggX2_ownerAt_X5_at
theorem dX2_ownerAt_0 : decode cX2_ownerAt 0 = .ok (.aload_n 0, 1) := by decide +kernel
theorem dX2_ownerAt_1 : decode cX2_ownerAt 1 = .ok (.getfield 18, 3) := by decide +kernel
theorem dX2_ownerAt_4 : decode cX2_ownerAt 4 = .ok (.iload_n 1, 1) := by decide +kernel
theorem dX2_ownerAt_5 : decode cX2_ownerAt 5 = .ok (.invokestatic 70, 3) := by decide +kernel
theorem dX2_ownerAt_8 : decode cX2_ownerAt 8 = .ok (.ireturn, 1) := by decide +kernel
set_option maxRecDepth 20000 in
theorem ggX2_cellAt_X5_at : GoodIn wsX2_cellAt wsX5_at := goodIn_r _ [4] (by decide +kernel) (by decide +kernel)
set_option maxRecDepth 20000 in
theorem gX2_cellAt_X5_at_n70 : GoodIn wsX2_cellAt (wsX5_at) := ggX2_cellAt_X5_at
theorem dX2_cellAt_0 : decode cX2_cellAt 0 = .ok (.aload_n 0, 1) := by decide +kernel
theorem dX2_cellAt_1 : decode cX2_cellAt 1 = .ok (.getfield 21, 3) := by decide +kernel
theorem dX2_cellAt_4 : decode cX2_cellAt 4 = .ok (.iload_n 1, 1) := by decide +kernel
theorem dX2_cellAt_5 : decode cX2_cellAt 5 = .ok (.invokestatic 70, 3) := by decide +kernel
theorem dX2_cellAt_8 : decode cX2_cellAt 8 = .ok (.ireturn, 1) := by decide +kernel
set_option maxRecDepth 20000 in
theorem ggX2_endAt_X5_at : GoodIn wsX2_endAt wsX5_at := goodIn_r _ [4] (by decide +kernel) (by decide +kernel)
set_option maxRecDepth 20000 in
theorem gX2_endAt_X5_at_n70 : GoodIn wsX2_endAt (wsX5_at) := ggX2_endAt_X5_at
theorem dX2_endAt_0 : decode cX2_endAt 0 = .ok (.aload_n 0, 1) := by decide +kernel
theorem dX2_endAt_1 : decode cX2_endAt 1 = .ok (.getfield 24, 3) := by decide +kernel
theorem dX2_endAt_4 : decode cX2_endAt 4 = .ok (.iload_n 1, 1) := by decide +kernel
theorem dX2_endAt_5 : decode cX2_endAt 5 = .ok (.invokestatic 70, 3) := by decide +kernel
theorem dX2_endAt_8 : decode cX2_endAt 8 = .ok (.ireturn, 1) := by decide +kernel
set_option maxRecDepth 20000 in
theorem ggX2_rightAt_X5_at : GoodIn wsX2_rightAt wsX5_at := goodIn_r _ [4] (by decide +kernel) (by decide +kernel)
set_option maxRecDepth 20000 in
theorem gX2_rightAt_X5_at_n70 : GoodIn wsX2_rightAt (wsX5_at) := ggX2_rightAt_X5_at
theorem dX2_rightAt_0 : decode cX2_rightAt 0 = .ok (.aload_n 0, 1) := by decide +kernel
theorem dX2_rightAt_1 : decode cX2_rightAt 1 = .ok (.getfield 27, 3) := by decide +kernel
theorem dX2_rightAt_4 : decode cX2_rightAt 4 = .ok (.iload_n 1, 1) := by decide +kernel
theorem dX2_rightAt_5 : decode cX2_rightAt 5 = .ok (.invokestatic 70, 3) := by decide +kernel
theorem dX2_rightAt_8 : decode cX2_rightAt 8 = .ok (.ireturn, 1) := by decide +kernel
set_option maxRecDepth 20000 in
theorem ggX2_downAt_X5_at : GoodIn wsX2_downAt wsX5_at := goodIn_r _ [4] (by decide +kernel) (by decide +kernel)
set_option maxRecDepth 20000 in
theorem gX2_downAt_X5_at_n70 : GoodIn wsX2_downAt (wsX5_at) := ggX2_downAt_X5_at
theorem dX2_downAt_0 : decode cX2_downAt 0 = .ok (.aload_n 0, 1) := by decide +kernel
theorem dX2_downAt_1 : decode cX2_downAt 1 = .ok (.getfield 30, 3) := by decide +kernel
theorem dX2_downAt_4 : decode cX2_downAt 4 = .ok (.iload_n 1, 1) := by decide +kernel
theorem dX2_downAt_5 : decode cX2_downAt 5 = .ok (.invokestatic 70, 3) := by decide +kernel
theorem dX2_downAt_8 : decode cX2_downAt 8 = .ok (.ireturn, 1) := by decide +kernel
set_option maxRecDepth 20000 in
theorem ggX2_firstStep_X5_isIn : GoodIn wsX2_firstStep wsX5_isIn := goodIn_r _ [5] (by decide +kernel) (by decide +kernel)
set_option maxRecDepth 20000 in
theorem gX2_firstStep_X5_isIn_n74 : GoodIn wsX2_firstStep (wsX5_isIn) := ggX2_firstStep_X5_isIn
theorem dX2_firstStep_0 : decode cX2_firstStep 0 = .ok (.aload_n 0, 1) := by decide +kernel
theorem dX2_firstStep_1 : decode cX2_firstStep 1 = .ok (.getfield 15, 3) := by decide +kernel
theorem dX2_firstStep_4 : decode cX2_firstStep 4 = .ok (.iload_n 1, 1) := by decide +kernel
theorem dX2_firstStep_5 : decode cX2_firstStep 5 = .ok (.invokestatic 74, 3) := by decide +kernel
theorem dX2_firstStep_8 : decode cX2_firstStep 8 = .ok (.ifCond .eq 12, 3) := by decide +kernel
theorem dX2_firstStep_11 : decode cX2_firstStep 11 = .ok (.aload_n 0, 1) := by decide +kernel
theorem dX2_firstStep_12 : decode cX2_firstStep 12 = .ok (.getfield 15, 3) := by decide +kernel
theorem dX2_firstStep_15 : decode cX2_firstStep 15 = .ok (.iload_n 1, 1) := by decide +kernel
theorem dX2_firstStep_16 : decode cX2_firstStep 16 = .ok (.iaload, 1) := by decide +kernel
theorem dX2_firstStep_17 : decode cX2_firstStep 17 = .ok (.goto 7, 3) := by decide +kernel
theorem dX2_firstStep_20 : decode cX2_firstStep 20 = .ok (.aload_n 0, 1) := by decide +kernel
theorem dX2_firstStep_21 : decode cX2_firstStep 21 = .ok (.getfield 37, 3) := by decide +kernel
theorem dX2_firstStep_24 : decode cX2_firstStep 24 = .ok (.ireturn, 1) := by decide +kernel
set_option maxRecDepth 20000 in
theorem ggX2_lengthOf_X2_firstStep : GoodIn wsX2_lengthOf wsX2_firstStep := goodIn_r _ [5, 6, 7, 8, 9, 10, 11, 12, 13, 14, 15, 16, 17, 18, 19] (by decide +kernel) (by decide +kernel)
set_option maxRecDepth 20000 in
theorem gX2_lengthOf_X2_firstStep : GoodIn wsX2_lengthOf (wsV RX2 78 RX2 yX2_firstStep wsX2_firstStep) := goodIn_app (goodIn_of _ (by decide +kernel)) ggX2_lengthOf_X2_firstStep
theorem dX2_lengthOf_0 : decode cX2_lengthOf 0 = .ok (.aload_n 0, 1) := by decide +kernel
theorem dX2_lengthOf_1 : decode cX2_lengthOf 1 = .ok (.iload_n 1, 1) := by decide +kernel
theorem dX2_lengthOf_2 : decode cX2_lengthOf 2 = .ok (.iconst 1, 1) := by decide +kernel
theorem dX2_lengthOf_3 : decode cX2_lengthOf 3 = .ok (.iadd, 1) := by decide +kernel
theorem dX2_lengthOf_4 : decode cX2_lengthOf 4 = .ok (.invokevirtual 78, 3) := by decide +kernel
theorem dX2_lengthOf_7 : decode cX2_lengthOf 7 = .ok (.aload_n 0, 1) := by decide +kernel
theorem dX2_lengthOf_8 : decode cX2_lengthOf 8 = .ok (.iload_n 1, 1) := by decide +kernel
theorem dX2_lengthOf_9 : decode cX2_lengthOf 9 = .ok (.invokevirtual 78, 3) := by decide +kernel
theorem dX2_lengthOf_12 : decode cX2_lengthOf 12 = .ok (.isub, 1) := by decide +kernel
theorem dX2_lengthOf_13 : decode cX2_lengthOf 13 = .ok (.ireturn, 1) := by decide +kernel
set_option maxRecDepth 20000 in
theorem ggX2_stepBehind_X2_lengthOf : GoodIn wsX2_stepBehind wsX2_lengthOf := goodIn_r _ [5, 6, 7, 8, 4, 9, 10, 11, 12, 13, 14, 15, 16, 17, 18, 19, 20, 21, 22, 23] (by decide +kernel) (by decide +kernel)
set_option maxRecDepth 20000 in
theorem gX2_stepBehind_X2_lengthOf : GoodIn wsX2_stepBehind (wsV RX2 82 RX2 yX2_lengthOf wsX2_lengthOf) := goodIn_app (goodIn_of _ (by decide +kernel)) ggX2_stepBehind_X2_lengthOf
set_option maxRecDepth 20000 in
theorem ggX2_stepBehind_X2_firstStep : GoodIn wsX2_stepBehind wsX2_firstStep := goodIn_r _ [9, 10, 11, 12, 13, 14, 15, 16, 17, 18, 19, 20, 21, 22, 23] (by decide +kernel) (by decide +kernel)
set_option maxRecDepth 20000 in
theorem gX2_stepBehind_X2_firstStep : GoodIn wsX2_stepBehind (wsV RX2 78 RX2 yX2_firstStep wsX2_firstStep) := goodIn_app (goodIn_of _ (by decide +kernel)) ggX2_stepBehind_X2_firstStep
theorem dX2_stepBehind_0 : decode cX2_stepBehind 0 = .ok (.aload_n 0, 1) := by decide +kernel
theorem dX2_stepBehind_1 : decode cX2_stepBehind 1 = .ok (.iload_n 1, 1) := by decide +kernel
theorem dX2_stepBehind_2 : decode cX2_stepBehind 2 = .ok (.invokevirtual 82, 3) := by decide +kernel
theorem dX2_stepBehind_5 : decode cX2_stepBehind 5 = .ok (.istore_n 3, 1) := by decide +kernel
theorem dX2_stepBehind_6 : decode cX2_stepBehind 6 = .ok (.iload_n 3, 1) := by decide +kernel
theorem dX2_stepBehind_7 : decode cX2_stepBehind 7 = .ok (.iconst 1, 1) := by decide +kernel
theorem dX2_stepBehind_8 : decode cX2_stepBehind 8 = .ok (.if_icmp .ge 8, 3) := by decide +kernel
theorem dX2_stepBehind_11 : decode cX2_stepBehind 11 = .ok (.bipush (-9), 2) := by decide +kernel
theorem dX2_stepBehind_13 : decode cX2_stepBehind 13 = .ok (.goto 12, 3) := by decide +kernel
theorem dX2_stepBehind_16 : decode cX2_stepBehind 16 = .ok (.aload_n 0, 1) := by decide +kernel
theorem dX2_stepBehind_17 : decode cX2_stepBehind 17 = .ok (.iload_n 1, 1) := by decide +kernel
theorem dX2_stepBehind_18 : decode cX2_stepBehind 18 = .ok (.invokevirtual 78, 3) := by decide +kernel
theorem dX2_stepBehind_21 : decode cX2_stepBehind 21 = .ok (.iload_n 2, 1) := by decide +kernel
theorem dX2_stepBehind_22 : decode cX2_stepBehind 22 = .ok (.iload_n 3, 1) := by decide +kernel
theorem dX2_stepBehind_23 : decode cX2_stepBehind 23 = .ok (.irem, 1) := by decide +kernel
theorem dX2_stepBehind_24 : decode cX2_stepBehind 24 = .ok (.iadd, 1) := by decide +kernel
theorem dX2_stepBehind_25 : decode cX2_stepBehind 25 = .ok (.ireturn, 1) := by decide +kernel
set_option maxRecDepth 20000 in
theorem ggX2_stepAfter_X2_ownerAt : GoodIn wsX2_stepAfter wsX2_ownerAt := goodIn_r _ [5, 6, 7, 8, 9, 18, 19, 20, 21, 22, 23, 24, 25, 26] (by decide +kernel) (by decide +kernel)
