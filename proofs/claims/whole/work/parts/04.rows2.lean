set_option maxRecDepth 20000 in
theorem gX2_stepAfter_X2_ownerAt : GoodIn wsX2_stepAfter (wsV RX2 85 RX2 yX2_ownerAt wsX2_ownerAt) := goodIn_app (goodIn_of _ (by decide +kernel)) ggX2_stepAfter_X2_ownerAt
set_option maxRecDepth 20000 in
theorem ggX2_stepAfter_X2_firstStep : GoodIn wsX2_stepAfter wsX2_firstStep := goodIn_r _ [13, 14, 15, 16, 8, 17, 18, 19, 20, 21, 22, 23, 24, 25, 26] (by decide +kernel) (by decide +kernel)
set_option maxRecDepth 20000 in
theorem gX2_stepAfter_X2_firstStep : GoodIn wsX2_stepAfter (wsV RX2 78 RX2 yX2_firstStep wsX2_firstStep) := goodIn_app (goodIn_of _ (by decide +kernel)) ggX2_stepAfter_X2_firstStep
theorem dX2_stepAfter_0 : decode cX2_stepAfter 0 = .ok (.aload_n 0, 1) := by decide +kernel
theorem dX2_stepAfter_1 : decode cX2_stepAfter 1 = .ok (.iload_n 1, 1) := by decide +kernel
theorem dX2_stepAfter_2 : decode cX2_stepAfter 2 = .ok (.invokevirtual 85, 3) := by decide +kernel
theorem dX2_stepAfter_5 : decode cX2_stepAfter 5 = .ok (.istore_n 2, 1) := by decide +kernel
theorem dX2_stepAfter_6 : decode cX2_stepAfter 6 = .ok (.iload_n 1, 1) := by decide +kernel
theorem dX2_stepAfter_7 : decode cX2_stepAfter 7 = .ok (.iconst 1, 1) := by decide +kernel
theorem dX2_stepAfter_8 : decode cX2_stepAfter 8 = .ok (.iadd, 1) := by decide +kernel
theorem dX2_stepAfter_9 : decode cX2_stepAfter 9 = .ok (.aload_n 0, 1) := by decide +kernel
theorem dX2_stepAfter_10 : decode cX2_stepAfter 10 = .ok (.iload_n 2, 1) := by decide +kernel
theorem dX2_stepAfter_11 : decode cX2_stepAfter 11 = .ok (.iconst 1, 1) := by decide +kernel
theorem dX2_stepAfter_12 : decode cX2_stepAfter 12 = .ok (.iadd, 1) := by decide +kernel
theorem dX2_stepAfter_13 : decode cX2_stepAfter 13 = .ok (.invokevirtual 78, 3) := by decide +kernel
theorem dX2_stepAfter_16 : decode cX2_stepAfter 16 = .ok (.if_icmp .ge 9, 3) := by decide +kernel
theorem dX2_stepAfter_19 : decode cX2_stepAfter 19 = .ok (.iload_n 1, 1) := by decide +kernel
theorem dX2_stepAfter_20 : decode cX2_stepAfter 20 = .ok (.iconst 1, 1) := by decide +kernel
theorem dX2_stepAfter_21 : decode cX2_stepAfter 21 = .ok (.iadd, 1) := by decide +kernel
theorem dX2_stepAfter_22 : decode cX2_stepAfter 22 = .ok (.goto 8, 3) := by decide +kernel
theorem dX2_stepAfter_25 : decode cX2_stepAfter 25 = .ok (.aload_n 0, 1) := by decide +kernel
theorem dX2_stepAfter_26 : decode cX2_stepAfter 26 = .ok (.iload_n 2, 1) := by decide +kernel
theorem dX2_stepAfter_27 : decode cX2_stepAfter 27 = .ok (.invokevirtual 78, 3) := by decide +kernel
theorem dX2_stepAfter_30 : decode cX2_stepAfter 30 = .ok (.ireturn, 1) := by decide +kernel
theorem dX3_init_0 : decode cX3_init 0 = .ok (.aload_n 0, 1) := by decide +kernel
theorem dX3_init_1 : decode cX3_init 1 = .ok (.invokespecial 3, 3) := by decide +kernel
theorem dX3_init_4 : decode cX3_init 4 = .ok (.aload_n 0, 1) := by decide +kernel
theorem dX3_init_5 : decode cX3_init 5 = .ok (.bipush 60, 2) := by decide +kernel
theorem dX3_init_7 : decode cX3_init 7 = .ok (.newarray .int, 2) := by decide +kernel
theorem dX3_init_9 : decode cX3_init 9 = .ok (.putfield 9, 3) := by decide +kernel
theorem dX3_init_12 : decode cX3_init 12 = .ok (.aload_n 0, 1) := by decide +kernel
theorem dX3_init_13 : decode cX3_init 13 = .ok (.bipush 60, 2) := by decide +kernel
theorem dX3_init_15 : decode cX3_init 15 = .ok (.newarray .int, 2) := by decide +kernel
theorem dX3_init_17 : decode cX3_init 17 = .ok (.putfield 15, 3) := by decide +kernel
theorem dX3_init_20 : decode cX3_init 20 = .ok (.aload_n 0, 1) := by decide +kernel
theorem dX3_init_21 : decode cX3_init 21 = .ok (.sipush 169, 3) := by decide +kernel
theorem dX3_init_24 : decode cX3_init 24 = .ok (.newarray .int, 2) := by decide +kernel
theorem dX3_init_26 : decode cX3_init 26 = .ok (.putfield 18, 3) := by decide +kernel
theorem dX3_init_29 : decode cX3_init 29 = .ok (.return_, 1) := by decide +kernel
set_option maxRecDepth 20000 in
theorem ggX3_spread_X5_isSquares : GoodIn wsX3_spread wsX5_isSquares := goodIn_r _ [9] (by decide +kernel) (by decide +kernel)
set_option maxRecDepth 20000 in
theorem gX3_spread_X5_isSquares_n21 : GoodIn wsX3_spread (wsX5_isSquares) := ggX3_spread_X5_isSquares
set_option maxRecDepth 20000 in
theorem ggX3_spread_J7_fill_53178 : GoodIn wsX3_spread wsJ7_fill_53178 := goodIn_r _ [13] (by decide +kernel) (by decide +kernel)
set_option maxRecDepth 20000 in
theorem gX3_spread_J7_fill_53178 : GoodIn wsX3_spread (va_wsS RX3 35 yJ7_fill_53178 wsJ7_fill_53178) := goodIn_app (goodIn_of _ (by decide +kernel)) ggX3_spread_J7_fill_53178
theorem dX3_spread_0 : decode cX3_spread 0 = .ok (.iload_n 1, 1) := by decide +kernel
theorem dX3_spread_1 : decode cX3_spread 1 = .ok (.invokestatic 21, 3) := by decide +kernel
theorem dX3_spread_4 : decode cX3_spread 4 = .ok (.ifCond .eq 10, 3) := by decide +kernel
theorem dX3_spread_7 : decode cX3_spread 7 = .ok (.iload_n 2, 1) := by decide +kernel
theorem dX3_spread_8 : decode cX3_spread 8 = .ok (.invokestatic 21, 3) := by decide +kernel
theorem dX3_spread_11 : decode cX3_spread 11 = .ok (.ifCond .ne 4, 3) := by decide +kernel
theorem dX3_spread_14 : decode cX3_spread 14 = .ok (.return_, 1) := by decide +kernel
theorem dX3_spread_15 : decode cX3_spread 15 = .ok (.aload_n 0, 1) := by decide +kernel
theorem dX3_spread_16 : decode cX3_spread 16 = .ok (.iload_n 1, 1) := by decide +kernel
theorem dX3_spread_17 : decode cX3_spread 17 = .ok (.putfield 25, 3) := by decide +kernel
theorem dX3_spread_20 : decode cX3_spread 20 = .ok (.aload_n 0, 1) := by decide +kernel
theorem dX3_spread_21 : decode cX3_spread 21 = .ok (.iload_n 2, 1) := by decide +kernel
theorem dX3_spread_22 : decode cX3_spread 22 = .ok (.putfield 29, 3) := by decide +kernel
theorem dX3_spread_25 : decode cX3_spread 25 = .ok (.aload_n 0, 1) := by decide +kernel
theorem dX3_spread_26 : decode cX3_spread 26 = .ok (.iconst 0, 1) := by decide +kernel
theorem dX3_spread_27 : decode cX3_spread 27 = .ok (.putfield 32, 3) := by decide +kernel
theorem dX3_spread_30 : decode cX3_spread 30 = .ok (.aload_n 0, 1) := by decide +kernel
theorem dX3_spread_31 : decode cX3_spread 31 = .ok (.getfield 15, 3) := by decide +kernel
theorem dX3_spread_34 : decode cX3_spread 34 = .ok (.iconst 0, 1) := by decide +kernel
theorem dX3_spread_35 : decode cX3_spread 35 = .ok (.invokestatic 35, 3) := by decide +kernel
theorem dX3_spread_38 : decode cX3_spread 38 = .ok (.aload_n 0, 1) := by decide +kernel
theorem dX3_spread_39 : decode cX3_spread 39 = .ok (.getfield 18, 3) := by decide +kernel
theorem dX3_spread_42 : decode cX3_spread 42 = .ok (.bipush (-9), 2) := by decide +kernel
theorem dX3_spread_44 : decode cX3_spread 44 = .ok (.invokestatic 35, 3) := by decide +kernel
theorem dX3_spread_47 : decode cX3_spread 47 = .ok (.iconst 1, 1) := by decide +kernel
theorem dX3_spread_48 : decode cX3_spread 48 = .ok (.istore_n 3, 1) := by decide +kernel
theorem dX3_spread_49 : decode cX3_spread 49 = .ok (.iload_n 3, 1) := by decide +kernel
theorem dX3_spread_50 : decode cX3_spread 50 = .ok (.iconst 2, 1) := by decide +kernel
theorem dX3_spread_51 : decode cX3_spread 51 = .ok (.iload_n 1, 1) := by decide +kernel
theorem dX3_spread_52 : decode cX3_spread 52 = .ok (.imul, 1) := by decide +kernel
theorem dX3_spread_53 : decode cX3_spread 53 = .ok (.if_icmp .ge 81, 3) := by decide +kernel
theorem dX3_spread_56 : decode cX3_spread 56 = .ok (.iconst 1, 1) := by decide +kernel
theorem dX3_spread_57 : decode cX3_spread 57 = .ok (.iload_n 3, 1) := by decide +kernel
theorem dX3_spread_58 : decode cX3_spread 58 = .ok (.iconst 2, 1) := by decide +kernel
theorem dX3_spread_59 : decode cX3_spread 59 = .ok (.irem, 1) := by decide +kernel
theorem dX3_spread_60 : decode cX3_spread 60 = .ok (.iadd, 1) := by decide +kernel
theorem dX3_spread_61 : decode cX3_spread 61 = .ok (.istore 4, 2) := by decide +kernel
theorem dX3_spread_63 : decode cX3_spread 63 = .ok (.iload 4, 2) := by decide +kernel
theorem dX3_spread_65 : decode cX3_spread 65 = .ok (.iconst 2, 1) := by decide +kernel
theorem dX3_spread_66 : decode cX3_spread 66 = .ok (.iload_n 2, 1) := by decide +kernel
theorem dX3_spread_67 : decode cX3_spread 67 = .ok (.imul, 1) := by decide +kernel
theorem dX3_spread_68 : decode cX3_spread 68 = .ok (.if_icmp .ge 60, 3) := by decide +kernel
theorem dX3_spread_71 : decode cX3_spread 71 = .ok (.aload_n 0, 1) := by decide +kernel
theorem dX3_spread_72 : decode cX3_spread 72 = .ok (.getfield 32, 3) := by decide +kernel
theorem dX3_spread_75 : decode cX3_spread 75 = .ok (.bipush 60, 2) := by decide +kernel
theorem dX3_spread_77 : decode cX3_spread 77 = .ok (.if_icmp .ge 51, 3) := by decide +kernel
theorem dX3_spread_80 : decode cX3_spread 80 = .ok (.aload_n 0, 1) := by decide +kernel
theorem dX3_spread_81 : decode cX3_spread 81 = .ok (.getfield 18, 3) := by decide +kernel
theorem dX3_spread_84 : decode cX3_spread 84 = .ok (.iload_n 3, 1) := by decide +kernel
theorem dX3_spread_85 : decode cX3_spread 85 = .ok (.bipush 13, 2) := by decide +kernel
theorem dX3_spread_87 : decode cX3_spread 87 = .ok (.imul, 1) := by decide +kernel
theorem dX3_spread_88 : decode cX3_spread 88 = .ok (.iload 4, 2) := by decide +kernel
theorem dX3_spread_90 : decode cX3_spread 90 = .ok (.iadd, 1) := by decide +kernel
theorem dX3_spread_91 : decode cX3_spread 91 = .ok (.aload_n 0, 1) := by decide +kernel
theorem dX3_spread_92 : decode cX3_spread 92 = .ok (.getfield 32, 3) := by decide +kernel
theorem dX3_spread_95 : decode cX3_spread 95 = .ok (.iastore, 1) := by decide +kernel
theorem dX3_spread_96 : decode cX3_spread 96 = .ok (.aload_n 0, 1) := by decide +kernel
theorem dX3_spread_97 : decode cX3_spread 97 = .ok (.getfield 9, 3) := by decide +kernel
theorem dX3_spread_100 : decode cX3_spread 100 = .ok (.aload_n 0, 1) := by decide +kernel
theorem dX3_spread_101 : decode cX3_spread 101 = .ok (.getfield 32, 3) := by decide +kernel
theorem dX3_spread_104 : decode cX3_spread 104 = .ok (.bipush 100, 2) := by decide +kernel
theorem dX3_spread_106 : decode cX3_spread 106 = .ok (.iload_n 3, 1) := by decide +kernel
theorem dX3_spread_107 : decode cX3_spread 107 = .ok (.imul, 1) := by decide +kernel
theorem dX3_spread_108 : decode cX3_spread 108 = .ok (.iload 4, 2) := by decide +kernel
theorem dX3_spread_110 : decode cX3_spread 110 = .ok (.iadd, 1) := by decide +kernel
theorem dX3_spread_111 : decode cX3_spread 111 = .ok (.iastore, 1) := by decide +kernel
theorem dX3_spread_112 : decode cX3_spread 112 = .ok (.aload_n 0, 1) := by decide +kernel
theorem dX3_spread_113 : decode cX3_spread 113 = .ok (.dup, 1) := by decide +kernel
theorem dX3_spread_114 : decode cX3_spread 114 = .ok (.getfield 32, 3) := by decide +kernel
theorem dX3_spread_117 : decode cX3_spread 117 = .ok (.iconst 1, 1) := by decide +kernel
theorem dX3_spread_118 : decode cX3_spread 118 = .ok (.iadd, 1) := by decide +kernel
theorem dX3_spread_119 : decode cX3_spread 119 = .ok (.putfield 32, 3) := by decide +kernel
theorem dX3_spread_122 : decode cX3_spread 122 = .ok (.iinc 4 2, 3) := by decide +kernel
theorem dX3_spread_125 : decode cX3_spread 125 = .ok (.goto (-62), 3) := by decide +kernel
theorem dX3_spread_128 : decode cX3_spread 128 = .ok (.iinc 3 1, 3) := by decide +kernel
theorem dX3_spread_131 : decode cX3_spread 131 = .ok (.goto (-82), 3) := by decide +kernel
theorem dX3_spread_134 : decode cX3_spread 134 = .ok (.return_, 1) := by decide +kernel
theorem dX3_become_0 : decode cX3_become 0 = .ok (.aload_n 0, 1) := by decide +kernel
theorem dX3_become_1 : decode cX3_become 1 = .ok (.aload_n 1, 1) := by decide +kernel
theorem dX3_become_2 : decode cX3_become 2 = .ok (.getfield 25, 3) := by decide +kernel
theorem dX3_become_5 : decode cX3_become 5 = .ok (.putfield 25, 3) := by decide +kernel
theorem dX3_become_8 : decode cX3_become 8 = .ok (.aload_n 0, 1) := by decide +kernel
theorem dX3_become_9 : decode cX3_become 9 = .ok (.aload_n 1, 1) := by decide +kernel
theorem dX3_become_10 : decode cX3_become 10 = .ok (.getfield 29, 3) := by decide +kernel
theorem dX3_become_13 : decode cX3_become 13 = .ok (.putfield 29, 3) := by decide +kernel
theorem dX3_become_16 : decode cX3_become 16 = .ok (.aload_n 0, 1) := by decide +kernel
theorem dX3_become_17 : decode cX3_become 17 = .ok (.aload_n 1, 1) := by decide +kernel
theorem dX3_become_18 : decode cX3_become 18 = .ok (.getfield 32, 3) := by decide +kernel
theorem dX3_become_21 : decode cX3_become 21 = .ok (.putfield 32, 3) := by decide +kernel
theorem dX3_become_24 : decode cX3_become 24 = .ok (.aload_n 1, 1) := by decide +kernel
theorem dX3_become_25 : decode cX3_become 25 = .ok (.getfield 9, 3) := by decide +kernel
theorem dX3_become_28 : decode cX3_become 28 = .ok (.iconst 0, 1) := by decide +kernel
theorem dX3_become_29 : decode cX3_become 29 = .ok (.aload_n 0, 1) := by decide +kernel
theorem dX3_become_30 : decode cX3_become 30 = .ok (.getfield 9, 3) := by decide +kernel
theorem dX3_become_33 : decode cX3_become 33 = .ok (.iconst 0, 1) := by decide +kernel
theorem dX3_become_34 : decode cX3_become 34 = .ok (.bipush 60, 2) := by decide +kernel
theorem dX3_become_36 : decode cX3_become 36 = .ok (.invokestatic 41, 3) := by decide +kernel
theorem dX3_become_39 : decode cX3_become 39 = .ok (.aload_n 1, 1) := by decide +kernel
theorem dX3_become_40 : decode cX3_become 40 = .ok (.getfield 15, 3) := by decide +kernel
theorem dX3_become_43 : decode cX3_become 43 = .ok (.iconst 0, 1) := by decide +kernel
theorem dX3_become_44 : decode cX3_become 44 = .ok (.aload_n 0, 1) := by decide +kernel
theorem dX3_become_45 : decode cX3_become 45 = .ok (.getfield 15, 3) := by decide +kernel
theorem dX3_become_48 : decode cX3_become 48 = .ok (.iconst 0, 1) := by decide +kernel
theorem dX3_become_49 : decode cX3_become 49 = .ok (.bipush 60, 2) := by decide +kernel
theorem dX3_become_51 : decode cX3_become 51 = .ok (.invokestatic 41, 3) := by decide +kernel
theorem dX3_become_54 : decode cX3_become 54 = .ok (.aload_n 1, 1) := by decide +kernel
theorem dX3_become_55 : decode cX3_become 55 = .ok (.getfield 18, 3) := by decide +kernel
theorem dX3_become_58 : decode cX3_become 58 = .ok (.iconst 0, 1) := by decide +kernel
theorem dX3_become_59 : decode cX3_become 59 = .ok (.aload_n 0, 1) := by decide +kernel
theorem dX3_become_60 : decode cX3_become 60 = .ok (.getfield 18, 3) := by decide +kernel
theorem dX3_become_63 : decode cX3_become 63 = .ok (.iconst 0, 1) := by decide +kernel
theorem dX3_become_64 : decode cX3_become 64 = .ok (.sipush 169, 3) := by decide +kernel
theorem dX3_become_67 : decode cX3_become 67 = .ok (.invokestatic 41, 3) := by decide +kernel
theorem dX3_become_70 : decode cX3_become 70 = .ok (.return_, 1) := by decide +kernel
theorem dX3_sow_0 : decode cX3_sow 0 = .ok (.lload_n 1, 1) := by decide +kernel
theorem dX3_sow_1 : decode cX3_sow 1 = .ok (.lstore 5, 2) := by decide +kernel
theorem dX3_sow_3 : decode cX3_sow 3 = .ok (.iconst 0, 1) := by decide +kernel
theorem dX3_sow_4 : decode cX3_sow 4 = .ok (.istore 7, 2) := by decide +kernel
theorem dX3_sow_6 : decode cX3_sow 6 = .ok (.iload 7, 2) := by decide +kernel
theorem dX3_sow_8 : decode cX3_sow 8 = .ok (.aload_n 0, 1) := by decide +kernel
theorem dX3_sow_9 : decode cX3_sow 9 = .ok (.getfield 32, 3) := by decide +kernel
theorem dX3_sow_12 : decode cX3_sow 12 = .ok (.if_icmp .ge 74, 3) := by decide +kernel
theorem dX3_sow_15 : decode cX3_sow 15 = .ok (.iload 7, 2) := by decide +kernel
theorem dX3_sow_17 : decode cX3_sow 17 = .ok (.bipush 60, 2) := by decide +kernel
theorem dX3_sow_19 : decode cX3_sow 19 = .ok (.if_icmp .ge 67, 3) := by decide +kernel
theorem dX3_sow_22 : decode cX3_sow 22 = .ok (.lload 5, 2) := by decide +kernel
theorem dX3_sow_24 : decode cX3_sow 24 = .ok (.ldc2_w 47, 3) := by decide +kernel
theorem dX3_sow_27 : decode cX3_sow 27 = .ok (.lmul, 1) := by decide +kernel
theorem dX3_sow_28 : decode cX3_sow 28 = .ok (.ldc2_w 49, 3) := by decide +kernel
theorem dX3_sow_31 : decode cX3_sow 31 = .ok (.ladd, 1) := by decide +kernel
theorem dX3_sow_32 : decode cX3_sow 32 = .ok (.lstore 5, 2) := by decide +kernel
theorem dX3_sow_34 : decode cX3_sow 34 = .ok (.lload 5, 2) := by decide +kernel
theorem dX3_sow_36 : decode cX3_sow 36 = .ok (.bipush 33, 2) := by decide +kernel
theorem dX3_sow_38 : decode cX3_sow 38 = .ok (.lushr, 1) := by decide +kernel
theorem dX3_sow_39 : decode cX3_sow 39 = .ok (.ldc2_w 51, 3) := by decide +kernel
theorem dX3_sow_42 : decode cX3_sow 42 = .ok (.lrem, 1) := by decide +kernel
theorem dX3_sow_43 : decode cX3_sow 43 = .ok (.lstore 8, 2) := by decide +kernel
theorem dX3_sow_45 : decode cX3_sow 45 = .ok (.aload_n 0, 1) := by decide +kernel
theorem dX3_sow_46 : decode cX3_sow 46 = .ok (.getfield 15, 3) := by decide +kernel
theorem dX3_sow_49 : decode cX3_sow 49 = .ok (.iload 7, 2) := by decide +kernel
theorem dX3_sow_51 : decode cX3_sow 51 = .ok (.lload 8, 2) := by decide +kernel
theorem dX3_sow_53 : decode cX3_sow 53 = .ok (.iload_n 3, 1) := by decide +kernel
theorem dX3_sow_54 : decode cX3_sow 54 = .ok (.i2l, 1) := by decide +kernel
theorem dX3_sow_55 : decode cX3_sow 55 = .ok (.lcmp, 1) := by decide +kernel
theorem dX3_sow_56 : decode cX3_sow 56 = .ok (.ifCond .ge 7, 3) := by decide +kernel
theorem dX3_sow_59 : decode cX3_sow 59 = .ok (.iconst 1, 1) := by decide +kernel
theorem dX3_sow_60 : decode cX3_sow 60 = .ok (.goto 19, 3) := by decide +kernel
theorem dX3_sow_63 : decode cX3_sow 63 = .ok (.lload 8, 2) := by decide +kernel
theorem dX3_sow_65 : decode cX3_sow 65 = .ok (.iload_n 3, 1) := by decide +kernel
theorem dX3_sow_66 : decode cX3_sow 66 = .ok (.iload 4, 2) := by decide +kernel
theorem dX3_sow_68 : decode cX3_sow 68 = .ok (.iadd, 1) := by decide +kernel
theorem dX3_sow_69 : decode cX3_sow 69 = .ok (.i2l, 1) := by decide +kernel
theorem dX3_sow_70 : decode cX3_sow 70 = .ok (.lcmp, 1) := by decide +kernel
theorem dX3_sow_71 : decode cX3_sow 71 = .ok (.ifCond .ge 7, 3) := by decide +kernel
theorem dX3_sow_74 : decode cX3_sow 74 = .ok (.iconst 2, 1) := by decide +kernel
theorem dX3_sow_75 : decode cX3_sow 75 = .ok (.goto 4, 3) := by decide +kernel
theorem dX3_sow_78 : decode cX3_sow 78 = .ok (.iconst 0, 1) := by decide +kernel
theorem dX3_sow_79 : decode cX3_sow 79 = .ok (.iastore, 1) := by decide +kernel
theorem dX3_sow_80 : decode cX3_sow 80 = .ok (.iinc 7 1, 3) := by decide +kernel
theorem dX3_sow_83 : decode cX3_sow 83 = .ok (.goto (-77), 3) := by decide +kernel
theorem dX3_sow_86 : decode cX3_sow 86 = .ok (.return_, 1) := by decide +kernel
theorem dX3_hasCell_0 : decode cX3_hasCell 0 = .ok (.iload_n 1, 1) := by decide +kernel
theorem dX3_hasCell_1 : decode cX3_hasCell 1 = .ok (.ifCond .lt 31, 3) := by decide +kernel
theorem dX3_hasCell_4 : decode cX3_hasCell 4 = .ok (.iload_n 1, 1) := by decide +kernel
theorem dX3_hasCell_5 : decode cX3_hasCell 5 = .ok (.iconst 2, 1) := by decide +kernel
theorem dX3_hasCell_6 : decode cX3_hasCell 6 = .ok (.aload_n 0, 1) := by decide +kernel
theorem dX3_hasCell_7 : decode cX3_hasCell 7 = .ok (.getfield 25, 3) := by decide +kernel
theorem dX3_hasCell_10 : decode cX3_hasCell 10 = .ok (.imul, 1) := by decide +kernel
theorem dX3_hasCell_11 : decode cX3_hasCell 11 = .ok (.if_icmp .ge 21, 3) := by decide +kernel
theorem dX3_hasCell_14 : decode cX3_hasCell 14 = .ok (.iload_n 2, 1) := by decide +kernel
theorem dX3_hasCell_15 : decode cX3_hasCell 15 = .ok (.ifCond .lt 17, 3) := by decide +kernel
theorem dX3_hasCell_18 : decode cX3_hasCell 18 = .ok (.iload_n 2, 1) := by decide +kernel
theorem dX3_hasCell_19 : decode cX3_hasCell 19 = .ok (.iconst 2, 1) := by decide +kernel
theorem dX3_hasCell_20 : decode cX3_hasCell 20 = .ok (.aload_n 0, 1) := by decide +kernel
theorem dX3_hasCell_21 : decode cX3_hasCell 21 = .ok (.getfield 29, 3) := by decide +kernel
theorem dX3_hasCell_24 : decode cX3_hasCell 24 = .ok (.imul, 1) := by decide +kernel
theorem dX3_hasCell_25 : decode cX3_hasCell 25 = .ok (.if_icmp .ge 7, 3) := by decide +kernel
theorem dX3_hasCell_28 : decode cX3_hasCell 28 = .ok (.iconst 1, 1) := by decide +kernel
theorem dX3_hasCell_29 : decode cX3_hasCell 29 = .ok (.goto 4, 3) := by decide +kernel
theorem dX3_hasCell_32 : decode cX3_hasCell 32 = .ok (.iconst 0, 1) := by decide +kernel
theorem dX3_hasCell_33 : decode cX3_hasCell 33 = .ok (.ireturn, 1) := by decide +kernel
theorem dX3_numberAt_0 : decode cX3_numberAt 0 = .ok (.iload_n 1, 1) := by decide +kernel
theorem dX3_numberAt_1 : decode cX3_numberAt 1 = .ok (.ifCond .lt 23, 3) := by decide +kernel
theorem dX3_numberAt_4 : decode cX3_numberAt 4 = .ok (.iload_n 1, 1) := by decide +kernel
theorem dX3_numberAt_5 : decode cX3_numberAt 5 = .ok (.bipush 13, 2) := by decide +kernel
theorem dX3_numberAt_7 : decode cX3_numberAt 7 = .ok (.if_icmp .ge 17, 3) := by decide +kernel
theorem dX3_numberAt_10 : decode cX3_numberAt 10 = .ok (.iload_n 2, 1) := by decide +kernel
theorem dX3_numberAt_11 : decode cX3_numberAt 11 = .ok (.ifCond .lt 13, 3) := by decide +kernel
theorem dX3_numberAt_14 : decode cX3_numberAt 14 = .ok (.iload_n 2, 1) := by decide +kernel
theorem dX3_numberAt_15 : decode cX3_numberAt 15 = .ok (.bipush 13, 2) := by decide +kernel
theorem dX3_numberAt_17 : decode cX3_numberAt 17 = .ok (.if_icmp .ge 7, 3) := by decide +kernel
theorem dX3_numberAt_20 : decode cX3_numberAt 20 = .ok (.iconst 1, 1) := by decide +kernel
theorem dX3_numberAt_21 : decode cX3_numberAt 21 = .ok (.goto 4, 3) := by decide +kernel
theorem dX3_numberAt_24 : decode cX3_numberAt 24 = .ok (.iconst 0, 1) := by decide +kernel
theorem dX3_numberAt_25 : decode cX3_numberAt 25 = .ok (.istore_n 3, 1) := by decide +kernel
theorem dX3_numberAt_26 : decode cX3_numberAt 26 = .ok (.iload_n 3, 1) := by decide +kernel
theorem dX3_numberAt_27 : decode cX3_numberAt 27 = .ok (.ifCond .eq 17, 3) := by decide +kernel
theorem dX3_numberAt_30 : decode cX3_numberAt 30 = .ok (.aload_n 0, 1) := by decide +kernel
theorem dX3_numberAt_31 : decode cX3_numberAt 31 = .ok (.getfield 18, 3) := by decide +kernel
theorem dX3_numberAt_34 : decode cX3_numberAt 34 = .ok (.iload_n 1, 1) := by decide +kernel
theorem dX3_numberAt_35 : decode cX3_numberAt 35 = .ok (.bipush 13, 2) := by decide +kernel
theorem dX3_numberAt_37 : decode cX3_numberAt 37 = .ok (.imul, 1) := by decide +kernel
theorem dX3_numberAt_38 : decode cX3_numberAt 38 = .ok (.iload_n 2, 1) := by decide +kernel
theorem dX3_numberAt_39 : decode cX3_numberAt 39 = .ok (.iadd, 1) := by decide +kernel
theorem dX3_numberAt_40 : decode cX3_numberAt 40 = .ok (.iaload, 1) := by decide +kernel
theorem dX3_numberAt_41 : decode cX3_numberAt 41 = .ok (.goto 5, 3) := by decide +kernel
theorem dX3_numberAt_44 : decode cX3_numberAt 44 = .ok (.bipush (-9), 2) := by decide +kernel
theorem dX3_numberAt_46 : decode cX3_numberAt 46 = .ok (.ireturn, 1) := by decide +kernel
set_option maxRecDepth 20000 in
theorem ggX3_numberOf_X3_numberAt : GoodIn wsX3_numberOf wsX3_numberAt := goodIn_r _ [5, 6, 7, 8, 9, 10, 11, 12] (by decide +kernel) (by decide +kernel)
set_option maxRecDepth 20000 in
theorem gX3_numberOf_X3_numberAt : GoodIn wsX3_numberOf (wsV RX3 53 RX3 yX3_numberAt wsX3_numberAt) := goodIn_app (goodIn_of _ (by decide +kernel)) ggX3_numberOf_X3_numberAt
theorem dX3_numberOf_0 : decode cX3_numberOf 0 = .ok (.iload_n 1, 1) := by decide +kernel
theorem dX3_numberOf_1 : decode cX3_numberOf 1 = .ok (.ifCond .ge 8, 3) := by decide +kernel
theorem dX3_numberOf_4 : decode cX3_numberOf 4 = .ok (.bipush (-9), 2) := by decide +kernel
theorem dX3_numberOf_6 : decode cX3_numberOf 6 = .ok (.goto 15, 3) := by decide +kernel
theorem dX3_numberOf_9 : decode cX3_numberOf 9 = .ok (.aload_n 0, 1) := by decide +kernel
theorem dX3_numberOf_10 : decode cX3_numberOf 10 = .ok (.iload_n 1, 1) := by decide +kernel
theorem dX3_numberOf_11 : decode cX3_numberOf 11 = .ok (.bipush 100, 2) := by decide +kernel
theorem dX3_numberOf_13 : decode cX3_numberOf 13 = .ok (.idiv, 1) := by decide +kernel
theorem dX3_numberOf_14 : decode cX3_numberOf 14 = .ok (.iload_n 1, 1) := by decide +kernel
theorem dX3_numberOf_15 : decode cX3_numberOf 15 = .ok (.bipush 100, 2) := by decide +kernel
theorem dX3_numberOf_17 : decode cX3_numberOf 17 = .ok (.irem, 1) := by decide +kernel
theorem dX3_numberOf_18 : decode cX3_numberOf 18 = .ok (.invokevirtual 53, 3) := by decide +kernel
theorem dX3_numberOf_21 : decode cX3_numberOf 21 = .ok (.ireturn, 1) := by decide +kernel
set_option maxRecDepth 20000 in
theorem ggX3_pointOf_X5_at : GoodIn wsX3_pointOf wsX5_at := goodIn_r _ [4] (by decide +kernel) (by decide +kernel)
set_option maxRecDepth 20000 in
theorem gX3_pointOf_X5_at_n57 : GoodIn wsX3_pointOf (wsX5_at) := ggX3_pointOf_X5_at
theorem dX3_pointOf_0 : decode cX3_pointOf 0 = .ok (.aload_n 0, 1) := by decide +kernel
theorem dX3_pointOf_1 : decode cX3_pointOf 1 = .ok (.getfield 9, 3) := by decide +kernel
theorem dX3_pointOf_4 : decode cX3_pointOf 4 = .ok (.iload_n 1, 1) := by decide +kernel
theorem dX3_pointOf_5 : decode cX3_pointOf 5 = .ok (.invokestatic 57, 3) := by decide +kernel
theorem dX3_pointOf_8 : decode cX3_pointOf 8 = .ok (.ireturn, 1) := by decide +kernel
set_option maxRecDepth 20000 in
theorem ggX3_kindOf_X5_at : GoodIn wsX3_kindOf wsX5_at := goodIn_r _ [4] (by decide +kernel) (by decide +kernel)
set_option maxRecDepth 20000 in
theorem gX3_kindOf_X5_at_n57 : GoodIn wsX3_kindOf (wsX5_at) := ggX3_kindOf_X5_at
theorem dX3_kindOf_0 : decode cX3_kindOf 0 = .ok (.aload_n 0, 1) := by decide +kernel
theorem dX3_kindOf_1 : decode cX3_kindOf 1 = .ok (.getfield 15, 3) := by decide +kernel
theorem dX3_kindOf_4 : decode cX3_kindOf 4 = .ok (.iload_n 1, 1) := by decide +kernel
theorem dX3_kindOf_5 : decode cX3_kindOf 5 = .ok (.invokestatic 57, 3) := by decide +kernel
theorem dX3_kindOf_8 : decode cX3_kindOf 8 = .ok (.ireturn, 1) := by decide +kernel
set_option maxRecDepth 20000 in
theorem ggX3_isCrossing_X3_kindOf : GoodIn wsX3_isCrossing wsX3_kindOf := goodIn_r _ [5, 6, 7, 8, 9, 10, 11, 12, 13, 14, 15] (by decide +kernel) (by decide +kernel)
set_option maxRecDepth 20000 in
theorem gX3_isCrossing_X3_kindOf : GoodIn wsX3_isCrossing (wsV RX3 61 RX3 yX3_kindOf wsX3_kindOf) := goodIn_app (goodIn_of _ (by decide +kernel)) ggX3_isCrossing_X3_kindOf
theorem dX3_isCrossing_0 : decode cX3_isCrossing 0 = .ok (.aload_n 0, 1) := by decide +kernel
theorem dX3_isCrossing_1 : decode cX3_isCrossing 1 = .ok (.iload_n 1, 1) := by decide +kernel
theorem dX3_isCrossing_2 : decode cX3_isCrossing 2 = .ok (.invokevirtual 61, 3) := by decide +kernel
theorem dX3_isCrossing_5 : decode cX3_isCrossing 5 = .ok (.istore_n 2, 1) := by decide +kernel
theorem dX3_isCrossing_6 : decode cX3_isCrossing 6 = .ok (.iload_n 2, 1) := by decide +kernel
theorem dX3_isCrossing_7 : decode cX3_isCrossing 7 = .ok (.ifCond .eq 8, 3) := by decide +kernel
theorem dX3_isCrossing_10 : decode cX3_isCrossing 10 = .ok (.iload_n 2, 1) := by decide +kernel
theorem dX3_isCrossing_11 : decode cX3_isCrossing 11 = .ok (.iconst 3, 1) := by decide +kernel
theorem dX3_isCrossing_12 : decode cX3_isCrossing 12 = .ok (.if_icmp .ne 7, 3) := by decide +kernel
theorem dX3_isCrossing_15 : decode cX3_isCrossing 15 = .ok (.iconst 1, 1) := by decide +kernel
theorem dX3_isCrossing_16 : decode cX3_isCrossing 16 = .ok (.goto 4, 3) := by decide +kernel
theorem dX3_isCrossing_19 : decode cX3_isCrossing 19 = .ok (.iconst 0, 1) := by decide +kernel
theorem dX3_isCrossing_20 : decode cX3_isCrossing 20 = .ok (.ireturn, 1) := by decide +kernel
set_option maxRecDepth 20000 in
theorem ggX3_put_X5_isIn : GoodIn wsX3_put wsX5_isIn := goodIn_r _ [4] (by decide +kernel) (by decide +kernel)
set_option maxRecDepth 20000 in
theorem gX3_put_X5_isIn_n65 : GoodIn wsX3_put (wsX5_isIn) := ggX3_put_X5_isIn
theorem dX3_put_0 : decode cX3_put 0 = .ok (.aload_n 0, 1) := by decide +kernel
theorem dX3_put_1 : decode cX3_put 1 = .ok (.getfield 15, 3) := by decide +kernel
theorem dX3_put_4 : decode cX3_put 4 = .ok (.iload_n 1, 1) := by decide +kernel
theorem dX3_put_5 : decode cX3_put 5 = .ok (.invokestatic 65, 3) := by decide +kernel
theorem dX3_put_8 : decode cX3_put 8 = .ok (.ifCond .eq 10, 3) := by decide +kernel
theorem dX3_put_11 : decode cX3_put 11 = .ok (.aload_n 0, 1) := by decide +kernel
theorem dX3_put_12 : decode cX3_put 12 = .ok (.getfield 15, 3) := by decide +kernel
theorem dX3_put_15 : decode cX3_put 15 = .ok (.iload_n 1, 1) := by decide +kernel
theorem dX3_put_16 : decode cX3_put 16 = .ok (.iload_n 2, 1) := by decide +kernel
theorem dX3_put_17 : decode cX3_put 17 = .ok (.iastore, 1) := by decide +kernel
theorem dX3_put_18 : decode cX3_put 18 = .ok (.return_, 1) := by decide +kernel
set_option maxRecDepth 20000 in
theorem ggX3_kindAt_X3_numberAt : GoodIn wsX3_kindAt wsX3_numberAt := goodIn_r _ [6, 7, 16, 17, 18, 19, 20, 21] (by decide +kernel) (by decide +kernel)
set_option maxRecDepth 20000 in
theorem gX3_kindAt_X3_numberAt : GoodIn wsX3_kindAt (wsV RX3 53 RX3 yX3_numberAt wsX3_numberAt) := goodIn_app (goodIn_of _ (by decide +kernel)) ggX3_kindAt_X3_numberAt
set_option maxRecDepth 20000 in
theorem ggX3_kindAt_X3_kindOf : GoodIn wsX3_kindAt wsX3_kindOf := goodIn_r _ [11, 12, 13, 14, 15, 16, 17, 18, 19, 20, 21] (by decide +kernel) (by decide +kernel)
set_option maxRecDepth 20000 in
theorem gX3_kindAt_X3_kindOf : GoodIn wsX3_kindAt (wsV RX3 61 RX3 yX3_kindOf wsX3_kindOf) := goodIn_app (goodIn_of _ (by decide +kernel)) ggX3_kindAt_X3_kindOf
theorem dX3_kindAt_0 : decode cX3_kindAt 0 = .ok (.aload_n 0, 1) := by decide +kernel
theorem dX3_kindAt_1 : decode cX3_kindAt 1 = .ok (.iload_n 1, 1) := by decide +kernel
theorem dX3_kindAt_2 : decode cX3_kindAt 2 = .ok (.iload_n 2, 1) := by decide +kernel
theorem dX3_kindAt_3 : decode cX3_kindAt 3 = .ok (.invokevirtual 53, 3) := by decide +kernel
theorem dX3_kindAt_6 : decode cX3_kindAt 6 = .ok (.istore_n 3, 1) := by decide +kernel
theorem dX3_kindAt_7 : decode cX3_kindAt 7 = .ok (.iload_n 3, 1) := by decide +kernel
theorem dX3_kindAt_8 : decode cX3_kindAt 8 = .ok (.ifCond .lt 9, 3) := by decide +kernel
theorem dX3_kindAt_11 : decode cX3_kindAt 11 = .ok (.aload_n 0, 1) := by decide +kernel
theorem dX3_kindAt_12 : decode cX3_kindAt 12 = .ok (.iload_n 3, 1) := by decide +kernel
theorem dX3_kindAt_13 : decode cX3_kindAt 13 = .ok (.invokevirtual 61, 3) := by decide +kernel
theorem dX3_kindAt_16 : decode cX3_kindAt 16 = .ok (.ireturn, 1) := by decide +kernel
theorem dX3_kindAt_17 : decode cX3_kindAt 17 = .ok (.iload_n 1, 1) := by decide +kernel
theorem dX3_kindAt_18 : decode cX3_kindAt 18 = .ok (.ifCond .eq 13, 3) := by decide +kernel
theorem dX3_kindAt_21 : decode cX3_kindAt 21 = .ok (.iload_n 1, 1) := by decide +kernel
theorem dX3_kindAt_22 : decode cX3_kindAt 22 = .ok (.iconst 2, 1) := by decide +kernel
theorem dX3_kindAt_23 : decode cX3_kindAt 23 = .ok (.aload_n 0, 1) := by decide +kernel
theorem dX3_kindAt_24 : decode cX3_kindAt 24 = .ok (.getfield 25, 3) := by decide +kernel
theorem dX3_kindAt_27 : decode cX3_kindAt 27 = .ok (.imul, 1) := by decide +kernel
theorem dX3_kindAt_28 : decode cX3_kindAt 28 = .ok (.if_icmp .ne 7, 3) := by decide +kernel
theorem dX3_kindAt_31 : decode cX3_kindAt 31 = .ok (.iconst 1, 1) := by decide +kernel
theorem dX3_kindAt_32 : decode cX3_kindAt 32 = .ok (.goto 4, 3) := by decide +kernel
theorem dX3_kindAt_35 : decode cX3_kindAt 35 = .ok (.iconst 2, 1) := by decide +kernel
theorem dX3_kindAt_36 : decode cX3_kindAt 36 = .ok (.ireturn, 1) := by decide +kernel
set_option maxRecDepth 20000 in
theorem ggX3_hasPlainInRow_X3_numberAt : GoodIn wsX3_hasPlainInRow wsX3_numberAt := goodIn_r _ [5, 6, 15, 16, 17, 18, 19, 20] (by decide +kernel) (by decide +kernel)
set_option maxRecDepth 20000 in
theorem gX3_hasPlainInRow_X3_numberAt : GoodIn wsX3_hasPlainInRow (wsV RX3 53 RX3 yX3_numberAt wsX3_numberAt) := goodIn_app (goodIn_of _ (by decide +kernel)) ggX3_hasPlainInRow_X3_numberAt
set_option maxRecDepth 20000 in
theorem ggX3_hasPlainInRow_X3_kindOf : GoodIn wsX3_hasPlainInRow wsX3_kindOf := goodIn_r _ [10, 11, 12, 13, 14, 15, 16, 17, 18, 19, 20] (by decide +kernel) (by decide +kernel)
set_option maxRecDepth 20000 in
theorem gX3_hasPlainInRow_X3_kindOf : GoodIn wsX3_hasPlainInRow (wsV RX3 61 RX3 yX3_kindOf wsX3_kindOf) := goodIn_app (goodIn_of _ (by decide +kernel)) ggX3_hasPlainInRow_X3_kindOf
theorem dX3_hasPlainInRow_0 : decode cX3_hasPlainInRow 0 = .ok (.iconst 0, 1) := by decide +kernel
theorem dX3_hasPlainInRow_1 : decode cX3_hasPlainInRow 1 = .ok (.istore_n 2, 1) := by decide +kernel
theorem dX3_hasPlainInRow_2 : decode cX3_hasPlainInRow 2 = .ok (.iload_n 2, 1) := by decide +kernel
theorem dX3_hasPlainInRow_3 : decode cX3_hasPlainInRow 3 = .ok (.bipush 13, 2) := by decide +kernel
theorem dX3_hasPlainInRow_5 : decode cX3_hasPlainInRow 5 = .ok (.if_icmp .ge 30, 3) := by decide +kernel
theorem dX3_hasPlainInRow_8 : decode cX3_hasPlainInRow 8 = .ok (.aload_n 0, 1) := by decide +kernel
theorem dX3_hasPlainInRow_9 : decode cX3_hasPlainInRow 9 = .ok (.iload_n 1, 1) := by decide +kernel
theorem dX3_hasPlainInRow_10 : decode cX3_hasPlainInRow 10 = .ok (.iload_n 2, 1) := by decide +kernel
theorem dX3_hasPlainInRow_11 : decode cX3_hasPlainInRow 11 = .ok (.invokevirtual 53, 3) := by decide +kernel
theorem dX3_hasPlainInRow_14 : decode cX3_hasPlainInRow 14 = .ok (.istore_n 3, 1) := by decide +kernel
theorem dX3_hasPlainInRow_15 : decode cX3_hasPlainInRow 15 = .ok (.iload_n 3, 1) := by decide +kernel
theorem dX3_hasPlainInRow_16 : decode cX3_hasPlainInRow 16 = .ok (.ifCond .lt 13, 3) := by decide +kernel
theorem dX3_hasPlainInRow_19 : decode cX3_hasPlainInRow 19 = .ok (.aload_n 0, 1) := by decide +kernel
theorem dX3_hasPlainInRow_20 : decode cX3_hasPlainInRow 20 = .ok (.iload_n 3, 1) := by decide +kernel
theorem dX3_hasPlainInRow_21 : decode cX3_hasPlainInRow 21 = .ok (.invokevirtual 61, 3) := by decide +kernel
theorem dX3_hasPlainInRow_24 : decode cX3_hasPlainInRow 24 = .ok (.ifCond .ne 5, 3) := by decide +kernel
theorem dX3_hasPlainInRow_27 : decode cX3_hasPlainInRow 27 = .ok (.iconst 1, 1) := by decide +kernel
theorem dX3_hasPlainInRow_28 : decode cX3_hasPlainInRow 28 = .ok (.ireturn, 1) := by decide +kernel
theorem dX3_hasPlainInRow_29 : decode cX3_hasPlainInRow 29 = .ok (.iinc 2 1, 3) := by decide +kernel
theorem dX3_hasPlainInRow_32 : decode cX3_hasPlainInRow 32 = .ok (.goto (-30), 3) := by decide +kernel
theorem dX3_hasPlainInRow_35 : decode cX3_hasPlainInRow 35 = .ok (.iconst 0, 1) := by decide +kernel
theorem dX3_hasPlainInRow_36 : decode cX3_hasPlainInRow 36 = .ok (.ireturn, 1) := by decide +kernel
set_option maxRecDepth 20000 in
theorem ggX3_countKind_X3_kindOf : GoodIn wsX3_countKind wsX3_kindOf := goodIn_r _ [6, 7, 8, 9, 10, 11, 12, 13, 14, 15, 16] (by decide +kernel) (by decide +kernel)
set_option maxRecDepth 20000 in
theorem gX3_countKind_X3_kindOf : GoodIn wsX3_countKind (wsV RX3 61 RX3 yX3_kindOf wsX3_kindOf) := goodIn_app (goodIn_of _ (by decide +kernel)) ggX3_countKind_X3_kindOf
theorem dX3_countKind_0 : decode cX3_countKind 0 = .ok (.iconst 0, 1) := by decide +kernel
theorem dX3_countKind_1 : decode cX3_countKind 1 = .ok (.istore_n 2, 1) := by decide +kernel
theorem dX3_countKind_2 : decode cX3_countKind 2 = .ok (.iconst 0, 1) := by decide +kernel
theorem dX3_countKind_3 : decode cX3_countKind 3 = .ok (.istore_n 3, 1) := by decide +kernel
theorem dX3_countKind_4 : decode cX3_countKind 4 = .ok (.iload_n 3, 1) := by decide +kernel
theorem dX3_countKind_5 : decode cX3_countKind 5 = .ok (.aload_n 0, 1) := by decide +kernel
theorem dX3_countKind_6 : decode cX3_countKind 6 = .ok (.getfield 32, 3) := by decide +kernel
theorem dX3_countKind_9 : decode cX3_countKind 9 = .ok (.if_icmp .ge 21, 3) := by decide +kernel
theorem dX3_countKind_12 : decode cX3_countKind 12 = .ok (.aload_n 0, 1) := by decide +kernel
theorem dX3_countKind_13 : decode cX3_countKind 13 = .ok (.iload_n 3, 1) := by decide +kernel
theorem dX3_countKind_14 : decode cX3_countKind 14 = .ok (.invokevirtual 61, 3) := by decide +kernel
theorem dX3_countKind_17 : decode cX3_countKind 17 = .ok (.iload_n 1, 1) := by decide +kernel
theorem dX3_countKind_18 : decode cX3_countKind 18 = .ok (.if_icmp .ne 6, 3) := by decide +kernel
theorem dX3_countKind_21 : decode cX3_countKind 21 = .ok (.iinc 2 1, 3) := by decide +kernel
theorem dX3_countKind_24 : decode cX3_countKind 24 = .ok (.iinc 3 1, 3) := by decide +kernel
theorem dX3_countKind_27 : decode cX3_countKind 27 = .ok (.goto (-23), 3) := by decide +kernel
theorem dX3_countKind_30 : decode cX3_countKind 30 = .ok (.iload_n 2, 1) := by decide +kernel
theorem dX3_countKind_31 : decode cX3_countKind 31 = .ok (.ireturn, 1) := by decide +kernel
set_option maxRecDepth 20000 in
theorem ggX3_countCrossings_X3_countKind : GoodIn wsX3_countCrossings wsX3_countKind := goodIn_r _ [5, 6, 7, 8, 9, 4, 10, 11, 12, 13, 14, 15, 16, 17, 18, 19, 20] (by decide +kernel) (by decide +kernel)
set_option maxRecDepth 20000 in
theorem gX3_countCrossings_X3_countKind : GoodIn wsX3_countCrossings (wsV RX3 69 RX3 yX3_countKind wsX3_countKind) := goodIn_app (goodIn_of _ (by decide +kernel)) ggX3_countCrossings_X3_countKind
theorem dX3_countCrossings_0 : decode cX3_countCrossings 0 = .ok (.aload_n 0, 1) := by decide +kernel
theorem dX3_countCrossings_1 : decode cX3_countCrossings 1 = .ok (.iconst 0, 1) := by decide +kernel
theorem dX3_countCrossings_2 : decode cX3_countCrossings 2 = .ok (.invokevirtual 69, 3) := by decide +kernel
theorem dX3_countCrossings_5 : decode cX3_countCrossings 5 = .ok (.aload_n 0, 1) := by decide +kernel
theorem dX3_countCrossings_6 : decode cX3_countCrossings 6 = .ok (.iconst 3, 1) := by decide +kernel
theorem dX3_countCrossings_7 : decode cX3_countCrossings 7 = .ok (.invokevirtual 69, 3) := by decide +kernel
theorem dX3_countCrossings_10 : decode cX3_countCrossings 10 = .ok (.iadd, 1) := by decide +kernel
theorem dX3_countCrossings_11 : decode cX3_countCrossings 11 = .ok (.ireturn, 1) := by decide +kernel
set_option maxRecDepth 20000 in
theorem ggX3_isSameTurned_X3_numberTurned : GoodIn wsX3_isSameTurned wsX3_numberTurned := goodIn_r _ [8, 1, 2, 9, 10, 11, 7, 12, 13, 14, 15, 16, 17, 18, 19, 20, 21, 38, 39, 40, 41, 42, 43] (by decide +kernel) (by decide +kernel)
set_option maxRecDepth 20000 in
theorem gX3_isSameTurned_X3_numberTurned : GoodIn wsX3_isSameTurned (wsV RX3 72 RX3 yX3_numberTurned wsX3_numberTurned) := goodIn_app (goodIn_of _ (by decide +kernel)) ggX3_isSameTurned_X3_numberTurned
set_option maxRecDepth 20000 in
theorem ggX3_isSameTurned_X3_breakOf : GoodIn wsX3_isSameTurned wsX3_breakOf := goodIn_r _ [25, 26, 27, 28, 7, 29, 30, 31, 32, 33, 34, 14, 15, 16, 38, 39, 40, 41, 42, 43] (by decide +kernel) (by decide +kernel)
set_option maxRecDepth 20000 in
theorem gX3_isSameTurned_X3_breakOf : GoodIn wsX3_isSameTurned (wsV RX3 76 RX3 yX3_breakOf wsX3_breakOf) := goodIn_app (goodIn_of _ (by decide +kernel)) ggX3_isSameTurned_X3_breakOf
set_option maxRecDepth 20000 in
theorem ggX3_isSameTurned_X3_breakTurned : GoodIn wsX3_isSameTurned wsX3_breakTurned := goodIn_r _ [37] (by decide +kernel) (by decide +kernel)
set_option maxRecDepth 20000 in
theorem gX3_isSameTurned_X3_breakTurned : GoodIn wsX3_isSameTurned (va_wsS RX3 79 yX3_breakTurned wsX3_breakTurned) := goodIn_app (goodIn_of _ (by decide +kernel)) ggX3_isSameTurned_X3_breakTurned
theorem dX3_isSameTurned_0 : decode cX3_isSameTurned 0 = .ok (.iload_n 1, 1) := by decide +kernel
theorem dX3_isSameTurned_1 : decode cX3_isSameTurned 1 = .ok (.iconst 2, 1) := by decide +kernel
theorem dX3_isSameTurned_2 : decode cX3_isSameTurned 2 = .ok (.irem, 1) := by decide +kernel
theorem dX3_isSameTurned_3 : decode cX3_isSameTurned 3 = .ok (.iconst 1, 1) := by decide +kernel
theorem dX3_isSameTurned_4 : decode cX3_isSameTurned 4 = .ok (.if_icmp .ne 16, 3) := by decide +kernel
theorem dX3_isSameTurned_7 : decode cX3_isSameTurned 7 = .ok (.aload_n 0, 1) := by decide +kernel
theorem dX3_isSameTurned_8 : decode cX3_isSameTurned 8 = .ok (.getfield 25, 3) := by decide +kernel
theorem dX3_isSameTurned_11 : decode cX3_isSameTurned 11 = .ok (.aload_n 0, 1) := by decide +kernel
theorem dX3_isSameTurned_12 : decode cX3_isSameTurned 12 = .ok (.getfield 29, 3) := by decide +kernel
theorem dX3_isSameTurned_15 : decode cX3_isSameTurned 15 = .ok (.if_icmp .eq 5, 3) := by decide +kernel
theorem dX3_isSameTurned_18 : decode cX3_isSameTurned 18 = .ok (.iconst 0, 1) := by decide +kernel
theorem dX3_isSameTurned_19 : decode cX3_isSameTurned 19 = .ok (.ireturn, 1) := by decide +kernel
theorem dX3_isSameTurned_20 : decode cX3_isSameTurned 20 = .ok (.iconst 0, 1) := by decide +kernel
theorem dX3_isSameTurned_21 : decode cX3_isSameTurned 21 = .ok (.istore_n 3, 1) := by decide +kernel
theorem dX3_isSameTurned_22 : decode cX3_isSameTurned 22 = .ok (.iload_n 3, 1) := by decide +kernel
theorem dX3_isSameTurned_23 : decode cX3_isSameTurned 23 = .ok (.aload_n 0, 1) := by decide +kernel
theorem dX3_isSameTurned_24 : decode cX3_isSameTurned 24 = .ok (.getfield 32, 3) := by decide +kernel
theorem dX3_isSameTurned_27 : decode cX3_isSameTurned 27 = .ok (.if_icmp .ge 38, 3) := by decide +kernel
theorem dX3_isSameTurned_30 : decode cX3_isSameTurned 30 = .ok (.aload_n 0, 1) := by decide +kernel
theorem dX3_isSameTurned_31 : decode cX3_isSameTurned 31 = .ok (.iload_n 3, 1) := by decide +kernel
theorem dX3_isSameTurned_32 : decode cX3_isSameTurned 32 = .ok (.iload_n 1, 1) := by decide +kernel
theorem dX3_isSameTurned_33 : decode cX3_isSameTurned 33 = .ok (.iload_n 2, 1) := by decide +kernel
theorem dX3_isSameTurned_34 : decode cX3_isSameTurned 34 = .ok (.invokevirtual 72, 3) := by decide +kernel
theorem dX3_isSameTurned_37 : decode cX3_isSameTurned 37 = .ok (.istore 4, 2) := by decide +kernel
theorem dX3_isSameTurned_39 : decode cX3_isSameTurned 39 = .ok (.aload_n 0, 1) := by decide +kernel
theorem dX3_isSameTurned_40 : decode cX3_isSameTurned 40 = .ok (.iload 4, 2) := by decide +kernel
theorem dX3_isSameTurned_42 : decode cX3_isSameTurned 42 = .ok (.invokevirtual 76, 3) := by decide +kernel
theorem dX3_isSameTurned_45 : decode cX3_isSameTurned 45 = .ok (.aload_n 0, 1) := by decide +kernel
theorem dX3_isSameTurned_46 : decode cX3_isSameTurned 46 = .ok (.iload_n 3, 1) := by decide +kernel
theorem dX3_isSameTurned_47 : decode cX3_isSameTurned 47 = .ok (.invokevirtual 76, 3) := by decide +kernel
theorem dX3_isSameTurned_50 : decode cX3_isSameTurned 50 = .ok (.iload_n 1, 1) := by decide +kernel
theorem dX3_isSameTurned_51 : decode cX3_isSameTurned 51 = .ok (.invokestatic 79, 3) := by decide +kernel
theorem dX3_isSameTurned_54 : decode cX3_isSameTurned 54 = .ok (.if_icmp .eq 5, 3) := by decide +kernel
theorem dX3_isSameTurned_57 : decode cX3_isSameTurned 57 = .ok (.iconst 0, 1) := by decide +kernel
theorem dX3_isSameTurned_58 : decode cX3_isSameTurned 58 = .ok (.ireturn, 1) := by decide +kernel
theorem dX3_isSameTurned_59 : decode cX3_isSameTurned 59 = .ok (.iinc 3 1, 3) := by decide +kernel
theorem dX3_isSameTurned_62 : decode cX3_isSameTurned 62 = .ok (.goto (-40), 3) := by decide +kernel
theorem dX3_isSameTurned_65 : decode cX3_isSameTurned 65 = .ok (.iconst 1, 1) := by decide +kernel
theorem dX3_isSameTurned_66 : decode cX3_isSameTurned 66 = .ok (.ireturn, 1) := by decide +kernel
set_option maxRecDepth 20000 in
theorem ggX3_numberTurned_X3_pointOf : GoodIn wsX3_numberTurned wsX3_pointOf := goodIn_r _ [7, 8, 9, 10, 11, 17, 18, 19, 20, 21, 22] (by decide +kernel) (by decide +kernel)
set_option maxRecDepth 20000 in
theorem gX3_numberTurned_X3_pointOf : GoodIn wsX3_numberTurned (wsV RX3 82 RX3 yX3_pointOf wsX3_pointOf) := goodIn_app (goodIn_of _ (by decide +kernel)) ggX3_numberTurned_X3_pointOf
set_option maxRecDepth 20000 in
theorem ggX3_numberTurned_X3_numberAt : GoodIn wsX3_numberTurned wsX3_numberAt := goodIn_r _ [15, 16, 17, 18, 19, 20, 21, 22] (by decide +kernel) (by decide +kernel)
set_option maxRecDepth 20000 in
theorem gX3_numberTurned_X3_numberAt : GoodIn wsX3_numberTurned (wsV RX3 53 RX3 yX3_numberAt wsX3_numberAt) := goodIn_app (goodIn_of _ (by decide +kernel)) ggX3_numberTurned_X3_numberAt
theorem dX3_numberTurned_0 : decode cX3_numberTurned 0 = .ok (.iconst 2, 1) := by decide +kernel
theorem dX3_numberTurned_1 : decode cX3_numberTurned 1 = .ok (.aload_n 0, 1) := by decide +kernel
theorem dX3_numberTurned_2 : decode cX3_numberTurned 2 = .ok (.getfield 25, 3) := by decide +kernel
theorem dX3_numberTurned_5 : decode cX3_numberTurned 5 = .ok (.imul, 1) := by decide +kernel
theorem dX3_numberTurned_6 : decode cX3_numberTurned 6 = .ok (.istore 4, 2) := by decide +kernel
theorem dX3_numberTurned_8 : decode cX3_numberTurned 8 = .ok (.iconst 2, 1) := by decide +kernel
theorem dX3_numberTurned_9 : decode cX3_numberTurned 9 = .ok (.aload_n 0, 1) := by decide +kernel
theorem dX3_numberTurned_10 : decode cX3_numberTurned 10 = .ok (.getfield 29, 3) := by decide +kernel
theorem dX3_numberTurned_13 : decode cX3_numberTurned 13 = .ok (.imul, 1) := by decide +kernel
theorem dX3_numberTurned_14 : decode cX3_numberTurned 14 = .ok (.istore 5, 2) := by decide +kernel
theorem dX3_numberTurned_16 : decode cX3_numberTurned 16 = .ok (.aload_n 0, 1) := by decide +kernel
theorem dX3_numberTurned_17 : decode cX3_numberTurned 17 = .ok (.iload_n 1, 1) := by decide +kernel
theorem dX3_numberTurned_18 : decode cX3_numberTurned 18 = .ok (.invokevirtual 82, 3) := by decide +kernel
theorem dX3_numberTurned_21 : decode cX3_numberTurned 21 = .ok (.bipush 100, 2) := by decide +kernel
theorem dX3_numberTurned_23 : decode cX3_numberTurned 23 = .ok (.idiv, 1) := by decide +kernel
theorem dX3_numberTurned_24 : decode cX3_numberTurned 24 = .ok (.istore 6, 2) := by decide +kernel
theorem dX3_numberTurned_26 : decode cX3_numberTurned 26 = .ok (.aload_n 0, 1) := by decide +kernel
theorem dX3_numberTurned_27 : decode cX3_numberTurned 27 = .ok (.iload_n 1, 1) := by decide +kernel
theorem dX3_numberTurned_28 : decode cX3_numberTurned 28 = .ok (.invokevirtual 82, 3) := by decide +kernel
theorem dX3_numberTurned_31 : decode cX3_numberTurned 31 = .ok (.bipush 100, 2) := by decide +kernel
theorem dX3_numberTurned_33 : decode cX3_numberTurned 33 = .ok (.irem, 1) := by decide +kernel
theorem dX3_numberTurned_34 : decode cX3_numberTurned 34 = .ok (.istore 7, 2) := by decide +kernel
theorem dX3_numberTurned_36 : decode cX3_numberTurned 36 = .ok (.iload_n 3, 1) := by decide +kernel
theorem dX3_numberTurned_37 : decode cX3_numberTurned 37 = .ok (.ifCond .eq 10, 3) := by decide +kernel
theorem dX3_numberTurned_40 : decode cX3_numberTurned 40 = .ok (.iload 5, 2) := by decide +kernel
theorem dX3_numberTurned_42 : decode cX3_numberTurned 42 = .ok (.iload 7, 2) := by decide +kernel
theorem dX3_numberTurned_44 : decode cX3_numberTurned 44 = .ok (.isub, 1) := by decide +kernel
theorem dX3_numberTurned_45 : decode cX3_numberTurned 45 = .ok (.istore 7, 2) := by decide +kernel
theorem dX3_numberTurned_47 : decode cX3_numberTurned 47 = .ok (.iconst 0, 1) := by decide +kernel
theorem dX3_numberTurned_48 : decode cX3_numberTurned 48 = .ok (.istore 8, 2) := by decide +kernel
theorem dX3_numberTurned_50 : decode cX3_numberTurned 50 = .ok (.iload 8, 2) := by decide +kernel
theorem dX3_numberTurned_52 : decode cX3_numberTurned 52 = .ok (.iload_n 2, 1) := by decide +kernel
theorem dX3_numberTurned_53 : decode cX3_numberTurned 53 = .ok (.if_icmp .ge 36, 3) := by decide +kernel
theorem dX3_numberTurned_56 : decode cX3_numberTurned 56 = .ok (.iload 6, 2) := by decide +kernel
theorem dX3_numberTurned_58 : decode cX3_numberTurned 58 = .ok (.istore 9, 2) := by decide +kernel
theorem dX3_numberTurned_60 : decode cX3_numberTurned 60 = .ok (.iload 7, 2) := by decide +kernel
theorem dX3_numberTurned_62 : decode cX3_numberTurned 62 = .ok (.istore 6, 2) := by decide +kernel
theorem dX3_numberTurned_64 : decode cX3_numberTurned 64 = .ok (.iload 4, 2) := by decide +kernel
theorem dX3_numberTurned_66 : decode cX3_numberTurned 66 = .ok (.iload 9, 2) := by decide +kernel
theorem dX3_numberTurned_68 : decode cX3_numberTurned 68 = .ok (.isub, 1) := by decide +kernel
theorem dX3_numberTurned_69 : decode cX3_numberTurned 69 = .ok (.istore 7, 2) := by decide +kernel
theorem dX3_numberTurned_71 : decode cX3_numberTurned 71 = .ok (.iload 4, 2) := by decide +kernel
theorem dX3_numberTurned_73 : decode cX3_numberTurned 73 = .ok (.istore 10, 2) := by decide +kernel
theorem dX3_numberTurned_75 : decode cX3_numberTurned 75 = .ok (.iload 5, 2) := by decide +kernel
theorem dX3_numberTurned_77 : decode cX3_numberTurned 77 = .ok (.istore 4, 2) := by decide +kernel
theorem dX3_numberTurned_79 : decode cX3_numberTurned 79 = .ok (.iload 10, 2) := by decide +kernel
theorem dX3_numberTurned_81 : decode cX3_numberTurned 81 = .ok (.istore 5, 2) := by decide +kernel
theorem dX3_numberTurned_83 : decode cX3_numberTurned 83 = .ok (.iinc 8 1, 3) := by decide +kernel
theorem dX3_numberTurned_86 : decode cX3_numberTurned 86 = .ok (.goto (-36), 3) := by decide +kernel
theorem dX3_numberTurned_89 : decode cX3_numberTurned 89 = .ok (.aload_n 0, 1) := by decide +kernel
theorem dX3_numberTurned_90 : decode cX3_numberTurned 90 = .ok (.iload 6, 2) := by decide +kernel
theorem dX3_numberTurned_92 : decode cX3_numberTurned 92 = .ok (.iload 7, 2) := by decide +kernel
theorem dX3_numberTurned_94 : decode cX3_numberTurned 94 = .ok (.invokevirtual 53, 3) := by decide +kernel
theorem dX3_numberTurned_97 : decode cX3_numberTurned 97 = .ok (.ireturn, 1) := by decide +kernel
set_option maxRecDepth 20000 in
theorem ggX3_breakOf_X3_isCrossing : GoodIn wsX3_breakOf wsX3_isCrossing := goodIn_r _ [5, 6, 7, 8, 4, 9, 10, 11, 12, 13, 14, 15, 16, 17, 18, 19] (by decide +kernel) (by decide +kernel)
set_option maxRecDepth 20000 in
theorem gX3_breakOf_X3_isCrossing : GoodIn wsX3_breakOf (wsV RX3 85 RX3 yX3_isCrossing wsX3_isCrossing) := goodIn_app (goodIn_of _ (by decide +kernel)) ggX3_breakOf_X3_isCrossing
set_option maxRecDepth 20000 in
theorem ggX3_breakOf_X3_kindOf : GoodIn wsX3_breakOf wsX3_kindOf := goodIn_r _ [9, 10, 11, 12, 13, 14, 15, 16, 17, 18, 19] (by decide +kernel) (by decide +kernel)
set_option maxRecDepth 20000 in
theorem gX3_breakOf_X3_kindOf : GoodIn wsX3_breakOf (wsV RX3 61 RX3 yX3_kindOf wsX3_kindOf) := goodIn_app (goodIn_of _ (by decide +kernel)) ggX3_breakOf_X3_kindOf
theorem dX3_breakOf_0 : decode cX3_breakOf 0 = .ok (.aload_n 0, 1) := by decide +kernel
theorem dX3_breakOf_1 : decode cX3_breakOf 1 = .ok (.iload_n 1, 1) := by decide +kernel
theorem dX3_breakOf_2 : decode cX3_breakOf 2 = .ok (.invokevirtual 85, 3) := by decide +kernel
theorem dX3_breakOf_5 : decode cX3_breakOf 5 = .ok (.ifCond .eq 7, 3) := by decide +kernel
theorem dX3_breakOf_8 : decode cX3_breakOf 8 = .ok (.iconst 0, 1) := by decide +kernel
theorem dX3_breakOf_9 : decode cX3_breakOf 9 = .ok (.goto 8, 3) := by decide +kernel
theorem dX3_breakOf_12 : decode cX3_breakOf 12 = .ok (.aload_n 0, 1) := by decide +kernel
theorem dX3_breakOf_13 : decode cX3_breakOf 13 = .ok (.iload_n 1, 1) := by decide +kernel
theorem dX3_breakOf_14 : decode cX3_breakOf 14 = .ok (.invokevirtual 61, 3) := by decide +kernel
theorem dX3_breakOf_17 : decode cX3_breakOf 17 = .ok (.ireturn, 1) := by decide +kernel
theorem dX3_breakTurned_0 : decode cX3_breakTurned 0 = .ok (.iload_n 1, 1) := by decide +kernel
theorem dX3_breakTurned_1 : decode cX3_breakTurned 1 = .ok (.iconst 2, 1) := by decide +kernel
theorem dX3_breakTurned_2 : decode cX3_breakTurned 2 = .ok (.irem, 1) := by decide +kernel
theorem dX3_breakTurned_3 : decode cX3_breakTurned 3 = .ok (.ifCond .eq 7, 3) := by decide +kernel
theorem dX3_breakTurned_6 : decode cX3_breakTurned 6 = .ok (.iload_n 0, 1) := by decide +kernel
theorem dX3_breakTurned_7 : decode cX3_breakTurned 7 = .ok (.ifCond .ne 5, 3) := by decide +kernel
theorem dX3_breakTurned_10 : decode cX3_breakTurned 10 = .ok (.iload_n 0, 1) := by decide +kernel
theorem dX3_breakTurned_11 : decode cX3_breakTurned 11 = .ok (.ireturn, 1) := by decide +kernel
theorem dX3_breakTurned_12 : decode cX3_breakTurned 12 = .ok (.iload_n 0, 1) := by decide +kernel
theorem dX3_breakTurned_13 : decode cX3_breakTurned 13 = .ok (.iconst 1, 1) := by decide +kernel
theorem dX3_breakTurned_14 : decode cX3_breakTurned 14 = .ok (.if_icmp .ne 7, 3) := by decide +kernel
theorem dX3_breakTurned_17 : decode cX3_breakTurned 17 = .ok (.iconst 2, 1) := by decide +kernel
theorem dX3_breakTurned_18 : decode cX3_breakTurned 18 = .ok (.goto 4, 3) := by decide +kernel
theorem dX3_breakTurned_21 : decode cX3_breakTurned 21 = .ok (.iconst 1, 1) := by decide +kernel
theorem dX3_breakTurned_22 : decode cX3_breakTurned 22 = .ok (.ireturn, 1) := by decide +kernel
theorem dX4_init_0 : decode cX4_init 0 = .ok (.aload_n 0, 1) := by decide +kernel
theorem dX4_init_1 : decode cX4_init 1 = .ok (.invokespecial 3, 3) := by decide +kernel
theorem dX4_init_4 : decode cX4_init 4 = .ok (.aload_n 0, 1) := by decide +kernel
theorem dX4_init_5 : decode cX4_init 5 = .ok (.bipush 72, 2) := by decide +kernel
theorem dX4_init_7 : decode cX4_init 7 = .ok (.newarray .int, 2) := by decide +kernel
theorem dX4_init_9 : decode cX4_init 9 = .ok (.putfield 9, 3) := by decide +kernel
theorem dX4_init_12 : decode cX4_init 12 = .ok (.return_, 1) := by decide +kernel
theorem dX4_hasRoomFor_0 : decode cX4_hasRoomFor 0 = .ok (.aload_n 0, 1) := by decide +kernel
theorem dX4_hasRoomFor_1 : decode cX4_hasRoomFor 1 = .ok (.getfield 15, 3) := by decide +kernel
theorem dX4_hasRoomFor_4 : decode cX4_hasRoomFor 4 = .ok (.iload_n 1, 1) := by decide +kernel
theorem dX4_hasRoomFor_5 : decode cX4_hasRoomFor 5 = .ok (.iadd, 1) := by decide +kernel
theorem dX4_hasRoomFor_6 : decode cX4_hasRoomFor 6 = .ok (.bipush 72, 2) := by decide +kernel
theorem dX4_hasRoomFor_8 : decode cX4_hasRoomFor 8 = .ok (.if_icmp .gt 7, 3) := by decide +kernel
theorem dX4_hasRoomFor_11 : decode cX4_hasRoomFor 11 = .ok (.iconst 1, 1) := by decide +kernel
theorem dX4_hasRoomFor_12 : decode cX4_hasRoomFor 12 = .ok (.goto 4, 3) := by decide +kernel
theorem dX4_hasRoomFor_15 : decode cX4_hasRoomFor 15 = .ok (.iconst 0, 1) := by decide +kernel
theorem dX4_hasRoomFor_16 : decode cX4_hasRoomFor 16 = .ok (.ireturn, 1) := by decide +kernel
theorem dX4_append_0 : decode cX4_append 0 = .ok (.iload_n 1, 1) := by decide +kernel
theorem dX4_append_1 : decode cX4_append 1 = .ok (.iconst 1, 1) := by decide +kernel
theorem dX4_append_2 : decode cX4_append 2 = .ok (.isub, 1) := by decide +kernel
theorem dX4_append_3 : decode cX4_append 3 = .ok (.istore 4, 2) := by decide +kernel
theorem dX4_append_5 : decode cX4_append 5 = .ok (.iload 4, 2) := by decide +kernel
theorem dX4_append_7 : decode cX4_append 7 = .ok (.ifCond .lt 49, 3) := by decide +kernel
theorem dX4_append_10 : decode cX4_append 10 = .ok (.aload_n 0, 1) := by decide +kernel
theorem dX4_append_11 : decode cX4_append 11 = .ok (.getfield 15, 3) := by decide +kernel
theorem dX4_append_14 : decode cX4_append 14 = .ok (.bipush 72, 2) := by decide +kernel
theorem dX4_append_16 : decode cX4_append 16 = .ok (.if_icmp .ge 40, 3) := by decide +kernel
theorem dX4_append_19 : decode cX4_append 19 = .ok (.aload_n 0, 1) := by decide +kernel
theorem dX4_append_20 : decode cX4_append 20 = .ok (.getfield 9, 3) := by decide +kernel
theorem dX4_append_23 : decode cX4_append 23 = .ok (.aload_n 0, 1) := by decide +kernel
theorem dX4_append_24 : decode cX4_append 24 = .ok (.getfield 15, 3) := by decide +kernel
theorem dX4_append_27 : decode cX4_append 27 = .ok (.lload_n 2, 1) := by decide +kernel
theorem dX4_append_28 : decode cX4_append 28 = .ok (.bipush 8, 2) := by decide +kernel
theorem dX4_append_30 : decode cX4_append 30 = .ok (.iload 4, 2) := by decide +kernel
theorem dX4_append_32 : decode cX4_append 32 = .ok (.imul, 1) := by decide +kernel
theorem dX4_append_33 : decode cX4_append 33 = .ok (.lushr, 1) := by decide +kernel
theorem dX4_append_34 : decode cX4_append 34 = .ok (.l2i, 1) := by decide +kernel
theorem dX4_append_35 : decode cX4_append 35 = .ok (.sipush 255, 3) := by decide +kernel
theorem dX4_append_38 : decode cX4_append 38 = .ok (.iand, 1) := by decide +kernel
theorem dX4_append_39 : decode cX4_append 39 = .ok (.iastore, 1) := by decide +kernel
theorem dX4_append_40 : decode cX4_append 40 = .ok (.aload_n 0, 1) := by decide +kernel
theorem dX4_append_41 : decode cX4_append 41 = .ok (.dup, 1) := by decide +kernel
theorem dX4_append_42 : decode cX4_append 42 = .ok (.getfield 15, 3) := by decide +kernel
theorem dX4_append_45 : decode cX4_append 45 = .ok (.iconst 1, 1) := by decide +kernel
theorem dX4_append_46 : decode cX4_append 46 = .ok (.iadd, 1) := by decide +kernel
theorem dX4_append_47 : decode cX4_append 47 = .ok (.putfield 15, 3) := by decide +kernel
theorem dX4_append_50 : decode cX4_append 50 = .ok (.iinc 4 (-1), 3) := by decide +kernel
theorem dX4_append_53 : decode cX4_append 53 = .ok (.goto (-48), 3) := by decide +kernel
theorem dX4_append_56 : decode cX4_append 56 = .ok (.return_, 1) := by decide +kernel
set_option maxRecDepth 20000 in
theorem ggX4_readInto_X4_readHead : GoodIn wsX4_readInto wsX4_readHead := goodIn_r _ [7, 8, 9, 10, 6, 11, 12, 13, 14, 15, 16, 17, 18, 19, 20, 21, 22, 23, 24, 25, 26, 27, 28, 59, 60, 61, 62, 63, 64, 65, 66, 67, 68, 69] (by decide +kernel) (by decide +kernel)
set_option maxRecDepth 20000 in
theorem gX4_readInto_X4_readHead : GoodIn wsX4_readInto (wsV RX4 19 RX4 yX4_readHead wsX4_readHead) := goodIn_app (goodIn_of _ (by decide +kernel)) ggX4_readInto_X4_readHead
set_option maxRecDepth 20000 in
theorem ggX4_readInto_X4_readPart : GoodIn wsX4_readInto wsX4_readPart := goodIn_r _ [32, 33, 34, 35, 36, 6, 37, 38, 16, 39, 40, 21, 41, 42, 43, 44, 22, 45, 13, 46, 9, 10, 11, 47, 48, 49, 50, 51, 52, 53, 23, 54, 55, 56, 57, 58, 59, 60, 61, 62, 63, 64, 65, 66, 67, 68, 69] (by decide +kernel) (by decide +kernel)
set_option maxRecDepth 20000 in
theorem gX4_readInto_X4_readPart : GoodIn wsX4_readInto (wsV RX4 23 RX4 yX4_readPart wsX4_readPart) := goodIn_app (goodIn_of _ (by decide +kernel)) ggX4_readInto_X4_readPart
theorem dX4_readInto_0 : decode cX4_readInto 0 = .ok (.iconst 0, 1) := by decide +kernel
theorem dX4_readInto_1 : decode cX4_readInto 1 = .ok (.istore_n 2, 1) := by decide +kernel
theorem dX4_readInto_2 : decode cX4_readInto 2 = .ok (.iload_n 2, 1) := by decide +kernel
theorem dX4_readInto_3 : decode cX4_readInto 3 = .ok (.aload_n 0, 1) := by decide +kernel
theorem dX4_readInto_4 : decode cX4_readInto 4 = .ok (.getfield 15, 3) := by decide +kernel
theorem dX4_readInto_7 : decode cX4_readInto 7 = .ok (.if_icmp .ge 54, 3) := by decide +kernel
theorem dX4_readInto_10 : decode cX4_readInto 10 = .ok (.iload_n 2, 1) := by decide +kernel
theorem dX4_readInto_11 : decode cX4_readInto 11 = .ok (.bipush 72, 2) := by decide +kernel
theorem dX4_readInto_13 : decode cX4_readInto 13 = .ok (.if_icmp .ge 48, 3) := by decide +kernel
theorem dX4_readInto_16 : decode cX4_readInto 16 = .ok (.iload_n 2, 1) := by decide +kernel
theorem dX4_readInto_17 : decode cX4_readInto 17 = .ok (.iconst 3, 1) := by decide +kernel
theorem dX4_readInto_18 : decode cX4_readInto 18 = .ok (.if_icmp .ge 18, 3) := by decide +kernel
theorem dX4_readInto_21 : decode cX4_readInto 21 = .ok (.aload_n 0, 1) := by decide +kernel
theorem dX4_readInto_22 : decode cX4_readInto 22 = .ok (.aload_n 1, 1) := by decide +kernel
theorem dX4_readInto_23 : decode cX4_readInto 23 = .ok (.iload_n 2, 1) := by decide +kernel
theorem dX4_readInto_24 : decode cX4_readInto 24 = .ok (.aload_n 0, 1) := by decide +kernel
theorem dX4_readInto_25 : decode cX4_readInto 25 = .ok (.getfield 9, 3) := by decide +kernel
theorem dX4_readInto_28 : decode cX4_readInto 28 = .ok (.iload_n 2, 1) := by decide +kernel
theorem dX4_readInto_29 : decode cX4_readInto 29 = .ok (.iaload, 1) := by decide +kernel
theorem dX4_readInto_30 : decode cX4_readInto 30 = .ok (.invokevirtual 19, 3) := by decide +kernel
theorem dX4_readInto_33 : decode cX4_readInto 33 = .ok (.goto 15, 3) := by decide +kernel
theorem dX4_readInto_36 : decode cX4_readInto 36 = .ok (.aload_n 0, 1) := by decide +kernel
theorem dX4_readInto_37 : decode cX4_readInto 37 = .ok (.aload_n 1, 1) := by decide +kernel
theorem dX4_readInto_38 : decode cX4_readInto 38 = .ok (.iload_n 2, 1) := by decide +kernel
theorem dX4_readInto_39 : decode cX4_readInto 39 = .ok (.aload_n 0, 1) := by decide +kernel
theorem dX4_readInto_40 : decode cX4_readInto 40 = .ok (.getfield 9, 3) := by decide +kernel
theorem dX4_readInto_43 : decode cX4_readInto 43 = .ok (.iload_n 2, 1) := by decide +kernel
theorem dX4_readInto_44 : decode cX4_readInto 44 = .ok (.iaload, 1) := by decide +kernel
theorem dX4_readInto_45 : decode cX4_readInto 45 = .ok (.invokevirtual 23, 3) := by decide +kernel
theorem dX4_readInto_48 : decode cX4_readInto 48 = .ok (.istore_n 3, 1) := by decide +kernel
theorem dX4_readInto_49 : decode cX4_readInto 49 = .ok (.iload_n 3, 1) := by decide +kernel
theorem dX4_readInto_50 : decode cX4_readInto 50 = .ok (.ifCond .ne 5, 3) := by decide +kernel
theorem dX4_readInto_53 : decode cX4_readInto 53 = .ok (.iload_n 2, 1) := by decide +kernel
theorem dX4_readInto_54 : decode cX4_readInto 54 = .ok (.ireturn, 1) := by decide +kernel
theorem dX4_readInto_55 : decode cX4_readInto 55 = .ok (.iinc 2 1, 3) := by decide +kernel
theorem dX4_readInto_58 : decode cX4_readInto 58 = .ok (.goto (-56), 3) := by decide +kernel
theorem dX4_readInto_61 : decode cX4_readInto 61 = .ok (.aload_n 0, 1) := by decide +kernel
theorem dX4_readInto_62 : decode cX4_readInto 62 = .ok (.getfield 15, 3) := by decide +kernel
theorem dX4_readInto_65 : decode cX4_readInto 65 = .ok (.ifCond .le 16, 3) := by decide +kernel
theorem dX4_readInto_68 : decode cX4_readInto 68 = .ok (.aload_n 0, 1) := by decide +kernel
theorem dX4_readInto_69 : decode cX4_readInto 69 = .ok (.getfield 15, 3) := by decide +kernel
theorem dX4_readInto_72 : decode cX4_readInto 72 = .ok (.iconst 3, 1) := by decide +kernel
theorem dX4_readInto_73 : decode cX4_readInto 73 = .ok (.irem, 1) := by decide +kernel
theorem dX4_readInto_74 : decode cX4_readInto 74 = .ok (.ifCond .ne 7, 3) := by decide +kernel
theorem dX4_readInto_77 : decode cX4_readInto 77 = .ok (.iconst 1, 1) := by decide +kernel
theorem dX4_readInto_78 : decode cX4_readInto 78 = .ok (.goto 4, 3) := by decide +kernel
theorem dX4_readInto_81 : decode cX4_readInto 81 = .ok (.iconst 0, 1) := by decide +kernel
theorem dX4_readInto_82 : decode cX4_readInto 82 = .ok (.istore_n 2, 1) := by decide +kernel
theorem dX4_readInto_83 : decode cX4_readInto 83 = .ok (.iload_n 2, 1) := by decide +kernel
theorem dX4_readInto_84 : decode cX4_readInto 84 = .ok (.ifCond .eq 8, 3) := by decide +kernel
theorem dX4_readInto_87 : decode cX4_readInto 87 = .ok (.bipush (-9), 2) := by decide +kernel
theorem dX4_readInto_89 : decode cX4_readInto 89 = .ok (.goto 7, 3) := by decide +kernel
theorem dX4_readInto_92 : decode cX4_readInto 92 = .ok (.aload_n 0, 1) := by decide +kernel
theorem dX4_readInto_93 : decode cX4_readInto 93 = .ok (.getfield 15, 3) := by decide +kernel
theorem dX4_readInto_96 : decode cX4_readInto 96 = .ok (.ireturn, 1) := by decide +kernel
set_option maxRecDepth 20000 in
theorem ggX4_readHead_X4_digit : GoodIn wsX4_readHead wsX4_digit := goodIn_r _ [5] (by decide +kernel) (by decide +kernel)
set_option maxRecDepth 20000 in
theorem gX4_readHead_X4_digit : GoodIn wsX4_readHead (va_wsS RX4 26 yX4_digit wsX4_digit) := goodIn_app (goodIn_of _ (by decide +kernel)) ggX4_readHead_X4_digit
set_option maxRecDepth 20000 in
theorem ggX4_readHead_X5_isSquares : GoodIn wsX4_readHead wsX5_isSquares := goodIn_r _ [8] (by decide +kernel) (by decide +kernel)
set_option maxRecDepth 20000 in
theorem gX4_readHead_X5_isSquares_n30 : GoodIn wsX4_readHead (wsX5_isSquares) := ggX4_readHead_X5_isSquares
set_option maxRecDepth 20000 in
theorem ggX4_readHead_X3_spread : GoodIn wsX4_readHead wsX3_spread := goodIn_r _ [12, 13, 14, 15, 16, 17, 18, 6, 7, 8, 19, 20, 21, 22, 28, 29, 30, 31, 32, 33] (by decide +kernel) (by decide +kernel)
set_option maxRecDepth 20000 in
theorem gX4_readHead_X3_spread_n37 : GoodIn wsX4_readHead (wsX3_spread) := ggX4_readHead_X3_spread
theorem dX4_readHead_0 : decode cX4_readHead 0 = .ok (.iload_n 2, 1) := by decide +kernel
theorem dX4_readHead_1 : decode cX4_readHead 1 = .ok (.ifCond .ne 15, 3) := by decide +kernel
theorem dX4_readHead_4 : decode cX4_readHead 4 = .ok (.iload_n 3, 1) := by decide +kernel
theorem dX4_readHead_5 : decode cX4_readHead 5 = .ok (.bipush 78, 2) := by decide +kernel
theorem dX4_readHead_7 : decode cX4_readHead 7 = .ok (.if_icmp .ne 7, 3) := by decide +kernel
theorem dX4_readHead_10 : decode cX4_readHead 10 = .ok (.iconst 1, 1) := by decide +kernel
theorem dX4_readHead_11 : decode cX4_readHead 11 = .ok (.goto 4, 3) := by decide +kernel
theorem dX4_readHead_14 : decode cX4_readHead 14 = .ok (.iconst 0, 1) := by decide +kernel
theorem dX4_readHead_15 : decode cX4_readHead 15 = .ok (.ireturn, 1) := by decide +kernel
theorem dX4_readHead_16 : decode cX4_readHead 16 = .ok (.iload_n 3, 1) := by decide +kernel
theorem dX4_readHead_17 : decode cX4_readHead 17 = .ok (.invokestatic 26, 3) := by decide +kernel
theorem dX4_readHead_20 : decode cX4_readHead 20 = .ok (.istore 4, 2) := by decide +kernel
theorem dX4_readHead_22 : decode cX4_readHead 22 = .ok (.iload 4, 2) := by decide +kernel
theorem dX4_readHead_24 : decode cX4_readHead 24 = .ok (.invokestatic 30, 3) := by decide +kernel
theorem dX4_readHead_27 : decode cX4_readHead 27 = .ok (.ifCond .ne 5, 3) := by decide +kernel
theorem dX4_readHead_30 : decode cX4_readHead 30 = .ok (.iconst 0, 1) := by decide +kernel
theorem dX4_readHead_31 : decode cX4_readHead 31 = .ok (.ireturn, 1) := by decide +kernel
theorem dX4_readHead_32 : decode cX4_readHead 32 = .ok (.iload_n 2, 1) := by decide +kernel
theorem dX4_readHead_33 : decode cX4_readHead 33 = .ok (.iconst 1, 1) := by decide +kernel
theorem dX4_readHead_34 : decode cX4_readHead 34 = .ok (.if_icmp .ne 12, 3) := by decide +kernel
theorem dX4_readHead_37 : decode cX4_readHead 37 = .ok (.aload_n 0, 1) := by decide +kernel
theorem dX4_readHead_38 : decode cX4_readHead 38 = .ok (.iload 4, 2) := by decide +kernel
theorem dX4_readHead_40 : decode cX4_readHead 40 = .ok (.putfield 34, 3) := by decide +kernel
theorem dX4_readHead_43 : decode cX4_readHead 43 = .ok (.goto 13, 3) := by decide +kernel
theorem dX4_readHead_46 : decode cX4_readHead 46 = .ok (.aload_n 1, 1) := by decide +kernel
theorem dX4_readHead_47 : decode cX4_readHead 47 = .ok (.aload_n 0, 1) := by decide +kernel
theorem dX4_readHead_48 : decode cX4_readHead 48 = .ok (.getfield 34, 3) := by decide +kernel
theorem dX4_readHead_51 : decode cX4_readHead 51 = .ok (.iload 4, 2) := by decide +kernel
theorem dX4_readHead_53 : decode cX4_readHead 53 = .ok (.invokevirtual 37, 3) := by decide +kernel
theorem dX4_readHead_56 : decode cX4_readHead 56 = .ok (.iconst 1, 1) := by decide +kernel
theorem dX4_readHead_57 : decode cX4_readHead 57 = .ok (.ireturn, 1) := by decide +kernel
set_option maxRecDepth 20000 in
theorem ggX4_readPart_X4_kindBy : GoodIn wsX4_readPart wsX4_kindBy := goodIn_r _ [6] (by decide +kernel) (by decide +kernel)
set_option maxRecDepth 20000 in
theorem gX4_readPart_X4_kindBy : GoodIn wsX4_readPart (va_wsS RX4 43 yX4_kindBy wsX4_kindBy) := goodIn_app (goodIn_of _ (by decide +kernel)) ggX4_readPart_X4_kindBy
set_option maxRecDepth 20000 in
theorem ggX4_readPart_X3_countKind : GoodIn wsX4_readPart wsX3_countKind := goodIn_r _ [10, 11, 12, 13, 14, 8, 15, 16, 17, 18, 19, 41, 42, 43, 44, 45, 46] (by decide +kernel) (by decide +kernel)
set_option maxRecDepth 20000 in
theorem gX4_readPart_X3_countKind_n49 : GoodIn wsX4_readPart (wsX3_countKind) := ggX4_readPart_X3_countKind
set_option maxRecDepth 20000 in
theorem ggX4_readPart_X4_digit : GoodIn wsX4_readPart wsX4_digit := goodIn_r _ [22] (by decide +kernel) (by decide +kernel)
set_option maxRecDepth 20000 in
theorem gX4_readPart_X4_digit : GoodIn wsX4_readPart (va_wsS RX4 26 yX4_digit wsX4_digit) := goodIn_app (goodIn_of _ (by decide +kernel)) ggX4_readPart_X4_digit
set_option maxRecDepth 20000 in
theorem ggX4_readPart_X3_hasPlainInRow : GoodIn wsX4_readPart wsX3_hasPlainInRow := goodIn_r _ [25, 26, 27, 28, 8, 29, 30, 12, 13, 14, 15, 16, 17, 18, 19, 41, 42, 43, 44, 45, 46] (by decide +kernel) (by decide +kernel)
set_option maxRecDepth 20000 in
theorem gX4_readPart_X3_hasPlainInRow_n55 : GoodIn wsX4_readPart (wsX3_hasPlainInRow) := ggX4_readPart_X3_hasPlainInRow
set_option maxRecDepth 20000 in
theorem ggX4_readPart_X3_numberAt : GoodIn wsX4_readPart wsX3_numberAt := goodIn_r _ [29, 30, 41, 42, 43, 44, 45, 46] (by decide +kernel) (by decide +kernel)
set_option maxRecDepth 20000 in
theorem gX4_readPart_X3_numberAt_n58 : GoodIn wsX4_readPart (wsX3_numberAt) := ggX4_readPart_X3_numberAt
set_option maxRecDepth 20000 in
theorem ggX4_readPart_X3_kindOf : GoodIn wsX4_readPart wsX3_kindOf := goodIn_r _ [15, 16, 17, 18, 19, 41, 42, 43, 44, 45, 46] (by decide +kernel) (by decide +kernel)
set_option maxRecDepth 20000 in
theorem gX4_readPart_X3_kindOf_n62 : GoodIn wsX4_readPart (wsX3_kindOf) := ggX4_readPart_X3_kindOf
set_option maxRecDepth 20000 in
theorem ggX4_readPart_X3_put : GoodIn wsX4_readPart wsX3_put := goodIn_r _ [33, 16, 34, 18, 35, 41, 42, 43, 44, 45, 46] (by decide +kernel) (by decide +kernel)
set_option maxRecDepth 20000 in
theorem gX4_readPart_X3_put_n65 : GoodIn wsX4_readPart (wsX3_put) := ggX4_readPart_X3_put
theorem dX4_readPart_0 : decode cX4_readPart 0 = .ok (.iload_n 2, 1) := by decide +kernel
theorem dX4_readPart_1 : decode cX4_readPart 1 = .ok (.iconst 3, 1) := by decide +kernel
theorem dX4_readPart_2 : decode cX4_readPart 2 = .ok (.irem, 1) := by decide +kernel
theorem dX4_readPart_3 : decode cX4_readPart 3 = .ok (.ifCond .ne 34, 3) := by decide +kernel
theorem dX4_readPart_6 : decode cX4_readPart 6 = .ok (.aload_n 0, 1) := by decide +kernel
theorem dX4_readPart_7 : decode cX4_readPart 7 = .ok (.iload_n 3, 1) := by decide +kernel
theorem dX4_readPart_8 : decode cX4_readPart 8 = .ok (.invokestatic 43, 3) := by decide +kernel
theorem dX4_readPart_11 : decode cX4_readPart 11 = .ok (.putfield 46, 3) := by decide +kernel
theorem dX4_readPart_14 : decode cX4_readPart 14 = .ok (.aload_n 0, 1) := by decide +kernel
theorem dX4_readPart_15 : decode cX4_readPart 15 = .ok (.getfield 46, 3) := by decide +kernel
theorem dX4_readPart_18 : decode cX4_readPart 18 = .ok (.bipush (-9), 2) := by decide +kernel
theorem dX4_readPart_20 : decode cX4_readPart 20 = .ok (.if_icmp .eq 15, 3) := by decide +kernel
theorem dX4_readPart_23 : decode cX4_readPart 23 = .ok (.aload_n 1, 1) := by decide +kernel
theorem dX4_readPart_24 : decode cX4_readPart 24 = .ok (.iconst 0, 1) := by decide +kernel
theorem dX4_readPart_25 : decode cX4_readPart 25 = .ok (.invokevirtual 49, 3) := by decide +kernel
theorem dX4_readPart_28 : decode cX4_readPart 28 = .ok (.ifCond .le 7, 3) := by decide +kernel
theorem dX4_readPart_31 : decode cX4_readPart 31 = .ok (.iconst 1, 1) := by decide +kernel
theorem dX4_readPart_32 : decode cX4_readPart 32 = .ok (.goto 4, 3) := by decide +kernel
theorem dX4_readPart_35 : decode cX4_readPart 35 = .ok (.iconst 0, 1) := by decide +kernel
theorem dX4_readPart_36 : decode cX4_readPart 36 = .ok (.ireturn, 1) := by decide +kernel
theorem dX4_readPart_37 : decode cX4_readPart 37 = .ok (.iload_n 2, 1) := by decide +kernel
theorem dX4_readPart_38 : decode cX4_readPart 38 = .ok (.iconst 3, 1) := by decide +kernel
theorem dX4_readPart_39 : decode cX4_readPart 39 = .ok (.irem, 1) := by decide +kernel
theorem dX4_readPart_40 : decode cX4_readPart 40 = .ok (.iconst 1, 1) := by decide +kernel
theorem dX4_readPart_41 : decode cX4_readPart 41 = .ok (.if_icmp .ne 20, 3) := by decide +kernel
theorem dX4_readPart_44 : decode cX4_readPart 44 = .ok (.aload_n 0, 1) := by decide +kernel
theorem dX4_readPart_45 : decode cX4_readPart 45 = .ok (.iload_n 3, 1) := by decide +kernel
theorem dX4_readPart_46 : decode cX4_readPart 46 = .ok (.invokestatic 26, 3) := by decide +kernel
theorem dX4_readPart_49 : decode cX4_readPart 49 = .ok (.putfield 52, 3) := by decide +kernel
theorem dX4_readPart_52 : decode cX4_readPart 52 = .ok (.aload_n 1, 1) := by decide +kernel
theorem dX4_readPart_53 : decode cX4_readPart 53 = .ok (.aload_n 0, 1) := by decide +kernel
theorem dX4_readPart_54 : decode cX4_readPart 54 = .ok (.getfield 52, 3) := by decide +kernel
theorem dX4_readPart_57 : decode cX4_readPart 57 = .ok (.invokevirtual 55, 3) := by decide +kernel
theorem dX4_readPart_60 : decode cX4_readPart 60 = .ok (.ireturn, 1) := by decide +kernel
theorem dX4_readPart_61 : decode cX4_readPart 61 = .ok (.aload_n 1, 1) := by decide +kernel
theorem dX4_readPart_62 : decode cX4_readPart 62 = .ok (.aload_n 0, 1) := by decide +kernel
theorem dX4_readPart_63 : decode cX4_readPart 63 = .ok (.getfield 52, 3) := by decide +kernel
theorem dX4_readPart_66 : decode cX4_readPart 66 = .ok (.iload_n 3, 1) := by decide +kernel
theorem dX4_readPart_67 : decode cX4_readPart 67 = .ok (.invokestatic 26, 3) := by decide +kernel
theorem dX4_readPart_70 : decode cX4_readPart 70 = .ok (.invokevirtual 58, 3) := by decide +kernel
theorem dX4_readPart_73 : decode cX4_readPart 73 = .ok (.istore 4, 2) := by decide +kernel
theorem dX4_readPart_75 : decode cX4_readPart 75 = .ok (.iload 4, 2) := by decide +kernel
theorem dX4_readPart_77 : decode cX4_readPart 77 = .ok (.ifCond .lt 12, 3) := by decide +kernel
theorem dX4_readPart_80 : decode cX4_readPart 80 = .ok (.aload_n 1, 1) := by decide +kernel
theorem dX4_readPart_81 : decode cX4_readPart 81 = .ok (.iload 4, 2) := by decide +kernel
theorem dX4_readPart_83 : decode cX4_readPart 83 = .ok (.invokevirtual 62, 3) := by decide +kernel
theorem dX4_readPart_86 : decode cX4_readPart 86 = .ok (.ifCond .eq 5, 3) := by decide +kernel
theorem dX4_readPart_89 : decode cX4_readPart 89 = .ok (.iconst 0, 1) := by decide +kernel
theorem dX4_readPart_90 : decode cX4_readPart 90 = .ok (.ireturn, 1) := by decide +kernel
theorem dX4_readPart_91 : decode cX4_readPart 91 = .ok (.aload_n 1, 1) := by decide +kernel
theorem dX4_readPart_92 : decode cX4_readPart 92 = .ok (.iload 4, 2) := by decide +kernel
theorem dX4_readPart_94 : decode cX4_readPart 94 = .ok (.aload_n 0, 1) := by decide +kernel
theorem dX4_readPart_95 : decode cX4_readPart 95 = .ok (.getfield 46, 3) := by decide +kernel
theorem dX4_readPart_98 : decode cX4_readPart 98 = .ok (.invokevirtual 65, 3) := by decide +kernel
theorem dX4_readPart_101 : decode cX4_readPart 101 = .ok (.iconst 1, 1) := by decide +kernel
theorem dX4_readPart_102 : decode cX4_readPart 102 = .ok (.ireturn, 1) := by decide +kernel
theorem dX4_kindBy_0 : decode cX4_kindBy 0 = .ok (.iload_n 0, 1) := by decide +kernel
theorem dX4_kindBy_1 : decode cX4_kindBy 1 = .ok (.lookupswitch 41 #[(72, 35), (79, 39), (86, 37)], 35) := by decide +kernel
theorem dX4_kindBy_36 : decode cX4_kindBy 36 = .ok (.iconst 1, 1) := by decide +kernel
theorem dX4_kindBy_37 : decode cX4_kindBy 37 = .ok (.ireturn, 1) := by decide +kernel
theorem dX4_kindBy_38 : decode cX4_kindBy 38 = .ok (.iconst 2, 1) := by decide +kernel
theorem dX4_kindBy_39 : decode cX4_kindBy 39 = .ok (.ireturn, 1) := by decide +kernel
theorem dX4_kindBy_40 : decode cX4_kindBy 40 = .ok (.iconst 3, 1) := by decide +kernel
theorem dX4_kindBy_41 : decode cX4_kindBy 41 = .ok (.ireturn, 1) := by decide +kernel
theorem dX4_kindBy_42 : decode cX4_kindBy 42 = .ok (.bipush (-9), 2) := by decide +kernel
theorem dX4_kindBy_44 : decode cX4_kindBy 44 = .ok (.ireturn, 1) := by decide +kernel
theorem dX4_digit_0 : decode cX4_digit 0 = .ok (.iload_n 0, 1) := by decide +kernel
theorem dX4_digit_1 : decode cX4_digit 1 = .ok (.bipush 48, 2) := by decide +kernel
theorem dX4_digit_3 : decode cX4_digit 3 = .ok (.if_icmp .lt 14, 3) := by decide +kernel
theorem dX4_digit_6 : decode cX4_digit 6 = .ok (.iload_n 0, 1) := by decide +kernel
theorem dX4_digit_7 : decode cX4_digit 7 = .ok (.bipush 57, 2) := by decide +kernel
theorem dX4_digit_9 : decode cX4_digit 9 = .ok (.if_icmp .gt 8, 3) := by decide +kernel
theorem dX4_digit_12 : decode cX4_digit 12 = .ok (.iload_n 0, 1) := by decide +kernel
theorem dX4_digit_13 : decode cX4_digit 13 = .ok (.bipush 48, 2) := by decide +kernel
theorem dX4_digit_15 : decode cX4_digit 15 = .ok (.isub, 1) := by decide +kernel
theorem dX4_digit_16 : decode cX4_digit 16 = .ok (.ireturn, 1) := by decide +kernel
theorem dX4_digit_17 : decode cX4_digit 17 = .ok (.iload_n 0, 1) := by decide +kernel
theorem dX4_digit_18 : decode cX4_digit 18 = .ok (.bipush 97, 2) := by decide +kernel
theorem dX4_digit_20 : decode cX4_digit 20 = .ok (.if_icmp .ne 8, 3) := by decide +kernel
theorem dX4_digit_23 : decode cX4_digit 23 = .ok (.bipush 10, 2) := by decide +kernel
theorem dX4_digit_25 : decode cX4_digit 25 = .ok (.goto 16, 3) := by decide +kernel
theorem dX4_digit_28 : decode cX4_digit 28 = .ok (.iload_n 0, 1) := by decide +kernel
theorem dX4_digit_29 : decode cX4_digit 29 = .ok (.bipush 98, 2) := by decide +kernel
theorem dX4_digit_31 : decode cX4_digit 31 = .ok (.if_icmp .ne 8, 3) := by decide +kernel
theorem dX4_digit_34 : decode cX4_digit 34 = .ok (.bipush 11, 2) := by decide +kernel
theorem dX4_digit_36 : decode cX4_digit 36 = .ok (.goto 5, 3) := by decide +kernel
theorem dX4_digit_39 : decode cX4_digit 39 = .ok (.bipush (-9), 2) := by decide +kernel
theorem dX4_digit_41 : decode cX4_digit 41 = .ok (.ireturn, 1) := by decide +kernel
set_option maxRecDepth 20000 in
theorem ggX5_init_X4_init : GoodIn wsX5_init wsX4_init := goodIn_r _ [29, 30, 2, 3, 31, 32, 167, 168, 169, 170, 171] (by decide +kernel) (by decide +kernel)
set_option maxRecDepth 20000 in
theorem gX5_init_X4_init_n11 : GoodIn wsX5_init (wsX4_init) := ggX5_init_X4_init
set_option maxRecDepth 20000 in
theorem ggX5_init_X3_init : GoodIn wsX5_init wsX3_init := goodIn_r _ [34, 35, 2, 3, 31, 36, 37, 38, 181, 182, 183, 184, 185, 186] (by decide +kernel) (by decide +kernel)
set_option maxRecDepth 20000 in
theorem gX5_init_X3_init_n18 : GoodIn wsX5_init (wsX3_init) := ggX5_init_X3_init
set_option maxRecDepth 20000 in
theorem ggX5_init_X2_init : GoodIn wsX5_init wsX2_init := goodIn_r _ [40, 41, 2, 3, 31, 42, 43, 44, 45, 46, 47, 48, 187, 188, 189, 190, 191, 192, 193, 194, 195] (by decide +kernel) (by decide +kernel)
set_option maxRecDepth 20000 in
theorem gX5_init_X2_init_n25 : GoodIn wsX5_init (wsX2_init) := ggX5_init_X2_init
set_option maxRecDepth 20000 in
theorem ggX5_init_X1_init : GoodIn wsX5_init wsX1_init := goodIn_r _ [50, 51, 2, 3, 31, 52, 53, 54, 55, 56, 57, 196, 197, 198, 199, 200, 201, 202, 203] (by decide +kernel) (by decide +kernel)
set_option maxRecDepth 20000 in
theorem gX5_init_X1_init_n32 : GoodIn wsX5_init (wsX1_init) := ggX5_init_X1_init
set_option maxRecDepth 20000 in
theorem ggX5_init_X0_init : GoodIn wsX5_init wsX0_init := goodIn_r _ [59, 60, 2, 3, 61, 31, 62, 204, 205, 206] (by decide +kernel) (by decide +kernel)
set_option maxRecDepth 20000 in
theorem gX5_init_X0_init_n39 : GoodIn wsX5_init (wsX0_init) := ggX5_init_X0_init
set_option maxRecDepth 20000 in
theorem ggX5_init_X3_spread : GoodIn wsX5_init wsX3_spread := goodIn_r _ [65, 66, 67, 68, 37, 38, 36, 69, 70, 71, 72, 73, 74, 75, 181, 182, 183, 184, 185, 186] (by decide +kernel) (by decide +kernel)
set_option maxRecDepth 20000 in
theorem gX5_init_X3_spread_n57 : GoodIn wsX5_init (wsX3_spread) := ggX5_init_X3_spread
set_option maxRecDepth 20000 in
theorem ggX5_init_X5_redraw : GoodIn wsX5_init wsX5_redraw := goodIn_r _ [79, 15, 11, 19, 80, 14, 81, 82, 83, 84, 42, 43, 85, 73, 74, 75, 86, 87, 88, 89, 90, 10, 91, 92, 66, 67, 93, 94, 95, 96, 44, 45, 46, 47, 48, 97, 98, 99, 100, 101, 102, 103, 38, 104, 105, 106, 107, 37, 108, 70, 109, 110, 18, 111, 112, 54, 55, 52, 113, 114, 115, 116, 117, 118, 119, 120, 121, 122, 123, 124, 125, 126, 127, 128, 129, 130, 131, 132, 133, 134, 135, 136, 137, 53, 138, 139, 140, 141, 142, 143, 144, 145, 146, 147, 148, 149, 150, 151, 152, 153, 154, 155, 57, 56, 156, 157, 158, 159, 160, 161, 162, 163, 164, 165, 166, 172, 173, 174, 175, 176, 177, 178, 179, 180, 187, 188, 189, 190, 191, 192, 193, 194, 195, 181, 182, 183, 184, 185, 186, 196, 197, 198, 199, 200, 201, 202, 203] (by decide +kernel) (by decide +kernel)
set_option maxRecDepth 20000 in
theorem gX5_init_X5_redraw : GoodIn wsX5_init (wsV RX5 61 RX5 yX5_redraw wsX5_redraw) := goodIn_app (goodIn_of _ (by decide +kernel)) ggX5_init_X5_redraw
theorem dX5_init_0 : decode cX5_init 0 = .ok (.aload_n 0, 1) := by decide +kernel
theorem dX5_init_1 : decode cX5_init 1 = .ok (.invokespecial 3, 3) := by decide +kernel
theorem dX5_init_4 : decode cX5_init 4 = .ok (.aload_n 0, 1) := by decide +kernel
theorem dX5_init_5 : decode cX5_init 5 = .ok (.new 9, 3) := by decide +kernel
theorem dX5_init_8 : decode cX5_init 8 = .ok (.dup, 1) := by decide +kernel
theorem dX5_init_9 : decode cX5_init 9 = .ok (.invokespecial 11, 3) := by decide +kernel
theorem dX5_init_12 : decode cX5_init 12 = .ok (.putfield 12, 3) := by decide +kernel
theorem dX5_init_15 : decode cX5_init 15 = .ok (.aload_n 0, 1) := by decide +kernel
theorem dX5_init_16 : decode cX5_init 16 = .ok (.new 16, 3) := by decide +kernel
theorem dX5_init_19 : decode cX5_init 19 = .ok (.dup, 1) := by decide +kernel
theorem dX5_init_20 : decode cX5_init 20 = .ok (.invokespecial 18, 3) := by decide +kernel
theorem dX5_init_23 : decode cX5_init 23 = .ok (.putfield 19, 3) := by decide +kernel
theorem dX5_init_26 : decode cX5_init 26 = .ok (.aload_n 0, 1) := by decide +kernel
theorem dX5_init_27 : decode cX5_init 27 = .ok (.new 23, 3) := by decide +kernel
theorem dX5_init_30 : decode cX5_init 30 = .ok (.dup, 1) := by decide +kernel
theorem dX5_init_31 : decode cX5_init 31 = .ok (.invokespecial 25, 3) := by decide +kernel
theorem dX5_init_34 : decode cX5_init 34 = .ok (.putfield 26, 3) := by decide +kernel
theorem dX5_init_37 : decode cX5_init 37 = .ok (.aload_n 0, 1) := by decide +kernel
theorem dX5_init_38 : decode cX5_init 38 = .ok (.new 30, 3) := by decide +kernel
theorem dX5_init_41 : decode cX5_init 41 = .ok (.dup, 1) := by decide +kernel
theorem dX5_init_42 : decode cX5_init 42 = .ok (.invokespecial 32, 3) := by decide +kernel
theorem dX5_init_45 : decode cX5_init 45 = .ok (.putfield 33, 3) := by decide +kernel
theorem dX5_init_48 : decode cX5_init 48 = .ok (.aload_n 0, 1) := by decide +kernel
theorem dX5_init_49 : decode cX5_init 49 = .ok (.new 37, 3) := by decide +kernel
theorem dX5_init_52 : decode cX5_init 52 = .ok (.dup, 1) := by decide +kernel
theorem dX5_init_53 : decode cX5_init 53 = .ok (.invokespecial 39, 3) := by decide +kernel
theorem dX5_init_56 : decode cX5_init 56 = .ok (.putfield 40, 3) := by decide +kernel
theorem dX5_init_59 : decode cX5_init 59 = .ok (.aload_n 0, 1) := by decide +kernel
theorem dX5_init_60 : decode cX5_init 60 = .ok (.new 16, 3) := by decide +kernel
theorem dX5_init_63 : decode cX5_init 63 = .ok (.dup, 1) := by decide +kernel
theorem dX5_init_64 : decode cX5_init 64 = .ok (.invokespecial 18, 3) := by decide +kernel
theorem dX5_init_67 : decode cX5_init 67 = .ok (.putfield 44, 3) := by decide +kernel
theorem dX5_init_70 : decode cX5_init 70 = .ok (.aload_n 0, 1) := by decide +kernel
theorem dX5_init_71 : decode cX5_init 71 = .ok (.new 16, 3) := by decide +kernel
theorem dX5_init_74 : decode cX5_init 74 = .ok (.dup, 1) := by decide +kernel
theorem dX5_init_75 : decode cX5_init 75 = .ok (.invokespecial 18, 3) := by decide +kernel
theorem dX5_init_78 : decode cX5_init 78 = .ok (.putfield 47, 3) := by decide +kernel
theorem dX5_init_81 : decode cX5_init 81 = .ok (.aload_n 0, 1) := by decide +kernel
theorem dX5_init_82 : decode cX5_init 82 = .ok (.new 23, 3) := by decide +kernel
theorem dX5_init_85 : decode cX5_init 85 = .ok (.dup, 1) := by decide +kernel
theorem dX5_init_86 : decode cX5_init 86 = .ok (.invokespecial 25, 3) := by decide +kernel
theorem dX5_init_89 : decode cX5_init 89 = .ok (.putfield 50, 3) := by decide +kernel
theorem dX5_init_92 : decode cX5_init 92 = .ok (.aload_n 0, 1) := by decide +kernel
theorem dX5_init_93 : decode cX5_init 93 = .ok (.iconst 2, 1) := by decide +kernel
theorem dX5_init_94 : decode cX5_init 94 = .ok (.anewarray 16, 3) := by decide +kernel
theorem dX5_init_97 : decode cX5_init 97 = .ok (.putfield 53, 3) := by decide +kernel
theorem dX5_init_100 : decode cX5_init 100 = .ok (.aload_n 0, 1) := by decide +kernel
theorem dX5_init_101 : decode cX5_init 101 = .ok (.getfield 19, 3) := by decide +kernel
theorem dX5_init_104 : decode cX5_init 104 = .ok (.iconst 1, 1) := by decide +kernel
theorem dX5_init_105 : decode cX5_init 105 = .ok (.iconst 1, 1) := by decide +kernel
theorem dX5_init_106 : decode cX5_init 106 = .ok (.invokevirtual 57, 3) := by decide +kernel
theorem dX5_init_109 : decode cX5_init 109 = .ok (.aload_n 0, 1) := by decide +kernel
theorem dX5_init_110 : decode cX5_init 110 = .ok (.invokevirtual 61, 3) := by decide +kernel
theorem dX5_init_113 : decode cX5_init 113 = .ok (.return_, 1) := by decide +kernel
set_option maxRecDepth 20000 in
theorem ggX5_write_X4_hasRoomFor : GoodIn wsX5_write wsX4_hasRoomFor := goodIn_r _ [5, 6, 20, 21, 22, 23, 24] (by decide +kernel) (by decide +kernel)
set_option maxRecDepth 20000 in
theorem gX5_write_X4_hasRoomFor_n64 : GoodIn wsX5_write (wsX4_hasRoomFor) := ggX5_write_X4_hasRoomFor
set_option maxRecDepth 20000 in
theorem ggX5_write_X4_append : GoodIn wsX5_write wsX4_append := goodIn_r _ [9, 6, 10, 20, 21, 22, 23, 24] (by decide +kernel) (by decide +kernel)
set_option maxRecDepth 20000 in
theorem gX5_write_X4_append_n68 : GoodIn wsX5_write (wsX4_append) := ggX5_write_X4_append
theorem dX5_write_0 : decode cX5_write 0 = .ok (.iload_n 1, 1) := by decide +kernel
theorem dX5_write_1 : decode cX5_write 1 = .ok (.iconst 1, 1) := by decide +kernel
theorem dX5_write_2 : decode cX5_write 2 = .ok (.if_icmp .lt 9, 3) := by decide +kernel
theorem dX5_write_5 : decode cX5_write 5 = .ok (.iload_n 1, 1) := by decide +kernel
theorem dX5_write_6 : decode cX5_write 6 = .ok (.bipush 8, 2) := by decide +kernel
theorem dX5_write_8 : decode cX5_write 8 = .ok (.if_icmp .le 6, 3) := by decide +kernel
theorem dX5_write_11 : decode cX5_write 11 = .ok (.bipush (-2), 2) := by decide +kernel
theorem dX5_write_13 : decode cX5_write 13 = .ok (.ireturn, 1) := by decide +kernel
theorem dX5_write_14 : decode cX5_write 14 = .ok (.aload_n 0, 1) := by decide +kernel
theorem dX5_write_15 : decode cX5_write 15 = .ok (.getfield 12, 3) := by decide +kernel
theorem dX5_write_18 : decode cX5_write 18 = .ok (.iload_n 1, 1) := by decide +kernel
theorem dX5_write_19 : decode cX5_write 19 = .ok (.invokevirtual 64, 3) := by decide +kernel
theorem dX5_write_22 : decode cX5_write 22 = .ok (.ifCond .ne 6, 3) := by decide +kernel
theorem dX5_write_25 : decode cX5_write 25 = .ok (.bipush (-4), 2) := by decide +kernel
theorem dX5_write_27 : decode cX5_write 27 = .ok (.ireturn, 1) := by decide +kernel
theorem dX5_write_28 : decode cX5_write 28 = .ok (.aload_n 0, 1) := by decide +kernel
theorem dX5_write_29 : decode cX5_write 29 = .ok (.getfield 12, 3) := by decide +kernel
theorem dX5_write_32 : decode cX5_write 32 = .ok (.iload_n 1, 1) := by decide +kernel
theorem dX5_write_33 : decode cX5_write 33 = .ok (.lload_n 2, 1) := by decide +kernel
theorem dX5_write_34 : decode cX5_write 34 = .ok (.invokevirtual 68, 3) := by decide +kernel
theorem dX5_write_37 : decode cX5_write 37 = .ok (.aload_n 0, 1) := by decide +kernel
theorem dX5_write_38 : decode cX5_write 38 = .ok (.getfield 12, 3) := by decide +kernel
theorem dX5_write_41 : decode cX5_write 41 = .ok (.getfield 72, 3) := by decide +kernel
theorem dX5_write_44 : decode cX5_write 44 = .ok (.ireturn, 1) := by decide +kernel
theorem dX5_wipe_0 : decode cX5_wipe 0 = .ok (.aload_n 0, 1) := by decide +kernel
theorem dX5_wipe_1 : decode cX5_wipe 1 = .ok (.getfield 12, 3) := by decide +kernel
theorem dX5_wipe_4 : decode cX5_wipe 4 = .ok (.getfield 72, 3) := by decide +kernel
theorem dX5_wipe_7 : decode cX5_wipe 7 = .ok (.istore_n 1, 1) := by decide +kernel
theorem dX5_wipe_8 : decode cX5_wipe 8 = .ok (.aload_n 0, 1) := by decide +kernel
theorem dX5_wipe_9 : decode cX5_wipe 9 = .ok (.getfield 12, 3) := by decide +kernel
theorem dX5_wipe_12 : decode cX5_wipe 12 = .ok (.iconst 0, 1) := by decide +kernel
theorem dX5_wipe_13 : decode cX5_wipe 13 = .ok (.putfield 72, 3) := by decide +kernel
theorem dX5_wipe_16 : decode cX5_wipe 16 = .ok (.iload_n 1, 1) := by decide +kernel
theorem dX5_wipe_17 : decode cX5_wipe 17 = .ok (.ireturn, 1) := by decide +kernel
set_option maxRecDepth 20000 in
theorem ggX5_fault_X4_readInto : GoodIn wsX5_fault wsX4_readInto := goodIn_r _ [6, 7, 8, 9, 10, 11, 4, 12, 13, 14, 15, 16, 17, 18, 19, 20, 21, 22, 23, 24, 25, 26, 27, 28, 29, 30, 31, 32, 33, 34, 35, 36, 37, 38, 39, 40, 41, 42, 43, 44, 45, 46, 47, 48, 49, 50, 51, 52, 53, 54, 55, 56, 57, 58, 59, 60, 61, 62, 63, 73, 74, 75, 76, 77, 78, 79, 80, 81, 82, 83] (by decide +kernel) (by decide +kernel)
set_option maxRecDepth 20000 in
theorem gX5_fault_X4_readInto_n76 : GoodIn wsX5_fault (wsX4_readInto) := ggX5_fault_X4_readInto
theorem dX5_fault_0 : decode cX5_fault 0 = .ok (.aload_n 0, 1) := by decide +kernel
theorem dX5_fault_1 : decode cX5_fault 1 = .ok (.getfield 12, 3) := by decide +kernel
theorem dX5_fault_4 : decode cX5_fault 4 = .ok (.aload_n 0, 1) := by decide +kernel
theorem dX5_fault_5 : decode cX5_fault 5 = .ok (.getfield 44, 3) := by decide +kernel
theorem dX5_fault_8 : decode cX5_fault 8 = .ok (.invokevirtual 76, 3) := by decide +kernel
theorem dX5_fault_11 : decode cX5_fault 11 = .ok (.ireturn, 1) := by decide +kernel
set_option maxRecDepth 20000 in
theorem ggX5_plait_X4_readInto : GoodIn wsX5_plait wsX4_readInto := goodIn_r _ [7, 8, 9, 10, 11, 12, 5, 13, 14, 15, 16, 17, 18, 19, 20, 21, 22, 23, 24, 25, 26, 27, 28, 29, 30, 31, 32, 33, 34, 35, 36, 37, 38, 39, 40, 41, 42, 43, 44, 45, 46, 47, 48, 49, 50, 51, 52, 53, 54, 55, 56, 57, 58, 59, 60, 61, 62, 63, 64, 183, 184, 185, 186, 187, 177, 178, 179, 180, 181, 182] (by decide +kernel) (by decide +kernel)
set_option maxRecDepth 20000 in
theorem gX5_plait_X4_readInto_n76 : GoodIn wsX5_plait (wsX4_readInto) := ggX5_plait_X4_readInto
set_option maxRecDepth 20000 in
theorem ggX5_plait_X3_become : GoodIn wsX5_plait wsX3_become := goodIn_r _ [67, 25, 26, 27, 30, 68, 69, 70, 71, 28, 29, 177, 178, 179, 180, 181, 182] (by decide +kernel) (by decide +kernel)
set_option maxRecDepth 20000 in
theorem gX5_plait_X3_become_n80 : GoodIn wsX5_plait (wsX3_become) := ggX5_plait_X3_become
set_option maxRecDepth 20000 in
theorem ggX5_plait_X5_redraw : GoodIn wsX5_plait wsX5_redraw := goodIn_r _ [75, 76, 3, 77, 78, 79, 80, 81, 82, 83, 84, 85, 86, 32, 33, 34, 87, 88, 89, 90, 91, 22, 92, 93, 25, 26, 94, 95, 96, 97, 98, 99, 100, 101, 102, 103, 104, 105, 56, 57, 58, 59, 29, 47, 48, 49, 50, 28, 51, 19, 52, 106, 107, 108, 109, 110, 111, 112, 113, 114, 115, 116, 117, 118, 119, 120, 121, 122, 123, 124, 125, 126, 127, 128, 129, 130, 131, 132, 133, 134, 135, 136, 137, 138, 139, 140, 141, 142, 143, 144, 145, 63, 64, 146, 147, 148, 149, 150, 151, 152, 153, 154, 155, 156, 157, 158, 159, 160, 161, 162, 163, 164, 165, 166, 167, 168, 169, 170, 171, 172, 173, 174, 175, 176, 188, 189, 190, 191, 192, 193, 194, 195, 196, 177, 178, 179, 180, 181, 182, 197, 198, 199, 200, 201, 202, 203, 204] (by decide +kernel) (by decide +kernel)
set_option maxRecDepth 20000 in
theorem gX5_plait_X5_redraw : GoodIn wsX5_plait (wsV RX5 61 RX5 yX5_redraw wsX5_redraw) := goodIn_app (goodIn_of _ (by decide +kernel)) ggX5_plait_X5_redraw
theorem dX5_plait_0 : decode cX5_plait 0 = .ok (.aload_n 0, 1) := by decide +kernel
theorem dX5_plait_1 : decode cX5_plait 1 = .ok (.getfield 12, 3) := by decide +kernel
theorem dX5_plait_4 : decode cX5_plait 4 = .ok (.aload_n 0, 1) := by decide +kernel
theorem dX5_plait_5 : decode cX5_plait 5 = .ok (.getfield 44, 3) := by decide +kernel
theorem dX5_plait_8 : decode cX5_plait 8 = .ok (.invokevirtual 76, 3) := by decide +kernel
theorem dX5_plait_11 : decode cX5_plait 11 = .ok (.bipush (-9), 2) := by decide +kernel
theorem dX5_plait_13 : decode cX5_plait 13 = .ok (.if_icmp .eq 6, 3) := by decide +kernel
theorem dX5_plait_16 : decode cX5_plait 16 = .ok (.bipush (-3), 2) := by decide +kernel
theorem dX5_plait_18 : decode cX5_plait 18 = .ok (.ireturn, 1) := by decide +kernel
theorem dX5_plait_19 : decode cX5_plait 19 = .ok (.aload_n 0, 1) := by decide +kernel
theorem dX5_plait_20 : decode cX5_plait 20 = .ok (.getfield 19, 3) := by decide +kernel
theorem dX5_plait_23 : decode cX5_plait 23 = .ok (.aload_n 0, 1) := by decide +kernel
theorem dX5_plait_24 : decode cX5_plait 24 = .ok (.getfield 44, 3) := by decide +kernel
theorem dX5_plait_27 : decode cX5_plait 27 = .ok (.invokevirtual 80, 3) := by decide +kernel
theorem dX5_plait_30 : decode cX5_plait 30 = .ok (.aload_n 0, 1) := by decide +kernel
theorem dX5_plait_31 : decode cX5_plait 31 = .ok (.invokevirtual 61, 3) := by decide +kernel
theorem dX5_plait_34 : decode cX5_plait 34 = .ok (.aload_n 0, 1) := by decide +kernel
theorem dX5_plait_35 : decode cX5_plait 35 = .ok (.getfield 19, 3) := by decide +kernel
theorem dX5_plait_38 : decode cX5_plait 38 = .ok (.getfield 84, 3) := by decide +kernel
theorem dX5_plait_41 : decode cX5_plait 41 = .ok (.ireturn, 1) := by decide +kernel
set_option maxRecDepth 20000 in
theorem ggX5_make_X5_isSquares : GoodIn wsX5_make wsX5_isSquares := goodIn_r _ [5] (by decide +kernel) (by decide +kernel)
set_option maxRecDepth 20000 in
theorem gX5_make_X5_isSquares : GoodIn wsX5_make (va_wsS RX5 87 yX5_isSquares wsX5_isSquares) := goodIn_app (goodIn_of _ (by decide +kernel)) ggX5_make_X5_isSquares
set_option maxRecDepth 20000 in
theorem ggX5_make_X3_spread : GoodIn wsX5_make wsX3_spread := goodIn_r _ [9, 10, 11, 12, 13, 14, 15, 3, 4, 5, 16, 17, 18, 19, 143, 144, 145, 146, 147, 148] (by decide +kernel) (by decide +kernel)
set_option maxRecDepth 20000 in
theorem gX5_make_X3_spread_n57 : GoodIn wsX5_make (wsX3_spread) := ggX5_make_X3_spread
set_option maxRecDepth 20000 in
theorem ggX5_make_X3_sow : GoodIn wsX5_make wsX3_sow := goodIn_r _ [22, 12, 23, 24, 25, 13, 143, 144, 145, 146, 147, 148] (by decide +kernel) (by decide +kernel)
set_option maxRecDepth 20000 in
theorem gX5_make_X3_sow_n90 : GoodIn wsX5_make (wsX3_sow) := ggX5_make_X3_sow
set_option maxRecDepth 20000 in
theorem ggX5_make_X5_redraw : GoodIn wsX5_make wsX5_redraw := goodIn_r _ [29, 30, 1, 31, 32, 33, 34, 35, 36, 37, 38, 39, 40, 17, 18, 19, 41, 42, 43, 44, 45, 7, 46, 47, 10, 11, 48, 49, 50, 51, 52, 53, 54, 55, 56, 57, 58, 59, 60, 61, 62, 63, 14, 64, 65, 66, 67, 13, 68, 4, 69, 70, 71, 72, 73, 74, 75, 76, 77, 78, 79, 80, 81, 82, 83, 84, 85, 86, 87, 88, 89, 90, 91, 92, 93, 94, 95, 96, 97, 98, 99, 100, 101, 102, 103, 104, 105, 106, 107, 108, 109, 110, 111, 112, 113, 114, 115, 116, 117, 118, 119, 120, 121, 122, 123, 124, 125, 126, 127, 128, 129, 130, 131, 132, 133, 134, 135, 136, 137, 138, 139, 140, 141, 142, 149, 150, 151, 152, 153, 154, 155, 156, 157, 143, 144, 145, 146, 147, 148, 158, 159, 160, 161, 162, 163, 164, 165] (by decide +kernel) (by decide +kernel)
set_option maxRecDepth 20000 in
theorem gX5_make_X5_redraw : GoodIn wsX5_make (wsV RX5 61 RX5 yX5_redraw wsX5_redraw) := goodIn_app (goodIn_of _ (by decide +kernel)) ggX5_make_X5_redraw
theorem dX5_make_0 : decode cX5_make 0 = .ok (.iload_n 1, 1) := by decide +kernel
theorem dX5_make_1 : decode cX5_make 1 = .ok (.invokestatic 87, 3) := by decide +kernel
theorem dX5_make_4 : decode cX5_make 4 = .ok (.ifCond .eq 10, 3) := by decide +kernel
theorem dX5_make_7 : decode cX5_make 7 = .ok (.iload_n 2, 1) := by decide +kernel
theorem dX5_make_8 : decode cX5_make 8 = .ok (.invokestatic 87, 3) := by decide +kernel
theorem dX5_make_11 : decode cX5_make 11 = .ok (.ifCond .ne 6, 3) := by decide +kernel
theorem dX5_make_14 : decode cX5_make 14 = .ok (.bipush (-2), 2) := by decide +kernel
theorem dX5_make_16 : decode cX5_make 16 = .ok (.ireturn, 1) := by decide +kernel
theorem dX5_make_17 : decode cX5_make 17 = .ok (.iload 5, 2) := by decide +kernel
theorem dX5_make_19 : decode cX5_make 19 = .ok (.ifCond .lt 32, 3) := by decide +kernel
theorem dX5_make_22 : decode cX5_make 22 = .ok (.iload 5, 2) := by decide +kernel
theorem dX5_make_24 : decode cX5_make 24 = .ok (.bipush 10, 2) := by decide +kernel
theorem dX5_make_26 : decode cX5_make 26 = .ok (.if_icmp .gt 25, 3) := by decide +kernel
theorem dX5_make_29 : decode cX5_make 29 = .ok (.iload 6, 2) := by decide +kernel
theorem dX5_make_31 : decode cX5_make 31 = .ok (.ifCond .lt 20, 3) := by decide +kernel
theorem dX5_make_34 : decode cX5_make 34 = .ok (.iload 6, 2) := by decide +kernel
theorem dX5_make_36 : decode cX5_make 36 = .ok (.bipush 10, 2) := by decide +kernel
theorem dX5_make_38 : decode cX5_make 38 = .ok (.if_icmp .gt 13, 3) := by decide +kernel
theorem dX5_make_41 : decode cX5_make 41 = .ok (.iload 5, 2) := by decide +kernel
theorem dX5_make_43 : decode cX5_make 43 = .ok (.iload 6, 2) := by decide +kernel
theorem dX5_make_45 : decode cX5_make 45 = .ok (.iadd, 1) := by decide +kernel
theorem dX5_make_46 : decode cX5_make 46 = .ok (.bipush 10, 2) := by decide +kernel
theorem dX5_make_48 : decode cX5_make 48 = .ok (.if_icmp .le 6, 3) := by decide +kernel
theorem dX5_make_51 : decode cX5_make 51 = .ok (.bipush (-2), 2) := by decide +kernel
theorem dX5_make_53 : decode cX5_make 53 = .ok (.ireturn, 1) := by decide +kernel
theorem dX5_make_54 : decode cX5_make 54 = .ok (.aload_n 0, 1) := by decide +kernel
theorem dX5_make_55 : decode cX5_make 55 = .ok (.getfield 19, 3) := by decide +kernel
theorem dX5_make_58 : decode cX5_make 58 = .ok (.iload_n 1, 1) := by decide +kernel
theorem dX5_make_59 : decode cX5_make 59 = .ok (.iload_n 2, 1) := by decide +kernel
theorem dX5_make_60 : decode cX5_make 60 = .ok (.invokevirtual 57, 3) := by decide +kernel
theorem dX5_make_63 : decode cX5_make 63 = .ok (.aload_n 0, 1) := by decide +kernel
theorem dX5_make_64 : decode cX5_make 64 = .ok (.getfield 19, 3) := by decide +kernel
theorem dX5_make_67 : decode cX5_make 67 = .ok (.lload_n 3, 1) := by decide +kernel
theorem dX5_make_68 : decode cX5_make 68 = .ok (.iload 5, 2) := by decide +kernel
theorem dX5_make_70 : decode cX5_make 70 = .ok (.iload 6, 2) := by decide +kernel
theorem dX5_make_72 : decode cX5_make 72 = .ok (.invokevirtual 90, 3) := by decide +kernel
theorem dX5_make_75 : decode cX5_make 75 = .ok (.aload_n 0, 1) := by decide +kernel
theorem dX5_make_76 : decode cX5_make 76 = .ok (.invokevirtual 61, 3) := by decide +kernel
theorem dX5_make_79 : decode cX5_make 79 = .ok (.aload_n 0, 1) := by decide +kernel
theorem dX5_make_80 : decode cX5_make 80 = .ok (.getfield 19, 3) := by decide +kernel
theorem dX5_make_83 : decode cX5_make 83 = .ok (.getfield 84, 3) := by decide +kernel
theorem dX5_make_86 : decode cX5_make 86 = .ok (.ireturn, 1) := by decide +kernel
set_option maxRecDepth 20000 in
theorem ggX5_point_X3_numberOf : GoodIn wsX5_point wsX3_numberOf := goodIn_r _ [5, 6, 7, 8, 3, 9, 10, 27, 28, 29, 30, 31, 32] (by decide +kernel) (by decide +kernel)
set_option maxRecDepth 20000 in
theorem gX5_point_X3_numberOf_n94 : GoodIn wsX5_point (wsX3_numberOf) := ggX5_point_X3_numberOf
set_option maxRecDepth 20000 in
theorem ggX5_point_X3_kindOf : GoodIn wsX5_point wsX3_kindOf := goodIn_r _ [13, 14, 15, 16, 17, 27, 28, 29, 30, 31, 32] (by decide +kernel) (by decide +kernel)
set_option maxRecDepth 20000 in
theorem gX5_point_X3_kindOf_n98 : GoodIn wsX5_point (wsX3_kindOf) := ggX5_point_X3_kindOf
theorem dX5_point_0 : decode cX5_point 0 = .ok (.aload_n 0, 1) := by decide +kernel
theorem dX5_point_1 : decode cX5_point 1 = .ok (.getfield 19, 3) := by decide +kernel
theorem dX5_point_4 : decode cX5_point 4 = .ok (.iload_n 1, 1) := by decide +kernel
theorem dX5_point_5 : decode cX5_point 5 = .ok (.invokevirtual 94, 3) := by decide +kernel
theorem dX5_point_8 : decode cX5_point 8 = .ok (.istore_n 2, 1) := by decide +kernel
theorem dX5_point_9 : decode cX5_point 9 = .ok (.iload_n 2, 1) := by decide +kernel
theorem dX5_point_10 : decode cX5_point 10 = .ok (.ifCond .ge 7, 3) := by decide +kernel
theorem dX5_point_13 : decode cX5_point 13 = .ok (.iconst (-1), 1) := by decide +kernel
theorem dX5_point_14 : decode cX5_point 14 = .ok (.goto 11, 3) := by decide +kernel
theorem dX5_point_17 : decode cX5_point 17 = .ok (.aload_n 0, 1) := by decide +kernel
theorem dX5_point_18 : decode cX5_point 18 = .ok (.getfield 19, 3) := by decide +kernel
theorem dX5_point_21 : decode cX5_point 21 = .ok (.iload_n 2, 1) := by decide +kernel
theorem dX5_point_22 : decode cX5_point 22 = .ok (.invokevirtual 98, 3) := by decide +kernel
theorem dX5_point_25 : decode cX5_point 25 = .ok (.ireturn, 1) := by decide +kernel
set_option maxRecDepth 20000 in
theorem ggX5_set_X3_numberOf : GoodIn wsX5_set wsX3_numberOf := goodIn_r _ [5, 6, 7, 8, 3, 9, 10, 131, 132, 133, 134, 135, 136] (by decide +kernel) (by decide +kernel)
set_option maxRecDepth 20000 in
theorem gX5_set_X3_numberOf_n94 : GoodIn wsX5_set (wsX3_numberOf) := ggX5_set_X3_numberOf
set_option maxRecDepth 20000 in
theorem ggX5_set_X3_kindOf : GoodIn wsX5_set wsX3_kindOf := goodIn_r _ [13, 14, 15, 16, 17, 131, 132, 133, 134, 135, 136] (by decide +kernel) (by decide +kernel)
set_option maxRecDepth 20000 in
theorem gX5_set_X3_kindOf_n98 : GoodIn wsX5_set (wsX3_kindOf) := ggX5_set_X3_kindOf
set_option maxRecDepth 20000 in
theorem ggX5_set_X3_put : GoodIn wsX5_set wsX3_put := goodIn_r _ [20, 14, 21, 16, 22, 131, 132, 133, 134, 135, 136] (by decide +kernel) (by decide +kernel)
set_option maxRecDepth 20000 in
theorem gX5_set_X3_put_n101 : GoodIn wsX5_set (wsX3_put) := ggX5_set_X3_put
set_option maxRecDepth 20000 in
theorem ggX5_set_X5_redraw : GoodIn wsX5_set wsX5_redraw := goodIn_r _ [26, 27, 1, 28, 29, 30, 31, 32, 33, 34, 35, 36, 37, 38, 39, 40, 41, 42, 43, 44, 45, 3, 46, 47, 48, 49, 50, 51, 52, 53, 54, 55, 56, 57, 58, 59, 60, 61, 6, 7, 8, 9, 10, 62, 11, 12, 13, 14, 15, 16, 17, 63, 64, 65, 66, 67, 68, 69, 70, 71, 72, 73, 74, 75, 76, 77, 78, 2, 4, 5, 79, 80, 81, 82, 83, 84, 85, 86, 87, 88, 89, 90, 91, 92, 93, 94, 95, 96, 97, 98, 99, 21, 22, 100, 101, 102, 103, 104, 105, 106, 107, 108, 109, 110, 111, 112, 113, 114, 115, 116, 117, 118, 119, 120, 121, 122, 123, 124, 125, 126, 127, 128, 129, 130, 137, 138, 139, 140, 141, 142, 143, 144, 145, 131, 132, 133, 134, 135, 136, 146, 147, 148, 149, 150, 151, 152, 153] (by decide +kernel) (by decide +kernel)
set_option maxRecDepth 20000 in
theorem gX5_set_X5_redraw : GoodIn wsX5_set (wsV RX5 61 RX5 yX5_redraw wsX5_redraw) := goodIn_app (goodIn_of _ (by decide +kernel)) ggX5_set_X5_redraw
theorem dX5_set_0 : decode cX5_set 0 = .ok (.aload_n 0, 1) := by decide +kernel
theorem dX5_set_1 : decode cX5_set 1 = .ok (.getfield 19, 3) := by decide +kernel
theorem dX5_set_4 : decode cX5_set 4 = .ok (.iload_n 1, 1) := by decide +kernel
theorem dX5_set_5 : decode cX5_set 5 = .ok (.invokevirtual 94, 3) := by decide +kernel
theorem dX5_set_8 : decode cX5_set 8 = .ok (.istore_n 3, 1) := by decide +kernel
theorem dX5_set_9 : decode cX5_set 9 = .ok (.iload_n 3, 1) := by decide +kernel
theorem dX5_set_10 : decode cX5_set 10 = .ok (.ifCond .ge 5, 3) := by decide +kernel
theorem dX5_set_13 : decode cX5_set 13 = .ok (.iconst (-1), 1) := by decide +kernel
theorem dX5_set_14 : decode cX5_set 14 = .ok (.ireturn, 1) := by decide +kernel
theorem dX5_set_15 : decode cX5_set 15 = .ok (.iload_n 2, 1) := by decide +kernel
theorem dX5_set_16 : decode cX5_set 16 = .ok (.ifCond .lt 8, 3) := by decide +kernel
theorem dX5_set_19 : decode cX5_set 19 = .ok (.iload_n 2, 1) := by decide +kernel
theorem dX5_set_20 : decode cX5_set 20 = .ok (.iconst 3, 1) := by decide +kernel
theorem dX5_set_21 : decode cX5_set 21 = .ok (.if_icmp .le 6, 3) := by decide +kernel
theorem dX5_set_24 : decode cX5_set 24 = .ok (.bipush (-2), 2) := by decide +kernel
theorem dX5_set_26 : decode cX5_set 26 = .ok (.ireturn, 1) := by decide +kernel
theorem dX5_set_27 : decode cX5_set 27 = .ok (.aload_n 0, 1) := by decide +kernel
theorem dX5_set_28 : decode cX5_set 28 = .ok (.getfield 19, 3) := by decide +kernel
theorem dX5_set_31 : decode cX5_set 31 = .ok (.iload_n 3, 1) := by decide +kernel
theorem dX5_set_32 : decode cX5_set 32 = .ok (.invokevirtual 98, 3) := by decide +kernel
theorem dX5_set_35 : decode cX5_set 35 = .ok (.istore 4, 2) := by decide +kernel
theorem dX5_set_37 : decode cX5_set 37 = .ok (.aload_n 0, 1) := by decide +kernel
theorem dX5_set_38 : decode cX5_set 38 = .ok (.getfield 19, 3) := by decide +kernel
theorem dX5_set_41 : decode cX5_set 41 = .ok (.iload_n 3, 1) := by decide +kernel
theorem dX5_set_42 : decode cX5_set 42 = .ok (.iload_n 2, 1) := by decide +kernel
theorem dX5_set_43 : decode cX5_set 43 = .ok (.invokevirtual 101, 3) := by decide +kernel
theorem dX5_set_46 : decode cX5_set 46 = .ok (.aload_n 0, 1) := by decide +kernel
theorem dX5_set_47 : decode cX5_set 47 = .ok (.invokevirtual 61, 3) := by decide +kernel
theorem dX5_set_50 : decode cX5_set 50 = .ok (.iload 4, 2) := by decide +kernel
theorem dX5_set_52 : decode cX5_set 52 = .ok (.ireturn, 1) := by decide +kernel
set_option maxRecDepth 20000 in
theorem ggX5_about_X3_countCrossings : GoodIn wsX5_about wsX3_countCrossings := goodIn_r _ [8, 9, 10, 11, 6, 12, 13, 14, 15, 16, 17, 18, 19, 20, 21, 35, 36, 37, 38, 39, 40] (by decide +kernel) (by decide +kernel)
set_option maxRecDepth 20000 in
theorem gX5_about_X3_countCrossings_n110 : GoodIn wsX5_about (wsX3_countCrossings) := ggX5_about_X3_countCrossings
set_option maxRecDepth 20000 in
theorem ggX5_about_X3_countKind : GoodIn wsX5_about wsX3_countKind := goodIn_r _ [12, 13, 14, 15, 16, 6, 17, 18, 19, 20, 21, 35, 36, 37, 38, 39, 40] (by decide +kernel) (by decide +kernel)
set_option maxRecDepth 20000 in
theorem gX5_about_X3_countKind_n114 : GoodIn wsX5_about (wsX3_countKind) := ggX5_about_X3_countKind
set_option maxRecDepth 20000 in
theorem ggX5_about_X5_parts : GoodIn wsX5_about wsX5_parts := goodIn_r _ [25, 2, 3, 26, 27, 28, 29, 30, 31, 32, 33, 34, 41, 42, 43, 44, 45, 46, 47, 48, 49, 50, 51, 52, 53, 54, 55, 56, 57] (by decide +kernel) (by decide +kernel)
set_option maxRecDepth 20000 in
theorem gX5_about_X5_parts : GoodIn wsX5_about (wsV RX5 120 RX5 yX5_parts wsX5_parts) := goodIn_app (goodIn_of _ (by decide +kernel)) ggX5_about_X5_parts
theorem dX5_about_0 : decode cX5_about 0 = .ok (.iload_n 1, 1) := by decide +kernel
theorem dX5_about_1 : decode cX5_about 1 = .ok (.tableswitch 188 0 12 #[67, 75, 83, 101, 109, 117, 126, 135, 144, 152, 157, 172, 180], 67) := by decide +kernel
theorem dX5_about_68 : decode cX5_about 68 = .ok (.aload_n 0, 1) := by decide +kernel
theorem dX5_about_69 : decode cX5_about 69 = .ok (.getfield 19, 3) := by decide +kernel
theorem dX5_about_72 : decode cX5_about 72 = .ok (.getfield 104, 3) := by decide +kernel
theorem dX5_about_75 : decode cX5_about 75 = .ok (.ireturn, 1) := by decide +kernel
theorem dX5_about_76 : decode cX5_about 76 = .ok (.aload_n 0, 1) := by decide +kernel
theorem dX5_about_77 : decode cX5_about 77 = .ok (.getfield 19, 3) := by decide +kernel
theorem dX5_about_80 : decode cX5_about 80 = .ok (.getfield 107, 3) := by decide +kernel
theorem dX5_about_83 : decode cX5_about 83 = .ok (.ireturn, 1) := by decide +kernel
theorem dX5_about_84 : decode cX5_about 84 = .ok (.iconst 4, 1) := by decide +kernel
theorem dX5_about_85 : decode cX5_about 85 = .ok (.aload_n 0, 1) := by decide +kernel
theorem dX5_about_86 : decode cX5_about 86 = .ok (.getfield 19, 3) := by decide +kernel
theorem dX5_about_89 : decode cX5_about 89 = .ok (.getfield 104, 3) := by decide +kernel
theorem dX5_about_92 : decode cX5_about 92 = .ok (.imul, 1) := by decide +kernel
theorem dX5_about_93 : decode cX5_about 93 = .ok (.aload_n 0, 1) := by decide +kernel
theorem dX5_about_94 : decode cX5_about 94 = .ok (.getfield 19, 3) := by decide +kernel
theorem dX5_about_97 : decode cX5_about 97 = .ok (.getfield 107, 3) := by decide +kernel
theorem dX5_about_100 : decode cX5_about 100 = .ok (.imul, 1) := by decide +kernel
theorem dX5_about_101 : decode cX5_about 101 = .ok (.ireturn, 1) := by decide +kernel
theorem dX5_about_102 : decode cX5_about 102 = .ok (.aload_n 0, 1) := by decide +kernel
theorem dX5_about_103 : decode cX5_about 103 = .ok (.getfield 19, 3) := by decide +kernel
theorem dX5_about_106 : decode cX5_about 106 = .ok (.getfield 84, 3) := by decide +kernel
theorem dX5_about_109 : decode cX5_about 109 = .ok (.ireturn, 1) := by decide +kernel
theorem dX5_about_110 : decode cX5_about 110 = .ok (.aload_n 0, 1) := by decide +kernel
theorem dX5_about_111 : decode cX5_about 111 = .ok (.getfield 19, 3) := by decide +kernel
theorem dX5_about_114 : decode cX5_about 114 = .ok (.invokevirtual 110, 3) := by decide +kernel
theorem dX5_about_117 : decode cX5_about 117 = .ok (.ireturn, 1) := by decide +kernel
theorem dX5_about_118 : decode cX5_about 118 = .ok (.aload_n 0, 1) := by decide +kernel
theorem dX5_about_119 : decode cX5_about 119 = .ok (.getfield 19, 3) := by decide +kernel
theorem dX5_about_122 : decode cX5_about 122 = .ok (.iconst 1, 1) := by decide +kernel
theorem dX5_about_123 : decode cX5_about 123 = .ok (.invokevirtual 114, 3) := by decide +kernel
theorem dX5_about_126 : decode cX5_about 126 = .ok (.ireturn, 1) := by decide +kernel
theorem dX5_about_127 : decode cX5_about 127 = .ok (.aload_n 0, 1) := by decide +kernel
theorem dX5_about_128 : decode cX5_about 128 = .ok (.getfield 19, 3) := by decide +kernel
theorem dX5_about_131 : decode cX5_about 131 = .ok (.iconst 2, 1) := by decide +kernel
theorem dX5_about_132 : decode cX5_about 132 = .ok (.invokevirtual 114, 3) := by decide +kernel
theorem dX5_about_135 : decode cX5_about 135 = .ok (.ireturn, 1) := by decide +kernel
theorem dX5_about_136 : decode cX5_about 136 = .ok (.aload_n 0, 1) := by decide +kernel
theorem dX5_about_137 : decode cX5_about 137 = .ok (.getfield 19, 3) := by decide +kernel
theorem dX5_about_140 : decode cX5_about 140 = .ok (.iconst 3, 1) := by decide +kernel
theorem dX5_about_141 : decode cX5_about 141 = .ok (.invokevirtual 114, 3) := by decide +kernel
theorem dX5_about_144 : decode cX5_about 144 = .ok (.ireturn, 1) := by decide +kernel
theorem dX5_about_145 : decode cX5_about 145 = .ok (.aload_n 0, 1) := by decide +kernel
theorem dX5_about_146 : decode cX5_about 146 = .ok (.getfield 26, 3) := by decide +kernel
theorem dX5_about_149 : decode cX5_about 149 = .ok (.getfield 117, 3) := by decide +kernel
theorem dX5_about_152 : decode cX5_about 152 = .ok (.ireturn, 1) := by decide +kernel
theorem dX5_about_153 : decode cX5_about 153 = .ok (.aload_n 0, 1) := by decide +kernel
theorem dX5_about_154 : decode cX5_about 154 = .ok (.invokevirtual 120, 3) := by decide +kernel
theorem dX5_about_157 : decode cX5_about 157 = .ok (.ireturn, 1) := by decide +kernel
theorem dX5_about_158 : decode cX5_about 158 = .ok (.aload_n 0, 1) := by decide +kernel
theorem dX5_about_159 : decode cX5_about 159 = .ok (.getfield 19, 3) := by decide +kernel
theorem dX5_about_162 : decode cX5_about 162 = .ok (.invokevirtual 110, 3) := by decide +kernel
theorem dX5_about_165 : decode cX5_about 165 = .ok (.iconst 1, 1) := by decide +kernel
theorem dX5_about_166 : decode cX5_about 166 = .ok (.iadd, 1) := by decide +kernel
theorem dX5_about_167 : decode cX5_about 167 = .ok (.aload_n 0, 1) := by decide +kernel
theorem dX5_about_168 : decode cX5_about 168 = .ok (.invokevirtual 120, 3) := by decide +kernel
theorem dX5_about_171 : decode cX5_about 171 = .ok (.iadd, 1) := by decide +kernel
theorem dX5_about_172 : decode cX5_about 172 = .ok (.ireturn, 1) := by decide +kernel
theorem dX5_about_173 : decode cX5_about 173 = .ok (.aload_n 0, 1) := by decide +kernel
theorem dX5_about_174 : decode cX5_about 174 = .ok (.getfield 33, 3) := by decide +kernel
theorem dX5_about_177 : decode cX5_about 177 = .ok (.getfield 123, 3) := by decide +kernel
theorem dX5_about_180 : decode cX5_about 180 = .ok (.ireturn, 1) := by decide +kernel
theorem dX5_about_181 : decode cX5_about 181 = .ok (.aload_n 0, 1) := by decide +kernel
theorem dX5_about_182 : decode cX5_about 182 = .ok (.getfield 12, 3) := by decide +kernel
theorem dX5_about_185 : decode cX5_about 185 = .ok (.getfield 72, 3) := by decide +kernel
theorem dX5_about_188 : decode cX5_about 188 = .ok (.ireturn, 1) := by decide +kernel
theorem dX5_about_189 : decode cX5_about 189 = .ok (.bipush (-2), 2) := by decide +kernel
theorem dX5_about_191 : decode cX5_about 191 = .ok (.ireturn, 1) := by decide +kernel
set_option maxRecDepth 20000 in
theorem ggX5_loop_X2_ownerOf : GoodIn wsX5_loop wsX2_ownerOf := goodIn_r _ [5, 6, 16, 17, 18, 19, 20, 21, 22, 23, 24] (by decide +kernel) (by decide +kernel)
set_option maxRecDepth 20000 in
theorem gX5_loop_X2_ownerOf_n126 : GoodIn wsX5_loop (wsX2_ownerOf) := ggX5_loop_X2_ownerOf
theorem dX5_loop_0 : decode cX5_loop 0 = .ok (.aload_n 0, 1) := by decide +kernel
theorem dX5_loop_1 : decode cX5_loop 1 = .ok (.getfield 26, 3) := by decide +kernel
theorem dX5_loop_4 : decode cX5_loop 4 = .ok (.iload_n 1, 1) := by decide +kernel
theorem dX5_loop_5 : decode cX5_loop 5 = .ok (.invokevirtual 126, 3) := by decide +kernel
theorem dX5_loop_8 : decode cX5_loop 8 = .ok (.istore_n 2, 1) := by decide +kernel
theorem dX5_loop_9 : decode cX5_loop 9 = .ok (.iload_n 2, 1) := by decide +kernel
theorem dX5_loop_10 : decode cX5_loop 10 = .ok (.ifCond .ge 7, 3) := by decide +kernel
theorem dX5_loop_13 : decode cX5_loop 13 = .ok (.iconst (-1), 1) := by decide +kernel
theorem dX5_loop_14 : decode cX5_loop 14 = .ok (.goto 4, 3) := by decide +kernel
theorem dX5_loop_17 : decode cX5_loop 17 = .ok (.iload_n 2, 1) := by decide +kernel
theorem dX5_loop_18 : decode cX5_loop 18 = .ok (.ireturn, 1) := by decide +kernel
set_option maxRecDepth 20000 in
theorem ggX5_along_X2_has : GoodIn wsX5_along wsX2_has := goodIn_r _ [6, 7, 80, 81, 82, 83, 84, 85, 86, 87, 88] (by decide +kernel) (by decide +kernel)
set_option maxRecDepth 20000 in
theorem gX5_along_X2_has_n129 : GoodIn wsX5_along (wsX2_has) := ggX5_along_X2_has
set_option maxRecDepth 20000 in
theorem ggX5_along_X2_firstStep : GoodIn wsX5_along wsX2_firstStep := goodIn_r _ [10, 11, 12, 13, 14, 15, 80, 81, 82, 83, 84, 85, 86, 87, 88] (by decide +kernel) (by decide +kernel)
set_option maxRecDepth 20000 in
theorem gX5_along_X2_firstStep_n132 : GoodIn wsX5_along (wsX2_firstStep) := ggX5_along_X2_firstStep
set_option maxRecDepth 20000 in
theorem ggX5_along_X2_cellAt : GoodIn wsX5_along wsX2_cellAt := goodIn_r _ [18, 19, 20, 14, 21, 80, 81, 82, 83, 84, 85, 86, 87, 88] (by decide +kernel) (by decide +kernel)
set_option maxRecDepth 20000 in
theorem gX5_along_X2_cellAt_n135 : GoodIn wsX5_along (wsX2_cellAt) := ggX5_along_X2_cellAt
set_option maxRecDepth 20000 in
theorem ggX5_along_X2_lengthOf : GoodIn wsX5_along wsX2_lengthOf := goodIn_r _ [24, 25, 8, 9, 4, 10, 11, 12, 13, 14, 15, 80, 81, 82, 83, 84, 85, 86, 87, 88] (by decide +kernel) (by decide +kernel)
set_option maxRecDepth 20000 in
theorem gX5_along_X2_lengthOf_n138 : GoodIn wsX5_along (wsX2_lengthOf) := ggX5_along_X2_lengthOf
set_option maxRecDepth 20000 in
theorem ggX5_along_X1_countBends : GoodIn wsX5_along wsX1_countBends := goodIn_r _ [29, 30, 31, 32, 27, 33, 34, 8, 4, 9, 10, 11, 12, 13, 14, 15, 89, 90, 91, 92, 93, 94, 95, 96, 80, 81, 82, 83, 84, 85, 86, 87, 88] (by decide +kernel) (by decide +kernel)
set_option maxRecDepth 20000 in
theorem gX5_along_X1_countBends_n141 : GoodIn wsX5_along (wsX1_countBends) := ggX5_along_X1_countBends
set_option maxRecDepth 20000 in
theorem ggX5_along_X1_countShared : GoodIn wsX5_along wsX1_countShared := goodIn_r _ [37, 38, 39, 40, 27, 41, 42, 43, 44, 45, 46, 47, 48, 49, 50, 20, 14, 21, 51, 4, 52, 53, 54, 55, 56, 57, 58, 59, 60, 61, 62, 63, 89, 90, 91, 92, 93, 94, 95, 96, 80, 81, 82, 83, 84, 85, 86, 87, 88] (by decide +kernel) (by decide +kernel)
set_option maxRecDepth 20000 in
theorem gX5_along_X1_countShared_n145 : GoodIn wsX5_along (wsX1_countShared) := ggX5_along_X1_countShared
set_option maxRecDepth 20000 in
theorem ggX5_along_X1_countUneven : GoodIn wsX5_along wsX1_countUneven := goodIn_r _ [66, 34, 67, 68, 69, 27, 70, 8, 4, 9, 10, 11, 12, 13, 14, 15, 89, 90, 91, 92, 93, 94, 95, 96, 80, 81, 82, 83, 84, 85, 86, 87, 88] (by decide +kernel) (by decide +kernel)
set_option maxRecDepth 20000 in
theorem gX5_along_X1_countUneven_n149 : GoodIn wsX5_along (wsX1_countUneven) := ggX5_along_X1_countUneven
theorem dX5_along_0 : decode cX5_along 0 = .ok (.aload_n 0, 1) := by decide +kernel
theorem dX5_along_1 : decode cX5_along 1 = .ok (.getfield 26, 3) := by decide +kernel
theorem dX5_along_4 : decode cX5_along 4 = .ok (.iload_n 1, 1) := by decide +kernel
theorem dX5_along_5 : decode cX5_along 5 = .ok (.invokevirtual 129, 3) := by decide +kernel
theorem dX5_along_8 : decode cX5_along 8 = .ok (.ifCond .ne 5, 3) := by decide +kernel
theorem dX5_along_11 : decode cX5_along 11 = .ok (.iconst (-1), 1) := by decide +kernel
theorem dX5_along_12 : decode cX5_along 12 = .ok (.ireturn, 1) := by decide +kernel
theorem dX5_along_13 : decode cX5_along 13 = .ok (.iload_n 2, 1) := by decide +kernel
theorem dX5_along_14 : decode cX5_along 14 = .ok (.tableswitch 125 0 5 #[38, 54, 63, 76, 98, 112], 38) := by decide +kernel
theorem dX5_along_52 : decode cX5_along 52 = .ok (.aload_n 0, 1) := by decide +kernel
theorem dX5_along_53 : decode cX5_along 53 = .ok (.getfield 26, 3) := by decide +kernel
theorem dX5_along_56 : decode cX5_along 56 = .ok (.aload_n 0, 1) := by decide +kernel
theorem dX5_along_57 : decode cX5_along 57 = .ok (.getfield 26, 3) := by decide +kernel
theorem dX5_along_60 : decode cX5_along 60 = .ok (.iload_n 1, 1) := by decide +kernel
theorem dX5_along_61 : decode cX5_along 61 = .ok (.invokevirtual 132, 3) := by decide +kernel
theorem dX5_along_64 : decode cX5_along 64 = .ok (.invokevirtual 135, 3) := by decide +kernel
theorem dX5_along_67 : decode cX5_along 67 = .ok (.ireturn, 1) := by decide +kernel
theorem dX5_along_68 : decode cX5_along 68 = .ok (.aload_n 0, 1) := by decide +kernel
theorem dX5_along_69 : decode cX5_along 69 = .ok (.getfield 26, 3) := by decide +kernel
theorem dX5_along_72 : decode cX5_along 72 = .ok (.iload_n 1, 1) := by decide +kernel
theorem dX5_along_73 : decode cX5_along 73 = .ok (.invokevirtual 138, 3) := by decide +kernel
theorem dX5_along_76 : decode cX5_along 76 = .ok (.ireturn, 1) := by decide +kernel
theorem dX5_along_77 : decode cX5_along 77 = .ok (.aload_n 0, 1) := by decide +kernel
theorem dX5_along_78 : decode cX5_along 78 = .ok (.getfield 33, 3) := by decide +kernel
theorem dX5_along_81 : decode cX5_along 81 = .ok (.aload_n 0, 1) := by decide +kernel
theorem dX5_along_82 : decode cX5_along 82 = .ok (.getfield 26, 3) := by decide +kernel
theorem dX5_along_85 : decode cX5_along 85 = .ok (.iload_n 1, 1) := by decide +kernel
theorem dX5_along_86 : decode cX5_along 86 = .ok (.invokevirtual 141, 3) := by decide +kernel
theorem dX5_along_89 : decode cX5_along 89 = .ok (.ireturn, 1) := by decide +kernel
theorem dX5_along_90 : decode cX5_along 90 = .ok (.aload_n 0, 1) := by decide +kernel
theorem dX5_along_91 : decode cX5_along 91 = .ok (.getfield 26, 3) := by decide +kernel
theorem dX5_along_94 : decode cX5_along 94 = .ok (.iload_n 1, 1) := by decide +kernel
theorem dX5_along_95 : decode cX5_along 95 = .ok (.invokevirtual 138, 3) := by decide +kernel
theorem dX5_along_98 : decode cX5_along 98 = .ok (.aload_n 0, 1) := by decide +kernel
theorem dX5_along_99 : decode cX5_along 99 = .ok (.getfield 33, 3) := by decide +kernel
theorem dX5_along_102 : decode cX5_along 102 = .ok (.aload_n 0, 1) := by decide +kernel
theorem dX5_along_103 : decode cX5_along 103 = .ok (.getfield 26, 3) := by decide +kernel
theorem dX5_along_106 : decode cX5_along 106 = .ok (.iload_n 1, 1) := by decide +kernel
theorem dX5_along_107 : decode cX5_along 107 = .ok (.invokevirtual 141, 3) := by decide +kernel
theorem dX5_along_110 : decode cX5_along 110 = .ok (.isub, 1) := by decide +kernel
theorem dX5_along_111 : decode cX5_along 111 = .ok (.ireturn, 1) := by decide +kernel
theorem dX5_along_112 : decode cX5_along 112 = .ok (.aload_n 0, 1) := by decide +kernel
theorem dX5_along_113 : decode cX5_along 113 = .ok (.getfield 33, 3) := by decide +kernel
theorem dX5_along_116 : decode cX5_along 116 = .ok (.aload_n 0, 1) := by decide +kernel
theorem dX5_along_117 : decode cX5_along 117 = .ok (.getfield 26, 3) := by decide +kernel
theorem dX5_along_120 : decode cX5_along 120 = .ok (.iload_n 1, 1) := by decide +kernel
theorem dX5_along_121 : decode cX5_along 121 = .ok (.iload_n 1, 1) := by decide +kernel
theorem dX5_along_122 : decode cX5_along 122 = .ok (.invokevirtual 145, 3) := by decide +kernel
theorem dX5_along_125 : decode cX5_along 125 = .ok (.ireturn, 1) := by decide +kernel
theorem dX5_along_126 : decode cX5_along 126 = .ok (.aload_n 0, 1) := by decide +kernel
theorem dX5_along_127 : decode cX5_along 127 = .ok (.getfield 33, 3) := by decide +kernel
theorem dX5_along_130 : decode cX5_along 130 = .ok (.aload_n 0, 1) := by decide +kernel
theorem dX5_along_131 : decode cX5_along 131 = .ok (.getfield 26, 3) := by decide +kernel
theorem dX5_along_134 : decode cX5_along 134 = .ok (.iload_n 1, 1) := by decide +kernel
theorem dX5_along_135 : decode cX5_along 135 = .ok (.invokevirtual 149, 3) := by decide +kernel
theorem dX5_along_138 : decode cX5_along 138 = .ok (.ireturn, 1) := by decide +kernel
theorem dX5_along_139 : decode cX5_along 139 = .ok (.bipush (-2), 2) := by decide +kernel
theorem dX5_along_141 : decode cX5_along 141 = .ok (.ireturn, 1) := by decide +kernel
set_option maxRecDepth 20000 in
theorem ggX5_step_X2_has : GoodIn wsX5_step wsX2_has := goodIn_r _ [5, 6, 38, 39, 40, 41, 42, 43, 44, 45, 46] (by decide +kernel) (by decide +kernel)
set_option maxRecDepth 20000 in
theorem gX5_step_X2_has_n129 : GoodIn wsX5_step (wsX2_has) := ggX5_step_X2_has
set_option maxRecDepth 20000 in
theorem ggX5_step_X2_stepBehind : GoodIn wsX5_step wsX2_stepBehind := goodIn_r _ [9, 10, 11, 12, 3, 13, 14, 15, 16, 17, 18, 19, 20, 21, 22, 38, 39, 40, 41, 42, 43, 44, 45, 46] (by decide +kernel) (by decide +kernel)
set_option maxRecDepth 20000 in
theorem gX5_step_X2_stepBehind_n152 : GoodIn wsX5_step (wsX2_stepBehind) := ggX5_step_X2_stepBehind
set_option maxRecDepth 20000 in
theorem ggX5_step_X2_cellAt : GoodIn wsX5_step wsX2_cellAt := goodIn_r _ [25, 26, 27, 21, 28, 38, 39, 40, 41, 42, 43, 44, 45, 46] (by decide +kernel) (by decide +kernel)
set_option maxRecDepth 20000 in
theorem gX5_step_X2_cellAt_n135 : GoodIn wsX5_step (wsX2_cellAt) := ggX5_step_X2_cellAt
theorem dX5_step_0 : decode cX5_step 0 = .ok (.aload_n 0, 1) := by decide +kernel
theorem dX5_step_1 : decode cX5_step 1 = .ok (.getfield 26, 3) := by decide +kernel
theorem dX5_step_4 : decode cX5_step 4 = .ok (.iload_n 1, 1) := by decide +kernel
theorem dX5_step_5 : decode cX5_step 5 = .ok (.invokevirtual 129, 3) := by decide +kernel
theorem dX5_step_8 : decode cX5_step 8 = .ok (.ifCond .ne 5, 3) := by decide +kernel
theorem dX5_step_11 : decode cX5_step 11 = .ok (.iconst (-1), 1) := by decide +kernel
theorem dX5_step_12 : decode cX5_step 12 = .ok (.ireturn, 1) := by decide +kernel
theorem dX5_step_13 : decode cX5_step 13 = .ok (.iload_n 2, 1) := by decide +kernel
theorem dX5_step_14 : decode cX5_step 14 = .ok (.ifCond .lt 10, 3) := by decide +kernel
theorem dX5_step_17 : decode cX5_step 17 = .ok (.iload_n 2, 1) := by decide +kernel
theorem dX5_step_18 : decode cX5_step 18 = .ok (.sipush 9999, 3) := by decide +kernel
theorem dX5_step_21 : decode cX5_step 21 = .ok (.if_icmp .le 6, 3) := by decide +kernel
theorem dX5_step_24 : decode cX5_step 24 = .ok (.bipush (-2), 2) := by decide +kernel
theorem dX5_step_26 : decode cX5_step 26 = .ok (.ireturn, 1) := by decide +kernel
theorem dX5_step_27 : decode cX5_step 27 = .ok (.aload_n 0, 1) := by decide +kernel
theorem dX5_step_28 : decode cX5_step 28 = .ok (.getfield 26, 3) := by decide +kernel
theorem dX5_step_31 : decode cX5_step 31 = .ok (.aload_n 0, 1) := by decide +kernel
theorem dX5_step_32 : decode cX5_step 32 = .ok (.getfield 26, 3) := by decide +kernel
theorem dX5_step_35 : decode cX5_step 35 = .ok (.iload_n 1, 1) := by decide +kernel
theorem dX5_step_36 : decode cX5_step 36 = .ok (.iload_n 2, 1) := by decide +kernel
theorem dX5_step_37 : decode cX5_step 37 = .ok (.invokevirtual 152, 3) := by decide +kernel
theorem dX5_step_40 : decode cX5_step 40 = .ok (.invokevirtual 135, 3) := by decide +kernel
theorem dX5_step_43 : decode cX5_step 43 = .ok (.ireturn, 1) := by decide +kernel
set_option maxRecDepth 20000 in
theorem ggX5_end_X2_has : GoodIn wsX5_end wsX2_has := goodIn_r _ [5, 6, 38, 39, 40, 41, 42, 43, 44, 45, 46] (by decide +kernel) (by decide +kernel)
set_option maxRecDepth 20000 in
theorem gX5_end_X2_has_n129 : GoodIn wsX5_end (wsX2_has) := ggX5_end_X2_has
set_option maxRecDepth 20000 in
theorem ggX5_end_X2_stepBehind : GoodIn wsX5_end wsX2_stepBehind := goodIn_r _ [9, 10, 11, 12, 3, 13, 14, 15, 16, 17, 18, 19, 20, 21, 22, 38, 39, 40, 41, 42, 43, 44, 45, 46] (by decide +kernel) (by decide +kernel)
set_option maxRecDepth 20000 in
theorem gX5_end_X2_stepBehind_n152 : GoodIn wsX5_end (wsX2_stepBehind) := ggX5_end_X2_stepBehind
set_option maxRecDepth 20000 in
theorem ggX5_end_X2_endAt : GoodIn wsX5_end wsX2_endAt := goodIn_r _ [25, 26, 27, 21, 28, 38, 39, 40, 41, 42, 43, 44, 45, 46] (by decide +kernel) (by decide +kernel)
set_option maxRecDepth 20000 in
theorem gX5_end_X2_endAt_n156 : GoodIn wsX5_end (wsX2_endAt) := ggX5_end_X2_endAt
theorem dX5_end_0 : decode cX5_end 0 = .ok (.aload_n 0, 1) := by decide +kernel
theorem dX5_end_1 : decode cX5_end 1 = .ok (.getfield 26, 3) := by decide +kernel
theorem dX5_end_4 : decode cX5_end 4 = .ok (.iload_n 1, 1) := by decide +kernel
theorem dX5_end_5 : decode cX5_end 5 = .ok (.invokevirtual 129, 3) := by decide +kernel
theorem dX5_end_8 : decode cX5_end 8 = .ok (.ifCond .ne 5, 3) := by decide +kernel
theorem dX5_end_11 : decode cX5_end 11 = .ok (.iconst (-1), 1) := by decide +kernel
theorem dX5_end_12 : decode cX5_end 12 = .ok (.ireturn, 1) := by decide +kernel
theorem dX5_end_13 : decode cX5_end 13 = .ok (.iload_n 2, 1) := by decide +kernel
theorem dX5_end_14 : decode cX5_end 14 = .ok (.ifCond .lt 10, 3) := by decide +kernel
theorem dX5_end_17 : decode cX5_end 17 = .ok (.iload_n 2, 1) := by decide +kernel
theorem dX5_end_18 : decode cX5_end 18 = .ok (.sipush 9999, 3) := by decide +kernel
theorem dX5_end_21 : decode cX5_end 21 = .ok (.if_icmp .le 6, 3) := by decide +kernel
theorem dX5_end_24 : decode cX5_end 24 = .ok (.bipush (-2), 2) := by decide +kernel
theorem dX5_end_26 : decode cX5_end 26 = .ok (.ireturn, 1) := by decide +kernel
theorem dX5_end_27 : decode cX5_end 27 = .ok (.aload_n 0, 1) := by decide +kernel
theorem dX5_end_28 : decode cX5_end 28 = .ok (.getfield 26, 3) := by decide +kernel
theorem dX5_end_31 : decode cX5_end 31 = .ok (.aload_n 0, 1) := by decide +kernel
theorem dX5_end_32 : decode cX5_end 32 = .ok (.getfield 26, 3) := by decide +kernel
theorem dX5_end_35 : decode cX5_end 35 = .ok (.iload_n 1, 1) := by decide +kernel
theorem dX5_end_36 : decode cX5_end 36 = .ok (.iload_n 2, 1) := by decide +kernel
theorem dX5_end_37 : decode cX5_end 37 = .ok (.invokevirtual 152, 3) := by decide +kernel
theorem dX5_end_40 : decode cX5_end 40 = .ok (.invokevirtual 156, 3) := by decide +kernel
theorem dX5_end_43 : decode cX5_end 43 = .ok (.ireturn, 1) := by decide +kernel
set_option maxRecDepth 20000 in
theorem ggX5_between_X2_has : GoodIn wsX5_between wsX2_has := goodIn_r _ [6, 7, 50, 51, 52, 53, 54, 55, 56, 57, 58] (by decide +kernel) (by decide +kernel)
set_option maxRecDepth 20000 in
theorem gX5_between_X2_has_n129 : GoodIn wsX5_between (wsX2_has) := ggX5_between_X2_has
set_option maxRecDepth 20000 in
theorem ggX5_between_X1_countShared : GoodIn wsX5_between wsX1_countShared := goodIn_r _ [11, 12, 13, 14, 9, 15, 16, 17, 18, 19, 20, 21, 22, 23, 24, 25, 26, 27, 28, 4, 29, 30, 31, 32, 33, 34, 35, 36, 37, 38, 39, 40, 59, 60, 61, 62, 63, 64, 65, 66, 50, 51, 52, 53, 54, 55, 56, 57, 58] (by decide +kernel) (by decide +kernel)
set_option maxRecDepth 20000 in
theorem gX5_between_X1_countShared_n145 : GoodIn wsX5_between (wsX1_countShared) := ggX5_between_X1_countShared
theorem dX5_between_0 : decode cX5_between 0 = .ok (.aload_n 0, 1) := by decide +kernel
theorem dX5_between_1 : decode cX5_between 1 = .ok (.getfield 26, 3) := by decide +kernel
theorem dX5_between_4 : decode cX5_between 4 = .ok (.iload_n 1, 1) := by decide +kernel
theorem dX5_between_5 : decode cX5_between 5 = .ok (.invokevirtual 129, 3) := by decide +kernel
theorem dX5_between_8 : decode cX5_between 8 = .ok (.ifCond .eq 14, 3) := by decide +kernel
theorem dX5_between_11 : decode cX5_between 11 = .ok (.aload_n 0, 1) := by decide +kernel
theorem dX5_between_12 : decode cX5_between 12 = .ok (.getfield 26, 3) := by decide +kernel
theorem dX5_between_15 : decode cX5_between 15 = .ok (.iload_n 2, 1) := by decide +kernel
theorem dX5_between_16 : decode cX5_between 16 = .ok (.invokevirtual 129, 3) := by decide +kernel
theorem dX5_between_19 : decode cX5_between 19 = .ok (.ifCond .ne 5, 3) := by decide +kernel
theorem dX5_between_22 : decode cX5_between 22 = .ok (.iconst (-1), 1) := by decide +kernel
theorem dX5_between_23 : decode cX5_between 23 = .ok (.ireturn, 1) := by decide +kernel
theorem dX5_between_24 : decode cX5_between 24 = .ok (.aload_n 0, 1) := by decide +kernel
theorem dX5_between_25 : decode cX5_between 25 = .ok (.getfield 33, 3) := by decide +kernel
theorem dX5_between_28 : decode cX5_between 28 = .ok (.aload_n 0, 1) := by decide +kernel
theorem dX5_between_29 : decode cX5_between 29 = .ok (.getfield 26, 3) := by decide +kernel
theorem dX5_between_32 : decode cX5_between 32 = .ok (.iload_n 1, 1) := by decide +kernel
theorem dX5_between_33 : decode cX5_between 33 = .ok (.iload_n 2, 1) := by decide +kernel
theorem dX5_between_34 : decode cX5_between 34 = .ok (.invokevirtual 145, 3) := by decide +kernel
theorem dX5_between_37 : decode cX5_between 37 = .ok (.ireturn, 1) := by decide +kernel
set_option maxRecDepth 20000 in
theorem ggX5_which_X3_numberOf : GoodIn wsX5_which wsX3_numberOf := goodIn_r _ [7, 8, 9, 10, 5, 11, 12, 55, 56, 57, 58, 59, 60] (by decide +kernel) (by decide +kernel)
set_option maxRecDepth 20000 in
theorem gX5_which_X3_numberOf_n94 : GoodIn wsX5_which (wsX3_numberOf) := ggX5_which_X3_numberOf
set_option maxRecDepth 20000 in
theorem ggX5_which_X3_isCrossing : GoodIn wsX5_which wsX3_isCrossing := goodIn_r _ [15, 16, 17, 18, 5, 19, 20, 21, 22, 23, 55, 56, 57, 58, 59, 60] (by decide +kernel) (by decide +kernel)
set_option maxRecDepth 20000 in
theorem gX5_which_X3_isCrossing_n159 : GoodIn wsX5_which (wsX3_isCrossing) := ggX5_which_X3_isCrossing
set_option maxRecDepth 20000 in
theorem ggX5_which_X1_loopOver : GoodIn wsX5_which wsX1_loopOver := goodIn_r _ [27, 28, 29, 30, 25, 31, 32, 21, 22, 23, 33, 34, 35, 36, 37, 61, 62, 63, 64, 65, 66, 67, 68, 69, 70, 71, 72, 73, 74, 75, 76, 77] (by decide +kernel) (by decide +kernel)
set_option maxRecDepth 20000 in
theorem gX5_which_X1_loopOver_n162 : GoodIn wsX5_which (wsX1_loopOver) := ggX5_which_X1_loopOver
set_option maxRecDepth 20000 in
theorem ggX5_which_X1_loopUnder : GoodIn wsX5_which wsX1_loopUnder := goodIn_r _ [40, 41, 42, 43, 25, 44, 45, 21, 22, 23, 33, 34, 35, 36, 37, 61, 62, 63, 64, 65, 66, 67, 68, 69, 70, 71, 72, 73, 74, 75, 76, 77] (by decide +kernel) (by decide +kernel)
set_option maxRecDepth 20000 in
theorem gX5_which_X1_loopUnder_n165 : GoodIn wsX5_which (wsX1_loopUnder) := ggX5_which_X1_loopUnder
theorem dX5_which_0 : decode cX5_which 0 = .ok (.aload_n 0, 1) := by decide +kernel
theorem dX5_which_1 : decode cX5_which 1 = .ok (.getfield 19, 3) := by decide +kernel
theorem dX5_which_4 : decode cX5_which 4 = .ok (.iload_n 1, 1) := by decide +kernel
theorem dX5_which_5 : decode cX5_which 5 = .ok (.invokevirtual 94, 3) := by decide +kernel
theorem dX5_which_8 : decode cX5_which 8 = .ok (.istore_n 3, 1) := by decide +kernel
theorem dX5_which_9 : decode cX5_which 9 = .ok (.iload_n 3, 1) := by decide +kernel
theorem dX5_which_10 : decode cX5_which 10 = .ok (.ifCond .ge 5, 3) := by decide +kernel
theorem dX5_which_13 : decode cX5_which 13 = .ok (.iconst (-1), 1) := by decide +kernel
theorem dX5_which_14 : decode cX5_which 14 = .ok (.ireturn, 1) := by decide +kernel
theorem dX5_which_15 : decode cX5_which 15 = .ok (.aload_n 0, 1) := by decide +kernel
theorem dX5_which_16 : decode cX5_which 16 = .ok (.getfield 19, 3) := by decide +kernel
theorem dX5_which_19 : decode cX5_which 19 = .ok (.iload_n 3, 1) := by decide +kernel
theorem dX5_which_20 : decode cX5_which 20 = .ok (.invokevirtual 159, 3) := by decide +kernel
theorem dX5_which_23 : decode cX5_which 23 = .ok (.ifCond .ne 6, 3) := by decide +kernel
theorem dX5_which_26 : decode cX5_which 26 = .ok (.bipush (-3), 2) := by decide +kernel
theorem dX5_which_28 : decode cX5_which 28 = .ok (.ireturn, 1) := by decide +kernel
theorem dX5_which_29 : decode cX5_which 29 = .ok (.iload_n 2, 1) := by decide +kernel
theorem dX5_which_30 : decode cX5_which 30 = .ok (.ifCond .eq 18, 3) := by decide +kernel
theorem dX5_which_33 : decode cX5_which 33 = .ok (.aload_n 0, 1) := by decide +kernel
theorem dX5_which_34 : decode cX5_which 34 = .ok (.getfield 33, 3) := by decide +kernel
theorem dX5_which_37 : decode cX5_which 37 = .ok (.aload_n 0, 1) := by decide +kernel
theorem dX5_which_38 : decode cX5_which 38 = .ok (.getfield 26, 3) := by decide +kernel
theorem dX5_which_41 : decode cX5_which 41 = .ok (.iload_n 3, 1) := by decide +kernel
theorem dX5_which_42 : decode cX5_which 42 = .ok (.invokevirtual 162, 3) := by decide +kernel
theorem dX5_which_45 : decode cX5_which 45 = .ok (.goto 15, 3) := by decide +kernel
theorem dX5_which_48 : decode cX5_which 48 = .ok (.aload_n 0, 1) := by decide +kernel
theorem dX5_which_49 : decode cX5_which 49 = .ok (.getfield 33, 3) := by decide +kernel
theorem dX5_which_52 : decode cX5_which 52 = .ok (.aload_n 0, 1) := by decide +kernel
theorem dX5_which_53 : decode cX5_which 53 = .ok (.getfield 26, 3) := by decide +kernel
theorem dX5_which_56 : decode cX5_which 56 = .ok (.iload_n 3, 1) := by decide +kernel
theorem dX5_which_57 : decode cX5_which 57 = .ok (.invokevirtual 165, 3) := by decide +kernel
theorem dX5_which_60 : decode cX5_which 60 = .ok (.ireturn, 1) := by decide +kernel
set_option maxRecDepth 20000 in
theorem ggX5_sign_X3_numberOf : GoodIn wsX5_sign wsX3_numberOf := goodIn_r _ [7, 8, 9, 10, 5, 11, 12, 56, 57, 58, 59, 60, 61] (by decide +kernel) (by decide +kernel)
set_option maxRecDepth 20000 in
theorem gX5_sign_X3_numberOf_n94 : GoodIn wsX5_sign (wsX3_numberOf) := ggX5_sign_X3_numberOf
