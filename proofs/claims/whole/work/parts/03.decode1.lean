theorem dX0_init_0 : decode cX0_init 0 = .ok (.aload_n 0, 1) := by decide +kernel
theorem dX0_init_1 : decode cX0_init 1 = .ok (.invokespecial 3, 3) := by decide +kernel
theorem dX0_init_4 : decode cX0_init 4 = .ok (.aload_n 0, 1) := by decide +kernel
theorem dX0_init_5 : decode cX0_init 5 = .ok (.bipush 60, 2) := by decide +kernel
theorem dX0_init_7 : decode cX0_init 7 = .ok (.bipush 96, 2) := by decide +kernel
theorem dX0_init_9 : decode cX0_init 9 = .ok (.multianewarray 9 2, 4) := by decide +kernel
theorem dX0_init_13 : decode cX0_init 13 = .ok (.putfield 11, 3) := by decide +kernel
theorem dX0_init_16 : decode cX0_init 16 = .ok (.return_, 1) := by decide +kernel
theorem dX0_countFree_0 : decode cX0_countFree 0 = .ok (.iload_n 3, 1) := by decide +kernel
theorem dX0_countFree_1 : decode cX0_countFree 1 = .ok (.iconst 2, 1) := by decide +kernel
theorem dX0_countFree_2 : decode cX0_countFree 2 = .ok (.if_icmp .ge 6, 3) := by decide +kernel
theorem dX0_countFree_5 : decode cX0_countFree 5 = .ok (.bipush (-9), 2) := by decide +kernel
theorem dX0_countFree_7 : decode cX0_countFree 7 = .ok (.ireturn, 1) := by decide +kernel
theorem dX0_countFree_8 : decode cX0_countFree 8 = .ok (.aload_n 0, 1) := by decide +kernel
theorem dX0_countFree_9 : decode cX0_countFree 9 = .ok (.aload_n 1, 1) := by decide +kernel
theorem dX0_countFree_10 : decode cX0_countFree 10 = .ok (.aload_n 2, 1) := by decide +kernel
theorem dX0_countFree_11 : decode cX0_countFree 11 = .ok (.invokevirtual 16, 3) := by decide +kernel
theorem dX0_countFree_14 : decode cX0_countFree 14 = .ok (.iconst 0, 1) := by decide +kernel
theorem dX0_countFree_15 : decode cX0_countFree 15 = .ok (.istore 4, 2) := by decide +kernel
theorem dX0_countFree_17 : decode cX0_countFree 17 = .ok (.iconst 0, 1) := by decide +kernel
theorem dX0_countFree_18 : decode cX0_countFree 18 = .ok (.istore 5, 2) := by decide +kernel
theorem dX0_countFree_20 : decode cX0_countFree 20 = .ok (.iload 5, 2) := by decide +kernel
theorem dX0_countFree_22 : decode cX0_countFree 22 = .ok (.aload_n 0, 1) := by decide +kernel
theorem dX0_countFree_23 : decode cX0_countFree 23 = .ok (.getfield 20, 3) := by decide +kernel
theorem dX0_countFree_26 : decode cX0_countFree 26 = .ok (.if_icmp .ge 54, 3) := by decide +kernel
theorem dX0_countFree_29 : decode cX0_countFree 29 = .ok (.iload 4, 2) := by decide +kernel
theorem dX0_countFree_31 : decode cX0_countFree 31 = .ok (.aload_n 0, 1) := by decide +kernel
theorem dX0_countFree_32 : decode cX0_countFree 32 = .ok (.getfield 24, 3) := by decide +kernel
theorem dX0_countFree_35 : decode cX0_countFree 35 = .ok (.if_icmp .ge 45, 3) := by decide +kernel
theorem dX0_countFree_38 : decode cX0_countFree 38 = .ok (.aload_n 0, 1) := by decide +kernel
theorem dX0_countFree_39 : decode cX0_countFree 39 = .ok (.iload 4, 2) := by decide +kernel
theorem dX0_countFree_41 : decode cX0_countFree 41 = .ok (.iload 5, 2) := by decide +kernel
theorem dX0_countFree_43 : decode cX0_countFree 43 = .ok (.iload_n 3, 1) := by decide +kernel
theorem dX0_countFree_44 : decode cX0_countFree 44 = .ok (.invokevirtual 27, 3) := by decide +kernel
theorem dX0_countFree_47 : decode cX0_countFree 47 = .ok (.istore 6, 2) := by decide +kernel
theorem dX0_countFree_49 : decode cX0_countFree 49 = .ok (.iload 6, 2) := by decide +kernel
theorem dX0_countFree_51 : decode cX0_countFree 51 = .ok (.ifCond .lt 23, 3) := by decide +kernel
theorem dX0_countFree_54 : decode cX0_countFree 54 = .ok (.aload_n 0, 1) := by decide +kernel
theorem dX0_countFree_55 : decode cX0_countFree 55 = .ok (.iload 4, 2) := by decide +kernel
theorem dX0_countFree_57 : decode cX0_countFree 57 = .ok (.iload 6, 2) := by decide +kernel
theorem dX0_countFree_59 : decode cX0_countFree 59 = .ok (.invokevirtual 31, 3) := by decide +kernel
theorem dX0_countFree_62 : decode cX0_countFree 62 = .ok (.aload_n 0, 1) := by decide +kernel
theorem dX0_countFree_63 : decode cX0_countFree 63 = .ok (.iload 4, 2) := by decide +kernel
theorem dX0_countFree_65 : decode cX0_countFree 65 = .ok (.iload 5, 2) := by decide +kernel
theorem dX0_countFree_67 : decode cX0_countFree 67 = .ok (.iload_n 3, 1) := by decide +kernel
theorem dX0_countFree_68 : decode cX0_countFree 68 = .ok (.invokevirtual 35, 3) := by decide +kernel
theorem dX0_countFree_71 : decode cX0_countFree 71 = .ok (.iinc 4 1, 3) := by decide +kernel
theorem dX0_countFree_74 : decode cX0_countFree 74 = .ok (.iinc 5 1, 3) := by decide +kernel
theorem dX0_countFree_77 : decode cX0_countFree 77 = .ok (.goto (-57), 3) := by decide +kernel
theorem dX0_countFree_80 : decode cX0_countFree 80 = .ok (.aload_n 0, 1) := by decide +kernel
theorem dX0_countFree_81 : decode cX0_countFree 81 = .ok (.getfield 20, 3) := by decide +kernel
theorem dX0_countFree_84 : decode cX0_countFree 84 = .ok (.iload 4, 2) := by decide +kernel
theorem dX0_countFree_86 : decode cX0_countFree 86 = .ok (.isub, 1) := by decide +kernel
theorem dX0_countFree_87 : decode cX0_countFree 87 = .ok (.ireturn, 1) := by decide +kernel
theorem dX0_gather_0 : decode cX0_gather 0 = .ok (.aload_n 0, 1) := by decide +kernel
theorem dX0_gather_1 : decode cX0_gather 1 = .ok (.aload_n 2, 1) := by decide +kernel
theorem dX0_gather_2 : decode cX0_gather 2 = .ok (.getfield 39, 3) := by decide +kernel
theorem dX0_gather_5 : decode cX0_gather 5 = .ok (.bipush 96, 2) := by decide +kernel
theorem dX0_gather_7 : decode cX0_gather 7 = .ok (.invokestatic 44, 3) := by decide +kernel
theorem dX0_gather_10 : decode cX0_gather 10 = .ok (.putfield 20, 3) := by decide +kernel
theorem dX0_gather_13 : decode cX0_gather 13 = .ok (.aload_n 0, 1) := by decide +kernel
theorem dX0_gather_14 : decode cX0_gather 14 = .ok (.iconst 0, 1) := by decide +kernel
theorem dX0_gather_15 : decode cX0_gather 15 = .ok (.putfield 24, 3) := by decide +kernel
theorem dX0_gather_18 : decode cX0_gather 18 = .ok (.iconst 0, 1) := by decide +kernel
theorem dX0_gather_19 : decode cX0_gather 19 = .ok (.istore_n 3, 1) := by decide +kernel
theorem dX0_gather_20 : decode cX0_gather 20 = .ok (.iload_n 3, 1) := by decide +kernel
theorem dX0_gather_21 : decode cX0_gather 21 = .ok (.bipush 60, 2) := by decide +kernel
theorem dX0_gather_23 : decode cX0_gather 23 = .ok (.if_icmp .ge 103, 3) := by decide +kernel
theorem dX0_gather_26 : decode cX0_gather 26 = .ok (.aload_n 0, 1) := by decide +kernel
theorem dX0_gather_27 : decode cX0_gather 27 = .ok (.getfield 24, 3) := by decide +kernel
theorem dX0_gather_30 : decode cX0_gather 30 = .ok (.bipush 60, 2) := by decide +kernel
theorem dX0_gather_32 : decode cX0_gather 32 = .ok (.if_icmp .ge 94, 3) := by decide +kernel
theorem dX0_gather_35 : decode cX0_gather 35 = .ok (.aload_n 2, 1) := by decide +kernel
theorem dX0_gather_36 : decode cX0_gather 36 = .ok (.iload_n 3, 1) := by decide +kernel
theorem dX0_gather_37 : decode cX0_gather 37 = .ok (.invokevirtual 50, 3) := by decide +kernel
theorem dX0_gather_40 : decode cX0_gather 40 = .ok (.ifCond .eq 80, 3) := by decide +kernel
theorem dX0_gather_43 : decode cX0_gather 43 = .ok (.aload_n 0, 1) := by decide +kernel
theorem dX0_gather_44 : decode cX0_gather 44 = .ok (.getfield 11, 3) := by decide +kernel
theorem dX0_gather_47 : decode cX0_gather 47 = .ok (.aload_n 0, 1) := by decide +kernel
theorem dX0_gather_48 : decode cX0_gather 48 = .ok (.getfield 24, 3) := by decide +kernel
theorem dX0_gather_51 : decode cX0_gather 51 = .ok (.aaload, 1) := by decide +kernel
theorem dX0_gather_52 : decode cX0_gather 52 = .ok (.astore 4, 2) := by decide +kernel
theorem dX0_gather_54 : decode cX0_gather 54 = .ok (.aload_n 0, 1) := by decide +kernel
theorem dX0_gather_55 : decode cX0_gather 55 = .ok (.dup, 1) := by decide +kernel
theorem dX0_gather_56 : decode cX0_gather 56 = .ok (.getfield 24, 3) := by decide +kernel
theorem dX0_gather_59 : decode cX0_gather 59 = .ok (.iconst 1, 1) := by decide +kernel
theorem dX0_gather_60 : decode cX0_gather 60 = .ok (.iadd, 1) := by decide +kernel
theorem dX0_gather_61 : decode cX0_gather 61 = .ok (.putfield 24, 3) := by decide +kernel
theorem dX0_gather_64 : decode cX0_gather 64 = .ok (.aload_n 2, 1) := by decide +kernel
theorem dX0_gather_65 : decode cX0_gather 65 = .ok (.iload_n 3, 1) := by decide +kernel
theorem dX0_gather_66 : decode cX0_gather 66 = .ok (.invokevirtual 54, 3) := by decide +kernel
theorem dX0_gather_69 : decode cX0_gather 69 = .ok (.istore 5, 2) := by decide +kernel
theorem dX0_gather_71 : decode cX0_gather 71 = .ok (.aload 4, 2) := by decide +kernel
theorem dX0_gather_73 : decode cX0_gather 73 = .ok (.iconst 0, 1) := by decide +kernel
theorem dX0_gather_74 : decode cX0_gather 74 = .ok (.invokestatic 58, 3) := by decide +kernel
theorem dX0_gather_77 : decode cX0_gather 77 = .ok (.aload 4, 2) := by decide +kernel
theorem dX0_gather_79 : decode cX0_gather 79 = .ok (.aload_n 2, 1) := by decide +kernel
theorem dX0_gather_80 : decode cX0_gather 80 = .ok (.aload_n 2, 1) := by decide +kernel
theorem dX0_gather_81 : decode cX0_gather 81 = .ok (.iload_n 3, 1) := by decide +kernel
theorem dX0_gather_82 : decode cX0_gather 82 = .ok (.invokevirtual 64, 3) := by decide +kernel
theorem dX0_gather_85 : decode cX0_gather 85 = .ok (.invokevirtual 67, 3) := by decide +kernel
theorem dX0_gather_88 : decode cX0_gather 88 = .ok (.iconst 2, 1) := by decide +kernel
theorem dX0_gather_89 : decode cX0_gather 89 = .ok (.invokestatic 70, 3) := by decide +kernel
theorem dX0_gather_92 : decode cX0_gather 92 = .ok (.aload 4, 2) := by decide +kernel
theorem dX0_gather_94 : decode cX0_gather 94 = .ok (.aload_n 2, 1) := by decide +kernel
theorem dX0_gather_95 : decode cX0_gather 95 = .ok (.iload 5, 2) := by decide +kernel
theorem dX0_gather_97 : decode cX0_gather 97 = .ok (.invokevirtual 67, 3) := by decide +kernel
theorem dX0_gather_100 : decode cX0_gather 100 = .ok (.iconst (-1), 1) := by decide +kernel
theorem dX0_gather_101 : decode cX0_gather 101 = .ok (.invokestatic 70, 3) := by decide +kernel
theorem dX0_gather_104 : decode cX0_gather 104 = .ok (.aload 4, 2) := by decide +kernel
theorem dX0_gather_106 : decode cX0_gather 106 = .ok (.aload_n 2, 1) := by decide +kernel
theorem dX0_gather_107 : decode cX0_gather 107 = .ok (.aload_n 1, 1) := by decide +kernel
theorem dX0_gather_108 : decode cX0_gather 108 = .ok (.iload 5, 2) := by decide +kernel
theorem dX0_gather_110 : decode cX0_gather 110 = .ok (.invokevirtual 74, 3) := by decide +kernel
theorem dX0_gather_113 : decode cX0_gather 113 = .ok (.invokevirtual 67, 3) := by decide +kernel
theorem dX0_gather_116 : decode cX0_gather 116 = .ok (.iconst (-1), 1) := by decide +kernel
theorem dX0_gather_117 : decode cX0_gather 117 = .ok (.invokestatic 70, 3) := by decide +kernel
theorem dX0_gather_120 : decode cX0_gather 120 = .ok (.iinc 3 1, 3) := by decide +kernel
theorem dX0_gather_123 : decode cX0_gather 123 = .ok (.goto (-103), 3) := by decide +kernel
theorem dX0_gather_126 : decode cX0_gather 126 = .ok (.return_, 1) := by decide +kernel
theorem dX0_add_0 : decode cX0_add 0 = .ok (.aload_n 0, 1) := by decide +kernel
theorem dX0_add_1 : decode cX0_add 1 = .ok (.iload_n 1, 1) := by decide +kernel
theorem dX0_add_2 : decode cX0_add 2 = .ok (.invokestatic 79, 3) := by decide +kernel
theorem dX0_add_5 : decode cX0_add 5 = .ok (.ifCond .eq 10, 3) := by decide +kernel
theorem dX0_add_8 : decode cX0_add 8 = .ok (.aload_n 0, 1) := by decide +kernel
theorem dX0_add_9 : decode cX0_add 9 = .ok (.iload_n 1, 1) := by decide +kernel
theorem dX0_add_10 : decode cX0_add 10 = .ok (.dup2, 1) := by decide +kernel
theorem dX0_add_11 : decode cX0_add 11 = .ok (.iaload, 1) := by decide +kernel
theorem dX0_add_12 : decode cX0_add 12 = .ok (.iload_n 2, 1) := by decide +kernel
theorem dX0_add_13 : decode cX0_add 13 = .ok (.iadd, 1) := by decide +kernel
theorem dX0_add_14 : decode cX0_add 14 = .ok (.iastore, 1) := by decide +kernel
theorem dX0_add_15 : decode cX0_add 15 = .ok (.return_, 1) := by decide +kernel
theorem dX0_findRule_0 : decode cX0_findRule 0 = .ok (.iload_n 1, 1) := by decide +kernel
theorem dX0_findRule_1 : decode cX0_findRule 1 = .ok (.istore 4, 2) := by decide +kernel
theorem dX0_findRule_3 : decode cX0_findRule 3 = .ok (.iload 4, 2) := by decide +kernel
theorem dX0_findRule_5 : decode cX0_findRule 5 = .ok (.aload_n 0, 1) := by decide +kernel
theorem dX0_findRule_6 : decode cX0_findRule 6 = .ok (.getfield 24, 3) := by decide +kernel
theorem dX0_findRule_9 : decode cX0_findRule 9 = .ok (.if_icmp .ge 26, 3) := by decide +kernel
theorem dX0_findRule_12 : decode cX0_findRule 12 = .ok (.aload_n 0, 1) := by decide +kernel
theorem dX0_findRule_13 : decode cX0_findRule 13 = .ok (.getfield 11, 3) := by decide +kernel
theorem dX0_findRule_16 : decode cX0_findRule 16 = .ok (.iload 4, 2) := by decide +kernel
theorem dX0_findRule_18 : decode cX0_findRule 18 = .ok (.aaload, 1) := by decide +kernel
theorem dX0_findRule_19 : decode cX0_findRule 19 = .ok (.iload_n 2, 1) := by decide +kernel
theorem dX0_findRule_20 : decode cX0_findRule 20 = .ok (.iaload, 1) := by decide +kernel
theorem dX0_findRule_21 : decode cX0_findRule 21 = .ok (.iload_n 3, 1) := by decide +kernel
theorem dX0_findRule_22 : decode cX0_findRule 22 = .ok (.irem, 1) := by decide +kernel
theorem dX0_findRule_23 : decode cX0_findRule 23 = .ok (.ifCond .eq 6, 3) := by decide +kernel
theorem dX0_findRule_26 : decode cX0_findRule 26 = .ok (.iload 4, 2) := by decide +kernel
theorem dX0_findRule_28 : decode cX0_findRule 28 = .ok (.ireturn, 1) := by decide +kernel
theorem dX0_findRule_29 : decode cX0_findRule 29 = .ok (.iinc 4 1, 3) := by decide +kernel
theorem dX0_findRule_32 : decode cX0_findRule 32 = .ok (.goto (-29), 3) := by decide +kernel
theorem dX0_findRule_35 : decode cX0_findRule 35 = .ok (.bipush (-9), 2) := by decide +kernel
theorem dX0_findRule_37 : decode cX0_findRule 37 = .ok (.ireturn, 1) := by decide +kernel
theorem dX0_swap_0 : decode cX0_swap 0 = .ok (.aload_n 0, 1) := by decide +kernel
theorem dX0_swap_1 : decode cX0_swap 1 = .ok (.getfield 11, 3) := by decide +kernel
theorem dX0_swap_4 : decode cX0_swap 4 = .ok (.iload_n 1, 1) := by decide +kernel
theorem dX0_swap_5 : decode cX0_swap 5 = .ok (.aaload, 1) := by decide +kernel
theorem dX0_swap_6 : decode cX0_swap 6 = .ok (.astore_n 3, 1) := by decide +kernel
theorem dX0_swap_7 : decode cX0_swap 7 = .ok (.aload_n 0, 1) := by decide +kernel
theorem dX0_swap_8 : decode cX0_swap 8 = .ok (.getfield 11, 3) := by decide +kernel
theorem dX0_swap_11 : decode cX0_swap 11 = .ok (.iload_n 1, 1) := by decide +kernel
theorem dX0_swap_12 : decode cX0_swap 12 = .ok (.aload_n 0, 1) := by decide +kernel
theorem dX0_swap_13 : decode cX0_swap 13 = .ok (.getfield 11, 3) := by decide +kernel
theorem dX0_swap_16 : decode cX0_swap 16 = .ok (.iload_n 2, 1) := by decide +kernel
theorem dX0_swap_17 : decode cX0_swap 17 = .ok (.aaload, 1) := by decide +kernel
theorem dX0_swap_18 : decode cX0_swap 18 = .ok (.aastore, 1) := by decide +kernel
theorem dX0_swap_19 : decode cX0_swap 19 = .ok (.aload_n 0, 1) := by decide +kernel
theorem dX0_swap_20 : decode cX0_swap 20 = .ok (.getfield 11, 3) := by decide +kernel
theorem dX0_swap_23 : decode cX0_swap 23 = .ok (.iload_n 2, 1) := by decide +kernel
theorem dX0_swap_24 : decode cX0_swap 24 = .ok (.aload_n 3, 1) := by decide +kernel
theorem dX0_swap_25 : decode cX0_swap 25 = .ok (.aastore, 1) := by decide +kernel
theorem dX0_swap_26 : decode cX0_swap 26 = .ok (.return_, 1) := by decide +kernel
theorem dX0_clearBelow_0 : decode cX0_clearBelow 0 = .ok (.aload_n 0, 1) := by decide +kernel
theorem dX0_clearBelow_1 : decode cX0_clearBelow 1 = .ok (.getfield 11, 3) := by decide +kernel
theorem dX0_clearBelow_4 : decode cX0_clearBelow 4 = .ok (.iload_n 1, 1) := by decide +kernel
theorem dX0_clearBelow_5 : decode cX0_clearBelow 5 = .ok (.aaload, 1) := by decide +kernel
theorem dX0_clearBelow_6 : decode cX0_clearBelow 6 = .ok (.astore 4, 2) := by decide +kernel
theorem dX0_clearBelow_8 : decode cX0_clearBelow 8 = .ok (.aload 4, 2) := by decide +kernel
theorem dX0_clearBelow_10 : decode cX0_clearBelow 10 = .ok (.iload_n 2, 1) := by decide +kernel
theorem dX0_clearBelow_11 : decode cX0_clearBelow 11 = .ok (.iaload, 1) := by decide +kernel
theorem dX0_clearBelow_12 : decode cX0_clearBelow 12 = .ok (.istore 5, 2) := by decide +kernel
theorem dX0_clearBelow_14 : decode cX0_clearBelow 14 = .ok (.iload_n 1, 1) := by decide +kernel
theorem dX0_clearBelow_15 : decode cX0_clearBelow 15 = .ok (.iconst 1, 1) := by decide +kernel
theorem dX0_clearBelow_16 : decode cX0_clearBelow 16 = .ok (.iadd, 1) := by decide +kernel
theorem dX0_clearBelow_17 : decode cX0_clearBelow 17 = .ok (.istore 6, 2) := by decide +kernel
theorem dX0_clearBelow_19 : decode cX0_clearBelow 19 = .ok (.iload 6, 2) := by decide +kernel
theorem dX0_clearBelow_21 : decode cX0_clearBelow 21 = .ok (.aload_n 0, 1) := by decide +kernel
theorem dX0_clearBelow_22 : decode cX0_clearBelow 22 = .ok (.getfield 24, 3) := by decide +kernel
theorem dX0_clearBelow_25 : decode cX0_clearBelow 25 = .ok (.if_icmp .ge 73, 3) := by decide +kernel
theorem dX0_clearBelow_28 : decode cX0_clearBelow 28 = .ok (.aload_n 0, 1) := by decide +kernel
theorem dX0_clearBelow_29 : decode cX0_clearBelow 29 = .ok (.getfield 11, 3) := by decide +kernel
theorem dX0_clearBelow_32 : decode cX0_clearBelow 32 = .ok (.iload 6, 2) := by decide +kernel
theorem dX0_clearBelow_34 : decode cX0_clearBelow 34 = .ok (.aaload, 1) := by decide +kernel
theorem dX0_clearBelow_35 : decode cX0_clearBelow 35 = .ok (.astore 7, 2) := by decide +kernel
theorem dX0_clearBelow_37 : decode cX0_clearBelow 37 = .ok (.aload 7, 2) := by decide +kernel
theorem dX0_clearBelow_39 : decode cX0_clearBelow 39 = .ok (.iload_n 2, 1) := by decide +kernel
theorem dX0_clearBelow_40 : decode cX0_clearBelow 40 = .ok (.iaload, 1) := by decide +kernel
theorem dX0_clearBelow_41 : decode cX0_clearBelow 41 = .ok (.istore 8, 2) := by decide +kernel
theorem dX0_clearBelow_43 : decode cX0_clearBelow 43 = .ok (.iload 8, 2) := by decide +kernel
theorem dX0_clearBelow_45 : decode cX0_clearBelow 45 = .ok (.iload_n 3, 1) := by decide +kernel
theorem dX0_clearBelow_46 : decode cX0_clearBelow 46 = .ok (.irem, 1) := by decide +kernel
theorem dX0_clearBelow_47 : decode cX0_clearBelow 47 = .ok (.ifCond .eq 45, 3) := by decide +kernel
theorem dX0_clearBelow_50 : decode cX0_clearBelow 50 = .ok (.iload_n 2, 1) := by decide +kernel
theorem dX0_clearBelow_51 : decode cX0_clearBelow 51 = .ok (.istore 9, 2) := by decide +kernel
theorem dX0_clearBelow_53 : decode cX0_clearBelow 53 = .ok (.iload 9, 2) := by decide +kernel
theorem dX0_clearBelow_55 : decode cX0_clearBelow 55 = .ok (.aload_n 0, 1) := by decide +kernel
theorem dX0_clearBelow_56 : decode cX0_clearBelow 56 = .ok (.getfield 20, 3) := by decide +kernel
theorem dX0_clearBelow_59 : decode cX0_clearBelow 59 = .ok (.if_icmp .ge 33, 3) := by decide +kernel
theorem dX0_clearBelow_62 : decode cX0_clearBelow 62 = .ok (.aload 7, 2) := by decide +kernel
theorem dX0_clearBelow_64 : decode cX0_clearBelow 64 = .ok (.iload 9, 2) := by decide +kernel
theorem dX0_clearBelow_66 : decode cX0_clearBelow 66 = .ok (.aload 7, 2) := by decide +kernel
theorem dX0_clearBelow_68 : decode cX0_clearBelow 68 = .ok (.iload 9, 2) := by decide +kernel
theorem dX0_clearBelow_70 : decode cX0_clearBelow 70 = .ok (.iaload, 1) := by decide +kernel
theorem dX0_clearBelow_71 : decode cX0_clearBelow 71 = .ok (.iload 5, 2) := by decide +kernel
theorem dX0_clearBelow_73 : decode cX0_clearBelow 73 = .ok (.imul, 1) := by decide +kernel
theorem dX0_clearBelow_74 : decode cX0_clearBelow 74 = .ok (.aload 4, 2) := by decide +kernel
theorem dX0_clearBelow_76 : decode cX0_clearBelow 76 = .ok (.iload 9, 2) := by decide +kernel
theorem dX0_clearBelow_78 : decode cX0_clearBelow 78 = .ok (.iaload, 1) := by decide +kernel
theorem dX0_clearBelow_79 : decode cX0_clearBelow 79 = .ok (.iload 8, 2) := by decide +kernel
theorem dX0_clearBelow_81 : decode cX0_clearBelow 81 = .ok (.imul, 1) := by decide +kernel
theorem dX0_clearBelow_82 : decode cX0_clearBelow 82 = .ok (.isub, 1) := by decide +kernel
theorem dX0_clearBelow_83 : decode cX0_clearBelow 83 = .ok (.iload_n 3, 1) := by decide +kernel
theorem dX0_clearBelow_84 : decode cX0_clearBelow 84 = .ok (.irem, 1) := by decide +kernel
theorem dX0_clearBelow_85 : decode cX0_clearBelow 85 = .ok (.iastore, 1) := by decide +kernel
theorem dX0_clearBelow_86 : decode cX0_clearBelow 86 = .ok (.iinc 9 1, 3) := by decide +kernel
theorem dX0_clearBelow_89 : decode cX0_clearBelow 89 = .ok (.goto (-36), 3) := by decide +kernel
theorem dX0_clearBelow_92 : decode cX0_clearBelow 92 = .ok (.iinc 6 1, 3) := by decide +kernel
theorem dX0_clearBelow_95 : decode cX0_clearBelow 95 = .ok (.goto (-76), 3) := by decide +kernel
theorem dX0_clearBelow_98 : decode cX0_clearBelow 98 = .ok (.return_, 1) := by decide +kernel
theorem dX1_init_0 : decode cX1_init 0 = .ok (.aload_n 0, 1) := by decide +kernel
theorem dX1_init_1 : decode cX1_init 1 = .ok (.invokespecial 3, 3) := by decide +kernel
theorem dX1_init_4 : decode cX1_init 4 = .ok (.aload_n 0, 1) := by decide +kernel
theorem dX1_init_5 : decode cX1_init 5 = .ok (.sipush 144, 3) := by decide +kernel
theorem dX1_init_8 : decode cX1_init 8 = .ok (.newarray .int, 2) := by decide +kernel
theorem dX1_init_10 : decode cX1_init 10 = .ok (.putfield 9, 3) := by decide +kernel
theorem dX1_init_13 : decode cX1_init 13 = .ok (.aload_n 0, 1) := by decide +kernel
theorem dX1_init_14 : decode cX1_init 14 = .ok (.sipush 144, 3) := by decide +kernel
theorem dX1_init_17 : decode cX1_init 17 = .ok (.newarray .int, 2) := by decide +kernel
theorem dX1_init_19 : decode cX1_init 19 = .ok (.putfield 15, 3) := by decide +kernel
theorem dX1_init_22 : decode cX1_init 22 = .ok (.aload_n 0, 1) := by decide +kernel
theorem dX1_init_23 : decode cX1_init 23 = .ok (.bipush 60, 2) := by decide +kernel
theorem dX1_init_25 : decode cX1_init 25 = .ok (.newarray .int, 2) := by decide +kernel
theorem dX1_init_27 : decode cX1_init 27 = .ok (.putfield 18, 3) := by decide +kernel
theorem dX1_init_30 : decode cX1_init 30 = .ok (.aload_n 0, 1) := by decide +kernel
theorem dX1_init_31 : decode cX1_init 31 = .ok (.bipush 60, 2) := by decide +kernel
theorem dX1_init_33 : decode cX1_init 33 = .ok (.newarray .int, 2) := by decide +kernel
theorem dX1_init_35 : decode cX1_init 35 = .ok (.putfield 21, 3) := by decide +kernel
theorem dX1_init_38 : decode cX1_init 38 = .ok (.aload_n 0, 1) := by decide +kernel
theorem dX1_init_39 : decode cX1_init 39 = .ok (.bipush 36, 2) := by decide +kernel
theorem dX1_init_41 : decode cX1_init 41 = .ok (.newarray .int, 2) := by decide +kernel
theorem dX1_init_43 : decode cX1_init 43 = .ok (.putfield 24, 3) := by decide +kernel
theorem dX1_init_46 : decode cX1_init 46 = .ok (.aload_n 0, 1) := by decide +kernel
theorem dX1_init_47 : decode cX1_init 47 = .ok (.bipush 36, 2) := by decide +kernel
theorem dX1_init_49 : decode cX1_init 49 = .ok (.newarray .int, 2) := by decide +kernel
theorem dX1_init_51 : decode cX1_init 51 = .ok (.putfield 27, 3) := by decide +kernel
theorem dX1_init_54 : decode cX1_init 54 = .ok (.return_, 1) := by decide +kernel
theorem dX1_survey_0 : decode cX1_survey 0 = .ok (.aload_n 0, 1) := by decide +kernel
theorem dX1_survey_1 : decode cX1_survey 1 = .ok (.getfield 18, 3) := by decide +kernel
theorem dX1_survey_4 : decode cX1_survey 4 = .ok (.bipush (-9), 2) := by decide +kernel
theorem dX1_survey_6 : decode cX1_survey 6 = .ok (.invokestatic 30, 3) := by decide +kernel
theorem dX1_survey_9 : decode cX1_survey 9 = .ok (.aload_n 0, 1) := by decide +kernel
theorem dX1_survey_10 : decode cX1_survey 10 = .ok (.getfield 21, 3) := by decide +kernel
theorem dX1_survey_13 : decode cX1_survey 13 = .ok (.bipush (-9), 2) := by decide +kernel
theorem dX1_survey_15 : decode cX1_survey 15 = .ok (.invokestatic 30, 3) := by decide +kernel
theorem dX1_survey_18 : decode cX1_survey 18 = .ok (.iconst 0, 1) := by decide +kernel
theorem dX1_survey_19 : decode cX1_survey 19 = .ok (.istore_n 3, 1) := by decide +kernel
theorem dX1_survey_20 : decode cX1_survey 20 = .ok (.iload_n 3, 1) := by decide +kernel
theorem dX1_survey_21 : decode cX1_survey 21 = .ok (.aload_n 2, 1) := by decide +kernel
theorem dX1_survey_22 : decode cX1_survey 22 = .ok (.getfield 36, 3) := by decide +kernel
theorem dX1_survey_25 : decode cX1_survey 25 = .ok (.if_icmp .ge 29, 3) := by decide +kernel
theorem dX1_survey_28 : decode cX1_survey 28 = .ok (.iload_n 3, 1) := by decide +kernel
theorem dX1_survey_29 : decode cX1_survey 29 = .ok (.sipush 144, 3) := by decide +kernel
theorem dX1_survey_32 : decode cX1_survey 32 = .ok (.if_icmp .ge 22, 3) := by decide +kernel
theorem dX1_survey_35 : decode cX1_survey 35 = .ok (.aload_n 0, 1) := by decide +kernel
theorem dX1_survey_36 : decode cX1_survey 36 = .ok (.getfield 9, 3) := by decide +kernel
theorem dX1_survey_39 : decode cX1_survey 39 = .ok (.iload_n 3, 1) := by decide +kernel
theorem dX1_survey_40 : decode cX1_survey 40 = .ok (.aload_n 0, 1) := by decide +kernel
theorem dX1_survey_41 : decode cX1_survey 41 = .ok (.aload_n 1, 1) := by decide +kernel
theorem dX1_survey_42 : decode cX1_survey 42 = .ok (.aload_n 2, 1) := by decide +kernel
theorem dX1_survey_43 : decode cX1_survey 43 = .ok (.iload_n 3, 1) := by decide +kernel
theorem dX1_survey_44 : decode cX1_survey 44 = .ok (.invokevirtual 42, 3) := by decide +kernel
theorem dX1_survey_47 : decode cX1_survey 47 = .ok (.iastore, 1) := by decide +kernel
theorem dX1_survey_48 : decode cX1_survey 48 = .ok (.iinc 3 1, 3) := by decide +kernel
theorem dX1_survey_51 : decode cX1_survey 51 = .ok (.goto (-31), 3) := by decide +kernel
theorem dX1_survey_54 : decode cX1_survey 54 = .ok (.aload_n 0, 1) := by decide +kernel
theorem dX1_survey_55 : decode cX1_survey 55 = .ok (.iconst 0, 1) := by decide +kernel
theorem dX1_survey_56 : decode cX1_survey 56 = .ok (.putfield 46, 3) := by decide +kernel
theorem dX1_survey_59 : decode cX1_survey 59 = .ok (.iconst 0, 1) := by decide +kernel
theorem dX1_survey_60 : decode cX1_survey 60 = .ok (.istore_n 3, 1) := by decide +kernel
theorem dX1_survey_61 : decode cX1_survey 61 = .ok (.iload_n 3, 1) := by decide +kernel
theorem dX1_survey_62 : decode cX1_survey 62 = .ok (.aload_n 2, 1) := by decide +kernel
theorem dX1_survey_63 : decode cX1_survey 63 = .ok (.getfield 49, 3) := by decide +kernel
theorem dX1_survey_66 : decode cX1_survey 66 = .ok (.if_icmp .ge 15, 3) := by decide +kernel
theorem dX1_survey_69 : decode cX1_survey 69 = .ok (.aload_n 0, 1) := by decide +kernel
theorem dX1_survey_70 : decode cX1_survey 70 = .ok (.aload_n 2, 1) := by decide +kernel
theorem dX1_survey_71 : decode cX1_survey 71 = .ok (.iload_n 3, 1) := by decide +kernel
theorem dX1_survey_72 : decode cX1_survey 72 = .ok (.invokevirtual 52, 3) := by decide +kernel
theorem dX1_survey_75 : decode cX1_survey 75 = .ok (.iinc 3 1, 3) := by decide +kernel
theorem dX1_survey_78 : decode cX1_survey 78 = .ok (.goto (-17), 3) := by decide +kernel
theorem dX1_survey_81 : decode cX1_survey 81 = .ok (.aload_n 0, 1) := by decide +kernel
theorem dX1_survey_82 : decode cX1_survey 82 = .ok (.aload_n 2, 1) := by decide +kernel
theorem dX1_survey_83 : decode cX1_survey 83 = .ok (.invokevirtual 56, 3) := by decide +kernel
theorem dX1_survey_86 : decode cX1_survey 86 = .ok (.return_, 1) := by decide +kernel
theorem dX1_passAt_0 : decode cX1_passAt 0 = .ok (.aload_n 2, 1) := by decide +kernel
theorem dX1_passAt_1 : decode cX1_passAt 1 = .ok (.iload_n 3, 1) := by decide +kernel
theorem dX1_passAt_2 : decode cX1_passAt 2 = .ok (.invokevirtual 60, 3) := by decide +kernel
theorem dX1_passAt_5 : decode cX1_passAt 5 = .ok (.istore 4, 2) := by decide +kernel
theorem dX1_passAt_7 : decode cX1_passAt 7 = .ok (.aload_n 1, 1) := by decide +kernel
theorem dX1_passAt_8 : decode cX1_passAt 8 = .ok (.iload 4, 2) := by decide +kernel
theorem dX1_passAt_10 : decode cX1_passAt 10 = .ok (.invokevirtual 64, 3) := by decide +kernel
theorem dX1_passAt_13 : decode cX1_passAt 13 = .ok (.istore 5, 2) := by decide +kernel
theorem dX1_passAt_15 : decode cX1_passAt 15 = .ok (.iload 5, 2) := by decide +kernel
theorem dX1_passAt_17 : decode cX1_passAt 17 = .ok (.ifCond .lt 19, 3) := by decide +kernel
theorem dX1_passAt_20 : decode cX1_passAt 20 = .ok (.iload 5, 2) := by decide +kernel
theorem dX1_passAt_22 : decode cX1_passAt 22 = .ok (.bipush 60, 2) := by decide +kernel
theorem dX1_passAt_24 : decode cX1_passAt 24 = .ok (.if_icmp .ge 12, 3) := by decide +kernel
theorem dX1_passAt_27 : decode cX1_passAt 27 = .ok (.aload_n 1, 1) := by decide +kernel
theorem dX1_passAt_28 : decode cX1_passAt 28 = .ok (.iload 5, 2) := by decide +kernel
theorem dX1_passAt_30 : decode cX1_passAt 30 = .ok (.invokevirtual 69, 3) := by decide +kernel
theorem dX1_passAt_33 : decode cX1_passAt 33 = .ok (.ifCond .ne 5, 3) := by decide +kernel
theorem dX1_passAt_36 : decode cX1_passAt 36 = .ok (.iconst 0, 1) := by decide +kernel
theorem dX1_passAt_37 : decode cX1_passAt 37 = .ok (.ireturn, 1) := by decide +kernel
theorem dX1_passAt_38 : decode cX1_passAt 38 = .ok (.aload_n 2, 1) := by decide +kernel
theorem dX1_passAt_39 : decode cX1_passAt 39 = .ok (.iload_n 3, 1) := by decide +kernel
theorem dX1_passAt_40 : decode cX1_passAt 40 = .ok (.invokevirtual 73, 3) := by decide +kernel
theorem dX1_passAt_43 : decode cX1_passAt 43 = .ok (.aload_n 2, 1) := by decide +kernel
theorem dX1_passAt_44 : decode cX1_passAt 44 = .ok (.iload_n 3, 1) := by decide +kernel
theorem dX1_passAt_45 : decode cX1_passAt 45 = .ok (.invokevirtual 76, 3) := by decide +kernel
theorem dX1_passAt_48 : decode cX1_passAt 48 = .ok (.if_icmp .ne 7, 3) := by decide +kernel
theorem dX1_passAt_51 : decode cX1_passAt 51 = .ok (.iconst 1, 1) := by decide +kernel
theorem dX1_passAt_52 : decode cX1_passAt 52 = .ok (.goto 4, 3) := by decide +kernel
theorem dX1_passAt_55 : decode cX1_passAt 55 = .ok (.iconst 0, 1) := by decide +kernel
theorem dX1_passAt_56 : decode cX1_passAt 56 = .ok (.istore 6, 2) := by decide +kernel
theorem dX1_passAt_58 : decode cX1_passAt 58 = .ok (.iload 4, 2) := by decide +kernel
theorem dX1_passAt_60 : decode cX1_passAt 60 = .ok (.bipush 100, 2) := by decide +kernel
theorem dX1_passAt_62 : decode cX1_passAt 62 = .ok (.idiv, 1) := by decide +kernel
theorem dX1_passAt_63 : decode cX1_passAt 63 = .ok (.iconst 2, 1) := by decide +kernel
theorem dX1_passAt_64 : decode cX1_passAt 64 = .ok (.irem, 1) := by decide +kernel
theorem dX1_passAt_65 : decode cX1_passAt 65 = .ok (.iconst 1, 1) := by decide +kernel
theorem dX1_passAt_66 : decode cX1_passAt 66 = .ok (.if_icmp .ne 7, 3) := by decide +kernel
theorem dX1_passAt_69 : decode cX1_passAt 69 = .ok (.iconst 1, 1) := by decide +kernel
theorem dX1_passAt_70 : decode cX1_passAt 70 = .ok (.goto 4, 3) := by decide +kernel
theorem dX1_passAt_73 : decode cX1_passAt 73 = .ok (.iconst 0, 1) := by decide +kernel
theorem dX1_passAt_74 : decode cX1_passAt 74 = .ok (.istore 7, 2) := by decide +kernel
theorem dX1_passAt_76 : decode cX1_passAt 76 = .ok (.iload 7, 2) := by decide +kernel
theorem dX1_passAt_78 : decode cX1_passAt 78 = .ok (.aload_n 1, 1) := by decide +kernel
theorem dX1_passAt_79 : decode cX1_passAt 79 = .ok (.iload 5, 2) := by decide +kernel
theorem dX1_passAt_81 : decode cX1_passAt 81 = .ok (.invokevirtual 79, 3) := by decide +kernel
theorem dX1_passAt_84 : decode cX1_passAt 84 = .ok (.iconst 3, 1) := by decide +kernel
theorem dX1_passAt_85 : decode cX1_passAt 85 = .ok (.if_icmp .ne 7, 3) := by decide +kernel
theorem dX1_passAt_88 : decode cX1_passAt 88 = .ok (.iconst 1, 1) := by decide +kernel
theorem dX1_passAt_89 : decode cX1_passAt 89 = .ok (.goto 4, 3) := by decide +kernel
theorem dX1_passAt_92 : decode cX1_passAt 92 = .ok (.iconst 0, 1) := by decide +kernel
theorem dX1_passAt_93 : decode cX1_passAt 93 = .ok (.if_icmp .eq 7, 3) := by decide +kernel
theorem dX1_passAt_96 : decode cX1_passAt 96 = .ok (.iconst 1, 1) := by decide +kernel
theorem dX1_passAt_97 : decode cX1_passAt 97 = .ok (.goto 4, 3) := by decide +kernel
theorem dX1_passAt_100 : decode cX1_passAt 100 = .ok (.iconst 0, 1) := by decide +kernel
theorem dX1_passAt_101 : decode cX1_passAt 101 = .ok (.istore 8, 2) := by decide +kernel
theorem dX1_passAt_103 : decode cX1_passAt 103 = .ok (.iload 6, 2) := by decide +kernel
theorem dX1_passAt_105 : decode cX1_passAt 105 = .ok (.iload 8, 2) := by decide +kernel
theorem dX1_passAt_107 : decode cX1_passAt 107 = .ok (.if_icmp .ne 13, 3) := by decide +kernel
theorem dX1_passAt_110 : decode cX1_passAt 110 = .ok (.aload_n 0, 1) := by decide +kernel
theorem dX1_passAt_111 : decode cX1_passAt 111 = .ok (.getfield 18, 3) := by decide +kernel
theorem dX1_passAt_114 : decode cX1_passAt 114 = .ok (.iload 5, 2) := by decide +kernel
theorem dX1_passAt_116 : decode cX1_passAt 116 = .ok (.iload_n 3, 1) := by decide +kernel
theorem dX1_passAt_117 : decode cX1_passAt 117 = .ok (.iastore, 1) := by decide +kernel
theorem dX1_passAt_118 : decode cX1_passAt 118 = .ok (.iconst 1, 1) := by decide +kernel
theorem dX1_passAt_119 : decode cX1_passAt 119 = .ok (.ireturn, 1) := by decide +kernel
theorem dX1_passAt_120 : decode cX1_passAt 120 = .ok (.aload_n 0, 1) := by decide +kernel
theorem dX1_passAt_121 : decode cX1_passAt 121 = .ok (.getfield 21, 3) := by decide +kernel
theorem dX1_passAt_124 : decode cX1_passAt 124 = .ok (.iload 5, 2) := by decide +kernel
theorem dX1_passAt_126 : decode cX1_passAt 126 = .ok (.iload_n 3, 1) := by decide +kernel
theorem dX1_passAt_127 : decode cX1_passAt 127 = .ok (.iastore, 1) := by decide +kernel
theorem dX1_passAt_128 : decode cX1_passAt 128 = .ok (.iconst 2, 1) := by decide +kernel
theorem dX1_passAt_129 : decode cX1_passAt 129 = .ok (.ireturn, 1) := by decide +kernel
theorem dX1_numberArcs_0 : decode cX1_numberArcs 0 = .ok (.aload_n 1, 1) := by decide +kernel
theorem dX1_numberArcs_1 : decode cX1_numberArcs 1 = .ok (.iload_n 2, 1) := by decide +kernel
theorem dX1_numberArcs_2 : decode cX1_numberArcs 2 = .ok (.iconst 1, 1) := by decide +kernel
theorem dX1_numberArcs_3 : decode cX1_numberArcs 3 = .ok (.iadd, 1) := by decide +kernel
theorem dX1_numberArcs_4 : decode cX1_numberArcs 4 = .ok (.invokevirtual 82, 3) := by decide +kernel
theorem dX1_numberArcs_7 : decode cX1_numberArcs 7 = .ok (.istore_n 3, 1) := by decide +kernel
theorem dX1_numberArcs_8 : decode cX1_numberArcs 8 = .ok (.aload_n 0, 1) := by decide +kernel
theorem dX1_numberArcs_9 : decode cX1_numberArcs 9 = .ok (.aload_n 1, 1) := by decide +kernel
theorem dX1_numberArcs_10 : decode cX1_numberArcs 10 = .ok (.iload_n 2, 1) := by decide +kernel
theorem dX1_numberArcs_11 : decode cX1_numberArcs 11 = .ok (.iconst 2, 1) := by decide +kernel
theorem dX1_numberArcs_12 : decode cX1_numberArcs 12 = .ok (.invokevirtual 85, 3) := by decide +kernel
theorem dX1_numberArcs_15 : decode cX1_numberArcs 15 = .ok (.istore 4, 2) := by decide +kernel
theorem dX1_numberArcs_17 : decode cX1_numberArcs 17 = .ok (.iconst 0, 1) := by decide +kernel
theorem dX1_numberArcs_18 : decode cX1_numberArcs 18 = .ok (.istore 5, 2) := by decide +kernel
theorem dX1_numberArcs_20 : decode cX1_numberArcs 20 = .ok (.aload_n 1, 1) := by decide +kernel
theorem dX1_numberArcs_21 : decode cX1_numberArcs 21 = .ok (.iload_n 2, 1) := by decide +kernel
theorem dX1_numberArcs_22 : decode cX1_numberArcs 22 = .ok (.invokevirtual 82, 3) := by decide +kernel
theorem dX1_numberArcs_25 : decode cX1_numberArcs 25 = .ok (.istore 6, 2) := by decide +kernel
theorem dX1_numberArcs_27 : decode cX1_numberArcs 27 = .ok (.iload 6, 2) := by decide +kernel
theorem dX1_numberArcs_29 : decode cX1_numberArcs 29 = .ok (.iload_n 3, 1) := by decide +kernel
theorem dX1_numberArcs_30 : decode cX1_numberArcs 30 = .ok (.if_icmp .ge 60, 3) := by decide +kernel
theorem dX1_numberArcs_33 : decode cX1_numberArcs 33 = .ok (.aload_n 0, 1) := by decide +kernel
theorem dX1_numberArcs_34 : decode cX1_numberArcs 34 = .ok (.getfield 9, 3) := by decide +kernel
theorem dX1_numberArcs_37 : decode cX1_numberArcs 37 = .ok (.iload 6, 2) := by decide +kernel
theorem dX1_numberArcs_39 : decode cX1_numberArcs 39 = .ok (.invokestatic 89, 3) := by decide +kernel
theorem dX1_numberArcs_42 : decode cX1_numberArcs 42 = .ok (.ifCond .eq 48, 3) := by decide +kernel
theorem dX1_numberArcs_45 : decode cX1_numberArcs 45 = .ok (.aload_n 0, 1) := by decide +kernel
theorem dX1_numberArcs_46 : decode cX1_numberArcs 46 = .ok (.getfield 15, 3) := by decide +kernel
theorem dX1_numberArcs_49 : decode cX1_numberArcs 49 = .ok (.iload 6, 2) := by decide +kernel
theorem dX1_numberArcs_51 : decode cX1_numberArcs 51 = .ok (.aload_n 0, 1) := by decide +kernel
theorem dX1_numberArcs_52 : decode cX1_numberArcs 52 = .ok (.getfield 46, 3) := by decide +kernel
theorem dX1_numberArcs_55 : decode cX1_numberArcs 55 = .ok (.iload 5, 2) := by decide +kernel
theorem dX1_numberArcs_57 : decode cX1_numberArcs 57 = .ok (.iload 4, 2) := by decide +kernel
theorem dX1_numberArcs_59 : decode cX1_numberArcs 59 = .ok (.if_icmp .ge 8, 3) := by decide +kernel
theorem dX1_numberArcs_62 : decode cX1_numberArcs 62 = .ok (.iload 5, 2) := by decide +kernel
theorem dX1_numberArcs_64 : decode cX1_numberArcs 64 = .ok (.goto 4, 3) := by decide +kernel
theorem dX1_numberArcs_67 : decode cX1_numberArcs 67 = .ok (.iconst 0, 1) := by decide +kernel
theorem dX1_numberArcs_68 : decode cX1_numberArcs 68 = .ok (.iadd, 1) := by decide +kernel
theorem dX1_numberArcs_69 : decode cX1_numberArcs 69 = .ok (.iastore, 1) := by decide +kernel
theorem dX1_numberArcs_70 : decode cX1_numberArcs 70 = .ok (.aload_n 0, 1) := by decide +kernel
theorem dX1_numberArcs_71 : decode cX1_numberArcs 71 = .ok (.getfield 9, 3) := by decide +kernel
theorem dX1_numberArcs_74 : decode cX1_numberArcs 74 = .ok (.iload 6, 2) := by decide +kernel
theorem dX1_numberArcs_76 : decode cX1_numberArcs 76 = .ok (.iaload, 1) := by decide +kernel
theorem dX1_numberArcs_77 : decode cX1_numberArcs 77 = .ok (.iconst 2, 1) := by decide +kernel
theorem dX1_numberArcs_78 : decode cX1_numberArcs 78 = .ok (.if_icmp .ne 6, 3) := by decide +kernel
theorem dX1_numberArcs_81 : decode cX1_numberArcs 81 = .ok (.iinc 5 1, 3) := by decide +kernel
theorem dX1_numberArcs_84 : decode cX1_numberArcs 84 = .ok (.iinc 6 1, 3) := by decide +kernel
theorem dX1_numberArcs_87 : decode cX1_numberArcs 87 = .ok (.goto (-60), 3) := by decide +kernel
theorem dX1_numberArcs_90 : decode cX1_numberArcs 90 = .ok (.aload_n 0, 1) := by decide +kernel
theorem dX1_numberArcs_91 : decode cX1_numberArcs 91 = .ok (.dup, 1) := by decide +kernel
theorem dX1_numberArcs_92 : decode cX1_numberArcs 92 = .ok (.getfield 46, 3) := by decide +kernel
theorem dX1_numberArcs_95 : decode cX1_numberArcs 95 = .ok (.iload 4, 2) := by decide +kernel
theorem dX1_numberArcs_97 : decode cX1_numberArcs 97 = .ok (.iconst 1, 1) := by decide +kernel
theorem dX1_numberArcs_98 : decode cX1_numberArcs 98 = .ok (.invokestatic 93, 3) := by decide +kernel
theorem dX1_numberArcs_101 : decode cX1_numberArcs 101 = .ok (.iadd, 1) := by decide +kernel
theorem dX1_numberArcs_102 : decode cX1_numberArcs 102 = .ok (.putfield 46, 3) := by decide +kernel
theorem dX1_numberArcs_105 : decode cX1_numberArcs 105 = .ok (.return_, 1) := by decide +kernel
theorem dX1_tie_0 : decode cX1_tie 0 = .ok (.aload_n 0, 1) := by decide +kernel
theorem dX1_tie_1 : decode cX1_tie 1 = .ok (.iconst 0, 1) := by decide +kernel
theorem dX1_tie_2 : decode cX1_tie 2 = .ok (.putfield 99, 3) := by decide +kernel
theorem dX1_tie_5 : decode cX1_tie 5 = .ok (.iconst 0, 1) := by decide +kernel
theorem dX1_tie_6 : decode cX1_tie 6 = .ok (.istore_n 2, 1) := by decide +kernel
theorem dX1_tie_7 : decode cX1_tie 7 = .ok (.iload_n 2, 1) := by decide +kernel
theorem dX1_tie_8 : decode cX1_tie 8 = .ok (.bipush 36, 2) := by decide +kernel
theorem dX1_tie_10 : decode cX1_tie 10 = .ok (.if_icmp .ge 16, 3) := by decide +kernel
theorem dX1_tie_13 : decode cX1_tie 13 = .ok (.aload_n 0, 1) := by decide +kernel
theorem dX1_tie_14 : decode cX1_tie 14 = .ok (.getfield 27, 3) := by decide +kernel
theorem dX1_tie_17 : decode cX1_tie 17 = .ok (.iload_n 2, 1) := by decide +kernel
theorem dX1_tie_18 : decode cX1_tie 18 = .ok (.iload_n 2, 1) := by decide +kernel
theorem dX1_tie_19 : decode cX1_tie 19 = .ok (.iastore, 1) := by decide +kernel
theorem dX1_tie_20 : decode cX1_tie 20 = .ok (.iinc 2 1, 3) := by decide +kernel
theorem dX1_tie_23 : decode cX1_tie 23 = .ok (.goto (-16), 3) := by decide +kernel
theorem dX1_tie_26 : decode cX1_tie 26 = .ok (.iconst 0, 1) := by decide +kernel
theorem dX1_tie_27 : decode cX1_tie 27 = .ok (.istore_n 2, 1) := by decide +kernel
theorem dX1_tie_28 : decode cX1_tie 28 = .ok (.iload_n 2, 1) := by decide +kernel
theorem dX1_tie_29 : decode cX1_tie 29 = .ok (.bipush 60, 2) := by decide +kernel
theorem dX1_tie_31 : decode cX1_tie 31 = .ok (.if_icmp .ge 82, 3) := by decide +kernel
theorem dX1_tie_34 : decode cX1_tie 34 = .ok (.aload_n 0, 1) := by decide +kernel
theorem dX1_tie_35 : decode cX1_tie 35 = .ok (.aload_n 1, 1) := by decide +kernel
theorem dX1_tie_36 : decode cX1_tie 36 = .ok (.aload_n 0, 1) := by decide +kernel
theorem dX1_tie_37 : decode cX1_tie 37 = .ok (.getfield 18, 3) := by decide +kernel
theorem dX1_tie_40 : decode cX1_tie 40 = .ok (.iload_n 2, 1) := by decide +kernel
theorem dX1_tie_41 : decode cX1_tie 41 = .ok (.iaload, 1) := by decide +kernel
theorem dX1_tie_42 : decode cX1_tie 42 = .ok (.invokevirtual 102, 3) := by decide +kernel
theorem dX1_tie_45 : decode cX1_tie 45 = .ok (.invokevirtual 105, 3) := by decide +kernel
theorem dX1_tie_48 : decode cX1_tie 48 = .ok (.istore_n 3, 1) := by decide +kernel
theorem dX1_tie_49 : decode cX1_tie 49 = .ok (.aload_n 0, 1) := by decide +kernel
theorem dX1_tie_50 : decode cX1_tie 50 = .ok (.aload_n 1, 1) := by decide +kernel
theorem dX1_tie_51 : decode cX1_tie 51 = .ok (.aload_n 0, 1) := by decide +kernel
theorem dX1_tie_52 : decode cX1_tie 52 = .ok (.getfield 21, 3) := by decide +kernel
theorem dX1_tie_55 : decode cX1_tie 55 = .ok (.iload_n 2, 1) := by decide +kernel
theorem dX1_tie_56 : decode cX1_tie 56 = .ok (.iaload, 1) := by decide +kernel
theorem dX1_tie_57 : decode cX1_tie 57 = .ok (.invokevirtual 102, 3) := by decide +kernel
theorem dX1_tie_60 : decode cX1_tie 60 = .ok (.invokevirtual 105, 3) := by decide +kernel
theorem dX1_tie_63 : decode cX1_tie 63 = .ok (.istore 4, 2) := by decide +kernel
theorem dX1_tie_65 : decode cX1_tie 65 = .ok (.iload_n 3, 1) := by decide +kernel
theorem dX1_tie_66 : decode cX1_tie 66 = .ok (.iload 4, 2) := by decide +kernel
theorem dX1_tie_68 : decode cX1_tie 68 = .ok (.if_icmp .eq 39, 3) := by decide +kernel
theorem dX1_tie_71 : decode cX1_tie 71 = .ok (.aload_n 0, 1) := by decide +kernel
theorem dX1_tie_72 : decode cX1_tie 72 = .ok (.getfield 99, 3) := by decide +kernel
theorem dX1_tie_75 : decode cX1_tie 75 = .ok (.bipush 36, 2) := by decide +kernel
theorem dX1_tie_77 : decode cX1_tie 77 = .ok (.if_icmp .ge 30, 3) := by decide +kernel
theorem dX1_tie_80 : decode cX1_tie 80 = .ok (.aload_n 0, 1) := by decide +kernel
theorem dX1_tie_81 : decode cX1_tie 81 = .ok (.getfield 24, 3) := by decide +kernel
theorem dX1_tie_84 : decode cX1_tie 84 = .ok (.aload_n 0, 1) := by decide +kernel
theorem dX1_tie_85 : decode cX1_tie 85 = .ok (.getfield 99, 3) := by decide +kernel
theorem dX1_tie_88 : decode cX1_tie 88 = .ok (.iload_n 2, 1) := by decide +kernel
theorem dX1_tie_89 : decode cX1_tie 89 = .ok (.iastore, 1) := by decide +kernel
theorem dX1_tie_90 : decode cX1_tie 90 = .ok (.aload_n 0, 1) := by decide +kernel
theorem dX1_tie_91 : decode cX1_tie 91 = .ok (.dup, 1) := by decide +kernel
theorem dX1_tie_92 : decode cX1_tie 92 = .ok (.getfield 99, 3) := by decide +kernel
theorem dX1_tie_95 : decode cX1_tie 95 = .ok (.iconst 1, 1) := by decide +kernel
theorem dX1_tie_96 : decode cX1_tie 96 = .ok (.iadd, 1) := by decide +kernel
theorem dX1_tie_97 : decode cX1_tie 97 = .ok (.putfield 99, 3) := by decide +kernel
theorem dX1_tie_100 : decode cX1_tie 100 = .ok (.aload_n 0, 1) := by decide +kernel
theorem dX1_tie_101 : decode cX1_tie 101 = .ok (.iload_n 3, 1) := by decide +kernel
theorem dX1_tie_102 : decode cX1_tie 102 = .ok (.iload 4, 2) := by decide +kernel
theorem dX1_tie_104 : decode cX1_tie 104 = .ok (.invokevirtual 108, 3) := by decide +kernel
theorem dX1_tie_107 : decode cX1_tie 107 = .ok (.iinc 2 1, 3) := by decide +kernel
theorem dX1_tie_110 : decode cX1_tie 110 = .ok (.goto (-82), 3) := by decide +kernel
theorem dX1_tie_113 : decode cX1_tie 113 = .ok (.return_, 1) := by decide +kernel
theorem dX1_groupOf_0 : decode cX1_groupOf 0 = .ok (.aload_n 0, 1) := by decide +kernel
theorem dX1_groupOf_1 : decode cX1_groupOf 1 = .ok (.getfield 27, 3) := by decide +kernel
theorem dX1_groupOf_4 : decode cX1_groupOf 4 = .ok (.iload_n 1, 1) := by decide +kernel
theorem dX1_groupOf_5 : decode cX1_groupOf 5 = .ok (.invokestatic 112, 3) := by decide +kernel
theorem dX1_groupOf_8 : decode cX1_groupOf 8 = .ok (.ireturn, 1) := by decide +kernel
theorem dX1_regroup_0 : decode cX1_regroup 0 = .ok (.iconst 0, 1) := by decide +kernel
theorem dX1_regroup_1 : decode cX1_regroup 1 = .ok (.istore_n 3, 1) := by decide +kernel
theorem dX1_regroup_2 : decode cX1_regroup 2 = .ok (.iload_n 3, 1) := by decide +kernel
theorem dX1_regroup_3 : decode cX1_regroup 3 = .ok (.bipush 36, 2) := by decide +kernel
theorem dX1_regroup_5 : decode cX1_regroup 5 = .ok (.if_icmp .ge 26, 3) := by decide +kernel
theorem dX1_regroup_8 : decode cX1_regroup 8 = .ok (.aload_n 0, 1) := by decide +kernel
theorem dX1_regroup_9 : decode cX1_regroup 9 = .ok (.getfield 27, 3) := by decide +kernel
theorem dX1_regroup_12 : decode cX1_regroup 12 = .ok (.iload_n 3, 1) := by decide +kernel
theorem dX1_regroup_13 : decode cX1_regroup 13 = .ok (.iaload, 1) := by decide +kernel
theorem dX1_regroup_14 : decode cX1_regroup 14 = .ok (.iload_n 1, 1) := by decide +kernel
theorem dX1_regroup_15 : decode cX1_regroup 15 = .ok (.if_icmp .ne 10, 3) := by decide +kernel
theorem dX1_regroup_18 : decode cX1_regroup 18 = .ok (.aload_n 0, 1) := by decide +kernel
theorem dX1_regroup_19 : decode cX1_regroup 19 = .ok (.getfield 27, 3) := by decide +kernel
theorem dX1_regroup_22 : decode cX1_regroup 22 = .ok (.iload_n 3, 1) := by decide +kernel
theorem dX1_regroup_23 : decode cX1_regroup 23 = .ok (.iload_n 2, 1) := by decide +kernel
theorem dX1_regroup_24 : decode cX1_regroup 24 = .ok (.iastore, 1) := by decide +kernel
theorem dX1_regroup_25 : decode cX1_regroup 25 = .ok (.iinc 3 1, 3) := by decide +kernel
theorem dX1_regroup_28 : decode cX1_regroup 28 = .ok (.goto (-26), 3) := by decide +kernel
theorem dX1_regroup_31 : decode cX1_regroup 31 = .ok (.return_, 1) := by decide +kernel
theorem dX1_tieAt_0 : decode cX1_tieAt 0 = .ok (.aload_n 0, 1) := by decide +kernel
theorem dX1_tieAt_1 : decode cX1_tieAt 1 = .ok (.getfield 24, 3) := by decide +kernel
theorem dX1_tieAt_4 : decode cX1_tieAt 4 = .ok (.iload_n 1, 1) := by decide +kernel
theorem dX1_tieAt_5 : decode cX1_tieAt 5 = .ok (.invokestatic 112, 3) := by decide +kernel
theorem dX1_tieAt_8 : decode cX1_tieAt 8 = .ok (.ireturn, 1) := by decide +kernel
theorem dX1_overAt_0 : decode cX1_overAt 0 = .ok (.aload_n 0, 1) := by decide +kernel
theorem dX1_overAt_1 : decode cX1_overAt 1 = .ok (.getfield 18, 3) := by decide +kernel
theorem dX1_overAt_4 : decode cX1_overAt 4 = .ok (.iload_n 1, 1) := by decide +kernel
theorem dX1_overAt_5 : decode cX1_overAt 5 = .ok (.invokestatic 112, 3) := by decide +kernel
theorem dX1_overAt_8 : decode cX1_overAt 8 = .ok (.ireturn, 1) := by decide +kernel
theorem dX1_underAt_0 : decode cX1_underAt 0 = .ok (.aload_n 0, 1) := by decide +kernel
theorem dX1_underAt_1 : decode cX1_underAt 1 = .ok (.getfield 21, 3) := by decide +kernel
theorem dX1_underAt_4 : decode cX1_underAt 4 = .ok (.iload_n 1, 1) := by decide +kernel
theorem dX1_underAt_5 : decode cX1_underAt 5 = .ok (.invokestatic 112, 3) := by decide +kernel
theorem dX1_underAt_8 : decode cX1_underAt 8 = .ok (.ireturn, 1) := by decide +kernel
theorem dX1_arcAt_0 : decode cX1_arcAt 0 = .ok (.aload_n 0, 1) := by decide +kernel
theorem dX1_arcAt_1 : decode cX1_arcAt 1 = .ok (.getfield 15, 3) := by decide +kernel
theorem dX1_arcAt_4 : decode cX1_arcAt 4 = .ok (.iload_n 1, 1) := by decide +kernel
theorem dX1_arcAt_5 : decode cX1_arcAt 5 = .ok (.invokestatic 112, 3) := by decide +kernel
theorem dX1_arcAt_8 : decode cX1_arcAt 8 = .ok (.ireturn, 1) := by decide +kernel
theorem dX1_isHere_0 : decode cX1_isHere 0 = .ok (.aload_n 0, 1) := by decide +kernel
theorem dX1_isHere_1 : decode cX1_isHere 1 = .ok (.iload_n 1, 1) := by decide +kernel
theorem dX1_isHere_2 : decode cX1_isHere 2 = .ok (.invokevirtual 116, 3) := by decide +kernel
theorem dX1_isHere_5 : decode cX1_isHere 5 = .ok (.ifCond .lt 15, 3) := by decide +kernel
theorem dX1_isHere_8 : decode cX1_isHere 8 = .ok (.aload_n 0, 1) := by decide +kernel
theorem dX1_isHere_9 : decode cX1_isHere 9 = .ok (.iload_n 1, 1) := by decide +kernel
theorem dX1_isHere_10 : decode cX1_isHere 10 = .ok (.invokevirtual 119, 3) := by decide +kernel
theorem dX1_isHere_13 : decode cX1_isHere 13 = .ok (.ifCond .lt 7, 3) := by decide +kernel
theorem dX1_isHere_16 : decode cX1_isHere 16 = .ok (.iconst 1, 1) := by decide +kernel
theorem dX1_isHere_17 : decode cX1_isHere 17 = .ok (.goto 4, 3) := by decide +kernel
theorem dX1_isHere_20 : decode cX1_isHere 20 = .ok (.iconst 0, 1) := by decide +kernel
theorem dX1_isHere_21 : decode cX1_isHere 21 = .ok (.ireturn, 1) := by decide +kernel
theorem dX1_loopOver_0 : decode cX1_loopOver 0 = .ok (.aload_n 1, 1) := by decide +kernel
theorem dX1_loopOver_1 : decode cX1_loopOver 1 = .ok (.aload_n 0, 1) := by decide +kernel
theorem dX1_loopOver_2 : decode cX1_loopOver 2 = .ok (.iload_n 2, 1) := by decide +kernel
theorem dX1_loopOver_3 : decode cX1_loopOver 3 = .ok (.invokevirtual 116, 3) := by decide +kernel
theorem dX1_loopOver_6 : decode cX1_loopOver 6 = .ok (.invokevirtual 102, 3) := by decide +kernel
theorem dX1_loopOver_9 : decode cX1_loopOver 9 = .ok (.ireturn, 1) := by decide +kernel
theorem dX1_loopUnder_0 : decode cX1_loopUnder 0 = .ok (.aload_n 1, 1) := by decide +kernel
theorem dX1_loopUnder_1 : decode cX1_loopUnder 1 = .ok (.aload_n 0, 1) := by decide +kernel
theorem dX1_loopUnder_2 : decode cX1_loopUnder 2 = .ok (.iload_n 2, 1) := by decide +kernel
theorem dX1_loopUnder_3 : decode cX1_loopUnder 3 = .ok (.invokevirtual 119, 3) := by decide +kernel
theorem dX1_loopUnder_6 : decode cX1_loopUnder 6 = .ok (.invokevirtual 102, 3) := by decide +kernel
theorem dX1_loopUnder_9 : decode cX1_loopUnder 9 = .ok (.ireturn, 1) := by decide +kernel
theorem dX1_countPasses_0 : decode cX1_countPasses 0 = .ok (.iconst 0, 1) := by decide +kernel
theorem dX1_countPasses_1 : decode cX1_countPasses 1 = .ok (.istore 4, 2) := by decide +kernel
theorem dX1_countPasses_3 : decode cX1_countPasses 3 = .ok (.aload_n 1, 1) := by decide +kernel
theorem dX1_countPasses_4 : decode cX1_countPasses 4 = .ok (.iload_n 2, 1) := by decide +kernel
theorem dX1_countPasses_5 : decode cX1_countPasses 5 = .ok (.iconst 1, 1) := by decide +kernel
theorem dX1_countPasses_6 : decode cX1_countPasses 6 = .ok (.iadd, 1) := by decide +kernel
theorem dX1_countPasses_7 : decode cX1_countPasses 7 = .ok (.invokevirtual 82, 3) := by decide +kernel
theorem dX1_countPasses_10 : decode cX1_countPasses 10 = .ok (.istore 5, 2) := by decide +kernel
theorem dX1_countPasses_12 : decode cX1_countPasses 12 = .ok (.aload_n 1, 1) := by decide +kernel
theorem dX1_countPasses_13 : decode cX1_countPasses 13 = .ok (.iload_n 2, 1) := by decide +kernel
theorem dX1_countPasses_14 : decode cX1_countPasses 14 = .ok (.invokevirtual 82, 3) := by decide +kernel
theorem dX1_countPasses_17 : decode cX1_countPasses 17 = .ok (.istore 6, 2) := by decide +kernel
theorem dX1_countPasses_19 : decode cX1_countPasses 19 = .ok (.iload 6, 2) := by decide +kernel
theorem dX1_countPasses_21 : decode cX1_countPasses 21 = .ok (.iload 5, 2) := by decide +kernel
theorem dX1_countPasses_23 : decode cX1_countPasses 23 = .ok (.if_icmp .ge 35, 3) := by decide +kernel
theorem dX1_countPasses_26 : decode cX1_countPasses 26 = .ok (.aload_n 0, 1) := by decide +kernel
theorem dX1_countPasses_27 : decode cX1_countPasses 27 = .ok (.getfield 9, 3) := by decide +kernel
theorem dX1_countPasses_30 : decode cX1_countPasses 30 = .ok (.iload 6, 2) := by decide +kernel
theorem dX1_countPasses_32 : decode cX1_countPasses 32 = .ok (.invokestatic 89, 3) := by decide +kernel
theorem dX1_countPasses_35 : decode cX1_countPasses 35 = .ok (.ifCond .eq 23, 3) := by decide +kernel
theorem dX1_countPasses_38 : decode cX1_countPasses 38 = .ok (.aload_n 0, 1) := by decide +kernel
theorem dX1_countPasses_39 : decode cX1_countPasses 39 = .ok (.getfield 9, 3) := by decide +kernel
theorem dX1_countPasses_42 : decode cX1_countPasses 42 = .ok (.iload 6, 2) := by decide +kernel
theorem dX1_countPasses_44 : decode cX1_countPasses 44 = .ok (.iaload, 1) := by decide +kernel
theorem dX1_countPasses_45 : decode cX1_countPasses 45 = .ok (.iload_n 3, 1) := by decide +kernel
theorem dX1_countPasses_46 : decode cX1_countPasses 46 = .ok (.if_icmp .ne 6, 3) := by decide +kernel
theorem dX1_countPasses_49 : decode cX1_countPasses 49 = .ok (.iinc 4 1, 3) := by decide +kernel
theorem dX1_countPasses_52 : decode cX1_countPasses 52 = .ok (.iinc 6 1, 3) := by decide +kernel
theorem dX1_countPasses_55 : decode cX1_countPasses 55 = .ok (.goto (-36), 3) := by decide +kernel
theorem dX1_countPasses_58 : decode cX1_countPasses 58 = .ok (.iload 4, 2) := by decide +kernel
theorem dX1_countPasses_60 : decode cX1_countPasses 60 = .ok (.ireturn, 1) := by decide +kernel
theorem dX1_countBends_0 : decode cX1_countBends 0 = .ok (.aload_n 0, 1) := by decide +kernel
theorem dX1_countBends_1 : decode cX1_countBends 1 = .ok (.aload_n 1, 1) := by decide +kernel
theorem dX1_countBends_2 : decode cX1_countBends 2 = .ok (.iload_n 2, 1) := by decide +kernel
theorem dX1_countBends_3 : decode cX1_countBends 3 = .ok (.iconst 0, 1) := by decide +kernel
theorem dX1_countBends_4 : decode cX1_countBends 4 = .ok (.invokevirtual 85, 3) := by decide +kernel
theorem dX1_countBends_7 : decode cX1_countBends 7 = .ok (.ireturn, 1) := by decide +kernel
theorem dX1_countUneven_0 : decode cX1_countUneven 0 = .ok (.iconst 0, 1) := by decide +kernel
theorem dX1_countUneven_1 : decode cX1_countUneven 1 = .ok (.istore_n 3, 1) := by decide +kernel
theorem dX1_countUneven_2 : decode cX1_countUneven 2 = .ok (.aload_n 0, 1) := by decide +kernel
theorem dX1_countUneven_3 : decode cX1_countUneven 3 = .ok (.aload_n 1, 1) := by decide +kernel
theorem dX1_countUneven_4 : decode cX1_countUneven 4 = .ok (.iload_n 2, 1) := by decide +kernel
theorem dX1_countUneven_5 : decode cX1_countUneven 5 = .ok (.invokevirtual 122, 3) := by decide +kernel
theorem dX1_countUneven_8 : decode cX1_countUneven 8 = .ok (.istore 4, 2) := by decide +kernel
theorem dX1_countUneven_10 : decode cX1_countUneven 10 = .ok (.aload_n 1, 1) := by decide +kernel
theorem dX1_countUneven_11 : decode cX1_countUneven 11 = .ok (.iload_n 2, 1) := by decide +kernel
theorem dX1_countUneven_12 : decode cX1_countUneven 12 = .ok (.iconst 1, 1) := by decide +kernel
theorem dX1_countUneven_13 : decode cX1_countUneven 13 = .ok (.iadd, 1) := by decide +kernel
theorem dX1_countUneven_14 : decode cX1_countUneven 14 = .ok (.invokevirtual 82, 3) := by decide +kernel
theorem dX1_countUneven_17 : decode cX1_countUneven 17 = .ok (.istore 5, 2) := by decide +kernel
theorem dX1_countUneven_19 : decode cX1_countUneven 19 = .ok (.aload_n 1, 1) := by decide +kernel
theorem dX1_countUneven_20 : decode cX1_countUneven 20 = .ok (.iload_n 2, 1) := by decide +kernel
theorem dX1_countUneven_21 : decode cX1_countUneven 21 = .ok (.invokevirtual 82, 3) := by decide +kernel
theorem dX1_countUneven_24 : decode cX1_countUneven 24 = .ok (.istore 6, 2) := by decide +kernel
theorem dX1_countUneven_26 : decode cX1_countUneven 26 = .ok (.iload 6, 2) := by decide +kernel
theorem dX1_countUneven_28 : decode cX1_countUneven 28 = .ok (.iload 5, 2) := by decide +kernel
theorem dX1_countUneven_30 : decode cX1_countUneven 30 = .ok (.if_icmp .ge 55, 3) := by decide +kernel
theorem dX1_countUneven_33 : decode cX1_countUneven 33 = .ok (.aload_n 0, 1) := by decide +kernel
theorem dX1_countUneven_34 : decode cX1_countUneven 34 = .ok (.getfield 9, 3) := by decide +kernel
theorem dX1_countUneven_37 : decode cX1_countUneven 37 = .ok (.iload 6, 2) := by decide +kernel
theorem dX1_countUneven_39 : decode cX1_countUneven 39 = .ok (.invokestatic 89, 3) := by decide +kernel
theorem dX1_countUneven_42 : decode cX1_countUneven 42 = .ok (.ifCond .eq 43, 3) := by decide +kernel
theorem dX1_countUneven_45 : decode cX1_countUneven 45 = .ok (.aload_n 0, 1) := by decide +kernel
theorem dX1_countUneven_46 : decode cX1_countUneven 46 = .ok (.getfield 9, 3) := by decide +kernel
theorem dX1_countUneven_49 : decode cX1_countUneven 49 = .ok (.iload 6, 2) := by decide +kernel
theorem dX1_countUneven_51 : decode cX1_countUneven 51 = .ok (.iaload, 1) := by decide +kernel
theorem dX1_countUneven_52 : decode cX1_countUneven 52 = .ok (.ifCond .eq 27, 3) := by decide +kernel
theorem dX1_countUneven_55 : decode cX1_countUneven 55 = .ok (.aload_n 0, 1) := by decide +kernel
theorem dX1_countUneven_56 : decode cX1_countUneven 56 = .ok (.getfield 9, 3) := by decide +kernel
theorem dX1_countUneven_59 : decode cX1_countUneven 59 = .ok (.iload 6, 2) := by decide +kernel
theorem dX1_countUneven_61 : decode cX1_countUneven 61 = .ok (.iaload, 1) := by decide +kernel
theorem dX1_countUneven_62 : decode cX1_countUneven 62 = .ok (.iload 4, 2) := by decide +kernel
theorem dX1_countUneven_64 : decode cX1_countUneven 64 = .ok (.if_icmp .ne 6, 3) := by decide +kernel
theorem dX1_countUneven_67 : decode cX1_countUneven 67 = .ok (.iinc 3 1, 3) := by decide +kernel
theorem dX1_countUneven_70 : decode cX1_countUneven 70 = .ok (.aload_n 0, 1) := by decide +kernel
theorem dX1_countUneven_71 : decode cX1_countUneven 71 = .ok (.getfield 9, 3) := by decide +kernel
theorem dX1_countUneven_74 : decode cX1_countUneven 74 = .ok (.iload 6, 2) := by decide +kernel
theorem dX1_countUneven_76 : decode cX1_countUneven 76 = .ok (.iaload, 1) := by decide +kernel
theorem dX1_countUneven_77 : decode cX1_countUneven 77 = .ok (.istore 4, 2) := by decide +kernel
theorem dX1_countUneven_79 : decode cX1_countUneven 79 = .ok (.iinc 6 1, 3) := by decide +kernel
theorem dX1_countUneven_82 : decode cX1_countUneven 82 = .ok (.goto (-56), 3) := by decide +kernel
theorem dX1_countUneven_85 : decode cX1_countUneven 85 = .ok (.iload_n 3, 1) := by decide +kernel
theorem dX1_countUneven_86 : decode cX1_countUneven 86 = .ok (.ireturn, 1) := by decide +kernel
theorem dX1_lastPass_0 : decode cX1_lastPass 0 = .ok (.iconst 0, 1) := by decide +kernel
theorem dX1_lastPass_1 : decode cX1_lastPass 1 = .ok (.istore_n 3, 1) := by decide +kernel
theorem dX1_lastPass_2 : decode cX1_lastPass 2 = .ok (.aload_n 1, 1) := by decide +kernel
theorem dX1_lastPass_3 : decode cX1_lastPass 3 = .ok (.iload_n 2, 1) := by decide +kernel
theorem dX1_lastPass_4 : decode cX1_lastPass 4 = .ok (.iconst 1, 1) := by decide +kernel
theorem dX1_lastPass_5 : decode cX1_lastPass 5 = .ok (.iadd, 1) := by decide +kernel
theorem dX1_lastPass_6 : decode cX1_lastPass 6 = .ok (.invokevirtual 82, 3) := by decide +kernel
theorem dX1_lastPass_9 : decode cX1_lastPass 9 = .ok (.istore 4, 2) := by decide +kernel
theorem dX1_lastPass_11 : decode cX1_lastPass 11 = .ok (.aload_n 1, 1) := by decide +kernel
theorem dX1_lastPass_12 : decode cX1_lastPass 12 = .ok (.iload_n 2, 1) := by decide +kernel
theorem dX1_lastPass_13 : decode cX1_lastPass 13 = .ok (.invokevirtual 82, 3) := by decide +kernel
theorem dX1_lastPass_16 : decode cX1_lastPass 16 = .ok (.istore 5, 2) := by decide +kernel
theorem dX1_lastPass_18 : decode cX1_lastPass 18 = .ok (.iload 5, 2) := by decide +kernel
theorem dX1_lastPass_20 : decode cX1_lastPass 20 = .ok (.iload 4, 2) := by decide +kernel
theorem dX1_lastPass_22 : decode cX1_lastPass 22 = .ok (.if_icmp .ge 39, 3) := by decide +kernel
theorem dX1_lastPass_25 : decode cX1_lastPass 25 = .ok (.aload_n 0, 1) := by decide +kernel
theorem dX1_lastPass_26 : decode cX1_lastPass 26 = .ok (.getfield 9, 3) := by decide +kernel
theorem dX1_lastPass_29 : decode cX1_lastPass 29 = .ok (.iload 5, 2) := by decide +kernel
theorem dX1_lastPass_31 : decode cX1_lastPass 31 = .ok (.invokestatic 89, 3) := by decide +kernel
theorem dX1_lastPass_34 : decode cX1_lastPass 34 = .ok (.ifCond .eq 27, 3) := by decide +kernel
theorem dX1_lastPass_37 : decode cX1_lastPass 37 = .ok (.aload_n 0, 1) := by decide +kernel
theorem dX1_lastPass_38 : decode cX1_lastPass 38 = .ok (.getfield 9, 3) := by decide +kernel
theorem dX1_lastPass_41 : decode cX1_lastPass 41 = .ok (.iload 5, 2) := by decide +kernel
theorem dX1_lastPass_43 : decode cX1_lastPass 43 = .ok (.iaload, 1) := by decide +kernel
theorem dX1_lastPass_44 : decode cX1_lastPass 44 = .ok (.ifCond .eq 11, 3) := by decide +kernel
theorem dX1_lastPass_47 : decode cX1_lastPass 47 = .ok (.aload_n 0, 1) := by decide +kernel
theorem dX1_lastPass_48 : decode cX1_lastPass 48 = .ok (.getfield 9, 3) := by decide +kernel
theorem dX1_lastPass_51 : decode cX1_lastPass 51 = .ok (.iload 5, 2) := by decide +kernel
theorem dX1_lastPass_53 : decode cX1_lastPass 53 = .ok (.iaload, 1) := by decide +kernel
theorem dX1_lastPass_54 : decode cX1_lastPass 54 = .ok (.istore_n 3, 1) := by decide +kernel
theorem dX1_lastPass_55 : decode cX1_lastPass 55 = .ok (.iinc 5 1, 3) := by decide +kernel
theorem dX1_lastPass_58 : decode cX1_lastPass 58 = .ok (.goto (-40), 3) := by decide +kernel
theorem dX1_lastPass_61 : decode cX1_lastPass 61 = .ok (.iload_n 3, 1) := by decide +kernel
theorem dX1_lastPass_62 : decode cX1_lastPass 62 = .ok (.ireturn, 1) := by decide +kernel
theorem dX1_isShared_0 : decode cX1_isShared 0 = .ok (.aload_n 0, 1) := by decide +kernel
theorem dX1_isShared_1 : decode cX1_isShared 1 = .ok (.aload_n 1, 1) := by decide +kernel
theorem dX1_isShared_2 : decode cX1_isShared 2 = .ok (.iload_n 2, 1) := by decide +kernel
theorem dX1_isShared_3 : decode cX1_isShared 3 = .ok (.invokevirtual 126, 3) := by decide +kernel
theorem dX1_isShared_6 : decode cX1_isShared 6 = .ok (.istore 5, 2) := by decide +kernel
theorem dX1_isShared_8 : decode cX1_isShared 8 = .ok (.aload_n 0, 1) := by decide +kernel
theorem dX1_isShared_9 : decode cX1_isShared 9 = .ok (.aload_n 1, 1) := by decide +kernel
theorem dX1_isShared_10 : decode cX1_isShared 10 = .ok (.iload_n 2, 1) := by decide +kernel
theorem dX1_isShared_11 : decode cX1_isShared 11 = .ok (.invokevirtual 129, 3) := by decide +kernel
theorem dX1_isShared_14 : decode cX1_isShared 14 = .ok (.istore 6, 2) := by decide +kernel
theorem dX1_isShared_16 : decode cX1_isShared 16 = .ok (.iload 5, 2) := by decide +kernel
theorem dX1_isShared_18 : decode cX1_isShared 18 = .ok (.iload_n 3, 1) := by decide +kernel
theorem dX1_isShared_19 : decode cX1_isShared 19 = .ok (.if_icmp .ne 10, 3) := by decide +kernel
theorem dX1_isShared_22 : decode cX1_isShared 22 = .ok (.iload 6, 2) := by decide +kernel
theorem dX1_isShared_24 : decode cX1_isShared 24 = .ok (.iload 4, 2) := by decide +kernel
theorem dX1_isShared_26 : decode cX1_isShared 26 = .ok (.if_icmp .eq 16, 3) := by decide +kernel
theorem dX1_isShared_29 : decode cX1_isShared 29 = .ok (.iload 5, 2) := by decide +kernel
theorem dX1_isShared_31 : decode cX1_isShared 31 = .ok (.iload 4, 2) := by decide +kernel
theorem dX1_isShared_33 : decode cX1_isShared 33 = .ok (.if_icmp .ne 13, 3) := by decide +kernel
theorem dX1_isShared_36 : decode cX1_isShared 36 = .ok (.iload 6, 2) := by decide +kernel
theorem dX1_isShared_38 : decode cX1_isShared 38 = .ok (.iload_n 3, 1) := by decide +kernel
theorem dX1_isShared_39 : decode cX1_isShared 39 = .ok (.if_icmp .ne 7, 3) := by decide +kernel
theorem dX1_isShared_42 : decode cX1_isShared 42 = .ok (.iconst 1, 1) := by decide +kernel
theorem dX1_isShared_43 : decode cX1_isShared 43 = .ok (.goto 4, 3) := by decide +kernel
theorem dX1_isShared_46 : decode cX1_isShared 46 = .ok (.iconst 0, 1) := by decide +kernel
theorem dX1_isShared_47 : decode cX1_isShared 47 = .ok (.ireturn, 1) := by decide +kernel
theorem dX1_countShared_0 : decode cX1_countShared 0 = .ok (.iconst 0, 1) := by decide +kernel
theorem dX1_countShared_1 : decode cX1_countShared 1 = .ok (.istore 4, 2) := by decide +kernel
theorem dX1_countShared_3 : decode cX1_countShared 3 = .ok (.iconst 0, 1) := by decide +kernel
theorem dX1_countShared_4 : decode cX1_countShared 4 = .ok (.istore 5, 2) := by decide +kernel
theorem dX1_countShared_6 : decode cX1_countShared 6 = .ok (.iload 5, 2) := by decide +kernel
theorem dX1_countShared_8 : decode cX1_countShared 8 = .ok (.bipush 60, 2) := by decide +kernel
theorem dX1_countShared_10 : decode cX1_countShared 10 = .ok (.if_icmp .ge 24, 3) := by decide +kernel
theorem dX1_countShared_13 : decode cX1_countShared 13 = .ok (.aload_n 0, 1) := by decide +kernel
theorem dX1_countShared_14 : decode cX1_countShared 14 = .ok (.aload_n 1, 1) := by decide +kernel
theorem dX1_countShared_15 : decode cX1_countShared 15 = .ok (.iload 5, 2) := by decide +kernel
theorem dX1_countShared_17 : decode cX1_countShared 17 = .ok (.iload_n 2, 1) := by decide +kernel
theorem dX1_countShared_18 : decode cX1_countShared 18 = .ok (.iload_n 3, 1) := by decide +kernel
theorem dX1_countShared_19 : decode cX1_countShared 19 = .ok (.invokevirtual 132, 3) := by decide +kernel
theorem dX1_countShared_22 : decode cX1_countShared 22 = .ok (.ifCond .eq 6, 3) := by decide +kernel
theorem dX1_countShared_25 : decode cX1_countShared 25 = .ok (.iinc 4 1, 3) := by decide +kernel
theorem dX1_countShared_28 : decode cX1_countShared 28 = .ok (.iinc 5 1, 3) := by decide +kernel
theorem dX1_countShared_31 : decode cX1_countShared 31 = .ok (.goto (-25), 3) := by decide +kernel
theorem dX1_countShared_34 : decode cX1_countShared 34 = .ok (.iload 4, 2) := by decide +kernel
theorem dX1_countShared_36 : decode cX1_countShared 36 = .ok (.ireturn, 1) := by decide +kernel
theorem dX1_signAt_0 : decode cX1_signAt 0 = .ok (.aload_n 0, 1) := by decide +kernel
theorem dX1_signAt_1 : decode cX1_signAt 1 = .ok (.iload_n 2, 1) := by decide +kernel
theorem dX1_signAt_2 : decode cX1_signAt 2 = .ok (.invokevirtual 116, 3) := by decide +kernel
theorem dX1_signAt_5 : decode cX1_signAt 5 = .ok (.istore_n 3, 1) := by decide +kernel
theorem dX1_signAt_6 : decode cX1_signAt 6 = .ok (.aload_n 0, 1) := by decide +kernel
theorem dX1_signAt_7 : decode cX1_signAt 7 = .ok (.iload_n 2, 1) := by decide +kernel
theorem dX1_signAt_8 : decode cX1_signAt 8 = .ok (.invokevirtual 119, 3) := by decide +kernel
theorem dX1_signAt_11 : decode cX1_signAt 11 = .ok (.istore 4, 2) := by decide +kernel
theorem dX1_signAt_13 : decode cX1_signAt 13 = .ok (.aload_n 1, 1) := by decide +kernel
theorem dX1_signAt_14 : decode cX1_signAt 14 = .ok (.iload_n 3, 1) := by decide +kernel
theorem dX1_signAt_15 : decode cX1_signAt 15 = .ok (.invokevirtual 73, 3) := by decide +kernel
theorem dX1_signAt_18 : decode cX1_signAt 18 = .ok (.aload_n 1, 1) := by decide +kernel
theorem dX1_signAt_19 : decode cX1_signAt 19 = .ok (.iload 4, 2) := by decide +kernel
theorem dX1_signAt_21 : decode cX1_signAt 21 = .ok (.invokevirtual 76, 3) := by decide +kernel
theorem dX1_signAt_24 : decode cX1_signAt 24 = .ok (.imul, 1) := by decide +kernel
theorem dX1_signAt_25 : decode cX1_signAt 25 = .ok (.aload_n 1, 1) := by decide +kernel
theorem dX1_signAt_26 : decode cX1_signAt 26 = .ok (.iload_n 3, 1) := by decide +kernel
theorem dX1_signAt_27 : decode cX1_signAt 27 = .ok (.invokevirtual 76, 3) := by decide +kernel
theorem dX1_signAt_30 : decode cX1_signAt 30 = .ok (.aload_n 1, 1) := by decide +kernel
theorem dX1_signAt_31 : decode cX1_signAt 31 = .ok (.iload 4, 2) := by decide +kernel
theorem dX1_signAt_33 : decode cX1_signAt 33 = .ok (.invokevirtual 73, 3) := by decide +kernel
theorem dX1_signAt_36 : decode cX1_signAt 36 = .ok (.imul, 1) := by decide +kernel
theorem dX1_signAt_37 : decode cX1_signAt 37 = .ok (.isub, 1) := by decide +kernel
theorem dX1_signAt_38 : decode cX1_signAt 38 = .ok (.istore 5, 2) := by decide +kernel
theorem dX1_signAt_40 : decode cX1_signAt 40 = .ok (.iload 5, 2) := by decide +kernel
theorem dX1_signAt_42 : decode cX1_signAt 42 = .ok (.ifCond .le 7, 3) := by decide +kernel
theorem dX1_signAt_45 : decode cX1_signAt 45 = .ok (.iconst 1, 1) := by decide +kernel
theorem dX1_signAt_46 : decode cX1_signAt 46 = .ok (.goto 4, 3) := by decide +kernel
theorem dX1_signAt_49 : decode cX1_signAt 49 = .ok (.iconst (-1), 1) := by decide +kernel
theorem dX1_signAt_50 : decode cX1_signAt 50 = .ok (.ireturn, 1) := by decide +kernel
theorem dX1_sumSigns_0 : decode cX1_sumSigns 0 = .ok (.iconst 0, 1) := by decide +kernel
theorem dX1_sumSigns_1 : decode cX1_sumSigns 1 = .ok (.istore_n 2, 1) := by decide +kernel
theorem dX1_sumSigns_2 : decode cX1_sumSigns 2 = .ok (.iconst 0, 1) := by decide +kernel
theorem dX1_sumSigns_3 : decode cX1_sumSigns 3 = .ok (.istore_n 3, 1) := by decide +kernel
theorem dX1_sumSigns_4 : decode cX1_sumSigns 4 = .ok (.iload_n 3, 1) := by decide +kernel
theorem dX1_sumSigns_5 : decode cX1_sumSigns 5 = .ok (.bipush 60, 2) := by decide +kernel
theorem dX1_sumSigns_7 : decode cX1_sumSigns 7 = .ok (.if_icmp .ge 26, 3) := by decide +kernel
theorem dX1_sumSigns_10 : decode cX1_sumSigns 10 = .ok (.aload_n 0, 1) := by decide +kernel
theorem dX1_sumSigns_11 : decode cX1_sumSigns 11 = .ok (.iload_n 3, 1) := by decide +kernel
theorem dX1_sumSigns_12 : decode cX1_sumSigns 12 = .ok (.invokevirtual 136, 3) := by decide +kernel
theorem dX1_sumSigns_15 : decode cX1_sumSigns 15 = .ok (.ifCond .eq 12, 3) := by decide +kernel
theorem dX1_sumSigns_18 : decode cX1_sumSigns 18 = .ok (.iload_n 2, 1) := by decide +kernel
theorem dX1_sumSigns_19 : decode cX1_sumSigns 19 = .ok (.aload_n 0, 1) := by decide +kernel
theorem dX1_sumSigns_20 : decode cX1_sumSigns 20 = .ok (.aload_n 1, 1) := by decide +kernel
theorem dX1_sumSigns_21 : decode cX1_sumSigns 21 = .ok (.iload_n 3, 1) := by decide +kernel
theorem dX1_sumSigns_22 : decode cX1_sumSigns 22 = .ok (.invokevirtual 139, 3) := by decide +kernel
theorem dX1_sumSigns_25 : decode cX1_sumSigns 25 = .ok (.iadd, 1) := by decide +kernel
theorem dX1_sumSigns_26 : decode cX1_sumSigns 26 = .ok (.istore_n 2, 1) := by decide +kernel
theorem dX1_sumSigns_27 : decode cX1_sumSigns 27 = .ok (.iinc 3 1, 3) := by decide +kernel
theorem dX1_sumSigns_30 : decode cX1_sumSigns 30 = .ok (.goto (-26), 3) := by decide +kernel
theorem dX1_sumSigns_33 : decode cX1_sumSigns 33 = .ok (.iload_n 2, 1) := by decide +kernel
theorem dX1_sumSigns_34 : decode cX1_sumSigns 34 = .ok (.ireturn, 1) := by decide +kernel
theorem dX1_sumSharedSigns_0 : decode cX1_sumSharedSigns 0 = .ok (.iconst 0, 1) := by decide +kernel
theorem dX1_sumSharedSigns_1 : decode cX1_sumSharedSigns 1 = .ok (.istore 4, 2) := by decide +kernel
theorem dX1_sumSharedSigns_3 : decode cX1_sumSharedSigns 3 = .ok (.iconst 0, 1) := by decide +kernel
theorem dX1_sumSharedSigns_4 : decode cX1_sumSharedSigns 4 = .ok (.istore 5, 2) := by decide +kernel
theorem dX1_sumSharedSigns_6 : decode cX1_sumSharedSigns 6 = .ok (.iload 5, 2) := by decide +kernel
theorem dX1_sumSharedSigns_8 : decode cX1_sumSharedSigns 8 = .ok (.bipush 60, 2) := by decide +kernel
theorem dX1_sumSharedSigns_10 : decode cX1_sumSharedSigns 10 = .ok (.if_icmp .ge 33, 3) := by decide +kernel
theorem dX1_sumSharedSigns_13 : decode cX1_sumSharedSigns 13 = .ok (.aload_n 0, 1) := by decide +kernel
theorem dX1_sumSharedSigns_14 : decode cX1_sumSharedSigns 14 = .ok (.aload_n 1, 1) := by decide +kernel
theorem dX1_sumSharedSigns_15 : decode cX1_sumSharedSigns 15 = .ok (.iload 5, 2) := by decide +kernel
theorem dX1_sumSharedSigns_17 : decode cX1_sumSharedSigns 17 = .ok (.iload_n 2, 1) := by decide +kernel
theorem dX1_sumSharedSigns_18 : decode cX1_sumSharedSigns 18 = .ok (.iload_n 3, 1) := by decide +kernel
theorem dX1_sumSharedSigns_19 : decode cX1_sumSharedSigns 19 = .ok (.invokevirtual 132, 3) := by decide +kernel
theorem dX1_sumSharedSigns_22 : decode cX1_sumSharedSigns 22 = .ok (.ifCond .eq 15, 3) := by decide +kernel
theorem dX1_sumSharedSigns_25 : decode cX1_sumSharedSigns 25 = .ok (.iload 4, 2) := by decide +kernel
theorem dX1_sumSharedSigns_27 : decode cX1_sumSharedSigns 27 = .ok (.aload_n 0, 1) := by decide +kernel
theorem dX1_sumSharedSigns_28 : decode cX1_sumSharedSigns 28 = .ok (.aload_n 1, 1) := by decide +kernel
theorem dX1_sumSharedSigns_29 : decode cX1_sumSharedSigns 29 = .ok (.iload 5, 2) := by decide +kernel
theorem dX1_sumSharedSigns_31 : decode cX1_sumSharedSigns 31 = .ok (.invokevirtual 139, 3) := by decide +kernel
theorem dX1_sumSharedSigns_34 : decode cX1_sumSharedSigns 34 = .ok (.iadd, 1) := by decide +kernel
theorem dX1_sumSharedSigns_35 : decode cX1_sumSharedSigns 35 = .ok (.istore 4, 2) := by decide +kernel
theorem dX1_sumSharedSigns_37 : decode cX1_sumSharedSigns 37 = .ok (.iinc 5 1, 3) := by decide +kernel
theorem dX1_sumSharedSigns_40 : decode cX1_sumSharedSigns 40 = .ok (.goto (-34), 3) := by decide +kernel
theorem dX1_sumSharedSigns_43 : decode cX1_sumSharedSigns 43 = .ok (.iload 4, 2) := by decide +kernel
theorem dX1_sumSharedSigns_45 : decode cX1_sumSharedSigns 45 = .ok (.ireturn, 1) := by decide +kernel
theorem dX2_init_0 : decode cX2_init 0 = .ok (.aload_n 0, 1) := by decide +kernel
theorem dX2_init_1 : decode cX2_init 1 = .ok (.invokespecial 3, 3) := by decide +kernel
theorem dX2_init_4 : decode cX2_init 4 = .ok (.aload_n 0, 1) := by decide +kernel
theorem dX2_init_5 : decode cX2_init 5 = .ok (.sipush 144, 3) := by decide +kernel
theorem dX2_init_8 : decode cX2_init 8 = .ok (.newarray .int, 2) := by decide +kernel
theorem dX2_init_10 : decode cX2_init 10 = .ok (.putfield 9, 3) := by decide +kernel
theorem dX2_init_13 : decode cX2_init 13 = .ok (.aload_n 0, 1) := by decide +kernel
theorem dX2_init_14 : decode cX2_init 14 = .ok (.bipush 37, 2) := by decide +kernel
theorem dX2_init_16 : decode cX2_init 16 = .ok (.newarray .int, 2) := by decide +kernel
theorem dX2_init_18 : decode cX2_init 18 = .ok (.putfield 15, 3) := by decide +kernel
theorem dX2_init_21 : decode cX2_init 21 = .ok (.aload_n 0, 1) := by decide +kernel
theorem dX2_init_22 : decode cX2_init 22 = .ok (.sipush 144, 3) := by decide +kernel
theorem dX2_init_25 : decode cX2_init 25 = .ok (.newarray .int, 2) := by decide +kernel
theorem dX2_init_27 : decode cX2_init 27 = .ok (.putfield 18, 3) := by decide +kernel
theorem dX2_init_30 : decode cX2_init 30 = .ok (.aload_n 0, 1) := by decide +kernel
theorem dX2_init_31 : decode cX2_init 31 = .ok (.sipush 144, 3) := by decide +kernel
theorem dX2_init_34 : decode cX2_init 34 = .ok (.newarray .int, 2) := by decide +kernel
theorem dX2_init_36 : decode cX2_init 36 = .ok (.putfield 21, 3) := by decide +kernel
theorem dX2_init_39 : decode cX2_init 39 = .ok (.aload_n 0, 1) := by decide +kernel
theorem dX2_init_40 : decode cX2_init 40 = .ok (.sipush 144, 3) := by decide +kernel
theorem dX2_init_43 : decode cX2_init 43 = .ok (.newarray .int, 2) := by decide +kernel
theorem dX2_init_45 : decode cX2_init 45 = .ok (.putfield 24, 3) := by decide +kernel
theorem dX2_init_48 : decode cX2_init 48 = .ok (.aload_n 0, 1) := by decide +kernel
theorem dX2_init_49 : decode cX2_init 49 = .ok (.sipush 144, 3) := by decide +kernel
theorem dX2_init_52 : decode cX2_init 52 = .ok (.newarray .int, 2) := by decide +kernel
theorem dX2_init_54 : decode cX2_init 54 = .ok (.putfield 27, 3) := by decide +kernel
theorem dX2_init_57 : decode cX2_init 57 = .ok (.aload_n 0, 1) := by decide +kernel
theorem dX2_init_58 : decode cX2_init 58 = .ok (.sipush 144, 3) := by decide +kernel
theorem dX2_init_61 : decode cX2_init 61 = .ok (.newarray .int, 2) := by decide +kernel
theorem dX2_init_63 : decode cX2_init 63 = .ok (.putfield 30, 3) := by decide +kernel
theorem dX2_init_66 : decode cX2_init 66 = .ok (.return_, 1) := by decide +kernel
theorem dX2_follow_0 : decode cX2_follow 0 = .ok (.aload_n 0, 1) := by decide +kernel
theorem dX2_follow_1 : decode cX2_follow 1 = .ok (.iconst 0, 1) := by decide +kernel
theorem dX2_follow_2 : decode cX2_follow 2 = .ok (.putfield 33, 3) := by decide +kernel
theorem dX2_follow_5 : decode cX2_follow 5 = .ok (.aload_n 0, 1) := by decide +kernel
theorem dX2_follow_6 : decode cX2_follow 6 = .ok (.iconst 0, 1) := by decide +kernel
theorem dX2_follow_7 : decode cX2_follow 7 = .ok (.putfield 37, 3) := by decide +kernel
theorem dX2_follow_10 : decode cX2_follow 10 = .ok (.aload_n 0, 1) := by decide +kernel
theorem dX2_follow_11 : decode cX2_follow 11 = .ok (.getfield 9, 3) := by decide +kernel
theorem dX2_follow_14 : decode cX2_follow 14 = .ok (.bipush (-9), 2) := by decide +kernel
theorem dX2_follow_16 : decode cX2_follow 16 = .ok (.invokestatic 40, 3) := by decide +kernel
theorem dX2_follow_19 : decode cX2_follow 19 = .ok (.iconst 0, 1) := by decide +kernel
theorem dX2_follow_20 : decode cX2_follow 20 = .ok (.istore_n 2, 1) := by decide +kernel
theorem dX2_follow_21 : decode cX2_follow 21 = .ok (.iload_n 2, 1) := by decide +kernel
theorem dX2_follow_22 : decode cX2_follow 22 = .ok (.iconst 2, 1) := by decide +kernel
theorem dX2_follow_23 : decode cX2_follow 23 = .ok (.aload_n 1, 1) := by decide +kernel
theorem dX2_follow_24 : decode cX2_follow 24 = .ok (.getfield 46, 3) := by decide +kernel
theorem dX2_follow_27 : decode cX2_follow 27 = .ok (.imul, 1) := by decide +kernel
theorem dX2_follow_28 : decode cX2_follow 28 = .ok (.if_icmp .ge 76, 3) := by decide +kernel
theorem dX2_follow_31 : decode cX2_follow 31 = .ok (.iconst 0, 1) := by decide +kernel
theorem dX2_follow_32 : decode cX2_follow 32 = .ok (.istore_n 3, 1) := by decide +kernel
theorem dX2_follow_33 : decode cX2_follow 33 = .ok (.iload_n 3, 1) := by decide +kernel
theorem dX2_follow_34 : decode cX2_follow 34 = .ok (.iconst 2, 1) := by decide +kernel
theorem dX2_follow_35 : decode cX2_follow 35 = .ok (.aload_n 1, 1) := by decide +kernel
theorem dX2_follow_36 : decode cX2_follow 36 = .ok (.getfield 51, 3) := by decide +kernel
theorem dX2_follow_39 : decode cX2_follow 39 = .ok (.imul, 1) := by decide +kernel
theorem dX2_follow_40 : decode cX2_follow 40 = .ok (.if_icmp .ge 58, 3) := by decide +kernel
theorem dX2_follow_43 : decode cX2_follow 43 = .ok (.aload_n 0, 1) := by decide +kernel
theorem dX2_follow_44 : decode cX2_follow 44 = .ok (.aload_n 1, 1) := by decide +kernel
theorem dX2_follow_45 : decode cX2_follow 45 = .ok (.iload_n 2, 1) := by decide +kernel
theorem dX2_follow_46 : decode cX2_follow 46 = .ok (.iload_n 3, 1) := by decide +kernel
theorem dX2_follow_47 : decode cX2_follow 47 = .ok (.invokevirtual 54, 3) := by decide +kernel
theorem dX2_follow_50 : decode cX2_follow 50 = .ok (.ifCond .eq 42, 3) := by decide +kernel
theorem dX2_follow_53 : decode cX2_follow 53 = .ok (.aload_n 0, 1) := by decide +kernel
theorem dX2_follow_54 : decode cX2_follow 54 = .ok (.getfield 33, 3) := by decide +kernel
theorem dX2_follow_57 : decode cX2_follow 57 = .ok (.bipush 36, 2) := by decide +kernel
theorem dX2_follow_59 : decode cX2_follow 59 = .ok (.if_icmp .ge 33, 3) := by decide +kernel
theorem dX2_follow_62 : decode cX2_follow 62 = .ok (.aload_n 0, 1) := by decide +kernel
theorem dX2_follow_63 : decode cX2_follow 63 = .ok (.aload_n 1, 1) := by decide +kernel
theorem dX2_follow_64 : decode cX2_follow 64 = .ok (.iload_n 2, 1) := by decide +kernel
theorem dX2_follow_65 : decode cX2_follow 65 = .ok (.iload_n 3, 1) := by decide +kernel
theorem dX2_follow_66 : decode cX2_follow 66 = .ok (.invokevirtual 58, 3) := by decide +kernel
theorem dX2_follow_69 : decode cX2_follow 69 = .ok (.aload_n 0, 1) := by decide +kernel
theorem dX2_follow_70 : decode cX2_follow 70 = .ok (.dup, 1) := by decide +kernel
theorem dX2_follow_71 : decode cX2_follow 71 = .ok (.getfield 33, 3) := by decide +kernel
theorem dX2_follow_74 : decode cX2_follow 74 = .ok (.iconst 1, 1) := by decide +kernel
theorem dX2_follow_75 : decode cX2_follow 75 = .ok (.iadd, 1) := by decide +kernel
theorem dX2_follow_76 : decode cX2_follow 76 = .ok (.putfield 33, 3) := by decide +kernel
theorem dX2_follow_79 : decode cX2_follow 79 = .ok (.aload_n 0, 1) := by decide +kernel
theorem dX2_follow_80 : decode cX2_follow 80 = .ok (.getfield 15, 3) := by decide +kernel
theorem dX2_follow_83 : decode cX2_follow 83 = .ok (.aload_n 0, 1) := by decide +kernel
theorem dX2_follow_84 : decode cX2_follow 84 = .ok (.getfield 33, 3) := by decide +kernel
theorem dX2_follow_87 : decode cX2_follow 87 = .ok (.aload_n 0, 1) := by decide +kernel
theorem dX2_follow_88 : decode cX2_follow 88 = .ok (.getfield 37, 3) := by decide +kernel
theorem dX2_follow_91 : decode cX2_follow 91 = .ok (.iastore, 1) := by decide +kernel
theorem dX2_follow_92 : decode cX2_follow 92 = .ok (.iinc 3 1, 3) := by decide +kernel
theorem dX2_follow_95 : decode cX2_follow 95 = .ok (.goto (-62), 3) := by decide +kernel
theorem dX2_follow_98 : decode cX2_follow 98 = .ok (.iinc 2 1, 3) := by decide +kernel
theorem dX2_follow_101 : decode cX2_follow 101 = .ok (.goto (-80), 3) := by decide +kernel
theorem dX2_follow_104 : decode cX2_follow 104 = .ok (.return_, 1) := by decide +kernel
theorem dX2_isFree_0 : decode cX2_isFree 0 = .ok (.aload_n 1, 1) := by decide +kernel
theorem dX2_isFree_1 : decode cX2_isFree 1 = .ok (.iload_n 2, 1) := by decide +kernel
theorem dX2_isFree_2 : decode cX2_isFree 2 = .ok (.iload_n 3, 1) := by decide +kernel
theorem dX2_isFree_3 : decode cX2_isFree 3 = .ok (.invokevirtual 62, 3) := by decide +kernel
theorem dX2_isFree_6 : decode cX2_isFree 6 = .ok (.ifCond .eq 21, 3) := by decide +kernel
theorem dX2_isFree_9 : decode cX2_isFree 9 = .ok (.aload_n 0, 1) := by decide +kernel
theorem dX2_isFree_10 : decode cX2_isFree 10 = .ok (.getfield 9, 3) := by decide +kernel
theorem dX2_isFree_13 : decode cX2_isFree 13 = .ok (.iload_n 2, 1) := by decide +kernel
theorem dX2_isFree_14 : decode cX2_isFree 14 = .ok (.bipush 12, 2) := by decide +kernel
theorem dX2_isFree_16 : decode cX2_isFree 16 = .ok (.imul, 1) := by decide +kernel
theorem dX2_isFree_17 : decode cX2_isFree 17 = .ok (.iload_n 3, 1) := by decide +kernel
theorem dX2_isFree_18 : decode cX2_isFree 18 = .ok (.iadd, 1) := by decide +kernel
theorem dX2_isFree_19 : decode cX2_isFree 19 = .ok (.iaload, 1) := by decide +kernel
theorem dX2_isFree_20 : decode cX2_isFree 20 = .ok (.ifCond .ge 7, 3) := by decide +kernel
theorem dX2_isFree_23 : decode cX2_isFree 23 = .ok (.iconst 1, 1) := by decide +kernel
theorem dX2_isFree_24 : decode cX2_isFree 24 = .ok (.goto 4, 3) := by decide +kernel
theorem dX2_isFree_27 : decode cX2_isFree 27 = .ok (.iconst 0, 1) := by decide +kernel
theorem dX2_isFree_28 : decode cX2_isFree 28 = .ok (.ireturn, 1) := by decide +kernel
theorem dX2_goRound_0 : decode cX2_goRound 0 = .ok (.iconst 1, 1) := by decide +kernel
theorem dX2_goRound_1 : decode cX2_goRound 1 = .ok (.istore 4, 2) := by decide +kernel
theorem dX2_goRound_3 : decode cX2_goRound 3 = .ok (.iload_n 2, 1) := by decide +kernel
theorem dX2_goRound_4 : decode cX2_goRound 4 = .ok (.iload_n 3, 1) := by decide +kernel
theorem dX2_goRound_5 : decode cX2_goRound 5 = .ok (.iadd, 1) := by decide +kernel
theorem dX2_goRound_6 : decode cX2_goRound 6 = .ok (.iconst 2, 1) := by decide +kernel
theorem dX2_goRound_7 : decode cX2_goRound 7 = .ok (.irem, 1) := by decide +kernel
theorem dX2_goRound_8 : decode cX2_goRound 8 = .ok (.ifCond .ne 7, 3) := by decide +kernel
theorem dX2_goRound_11 : decode cX2_goRound 11 = .ok (.iconst (-1), 1) := by decide +kernel
theorem dX2_goRound_12 : decode cX2_goRound 12 = .ok (.goto 4, 3) := by decide +kernel
theorem dX2_goRound_15 : decode cX2_goRound 15 = .ok (.iconst 1, 1) := by decide +kernel
theorem dX2_goRound_16 : decode cX2_goRound 16 = .ok (.istore 5, 2) := by decide +kernel
theorem dX2_goRound_18 : decode cX2_goRound 18 = .ok (.aload_n 0, 1) := by decide +kernel
theorem dX2_goRound_19 : decode cX2_goRound 19 = .ok (.getfield 37, 3) := by decide +kernel
theorem dX2_goRound_22 : decode cX2_goRound 22 = .ok (.sipush 144, 3) := by decide +kernel
theorem dX2_goRound_25 : decode cX2_goRound 25 = .ok (.if_icmp .ge 208, 3) := by decide +kernel
theorem dX2_goRound_28 : decode cX2_goRound 28 = .ok (.aload_n 0, 1) := by decide +kernel
theorem dX2_goRound_29 : decode cX2_goRound 29 = .ok (.aload_n 1, 1) := by decide +kernel
theorem dX2_goRound_30 : decode cX2_goRound 30 = .ok (.iload_n 2, 1) := by decide +kernel
theorem dX2_goRound_31 : decode cX2_goRound 31 = .ok (.iload_n 3, 1) := by decide +kernel
theorem dX2_goRound_32 : decode cX2_goRound 32 = .ok (.invokevirtual 54, 3) := by decide +kernel
theorem dX2_goRound_35 : decode cX2_goRound 35 = .ok (.ifCond .eq 198, 3) := by decide +kernel
theorem dX2_goRound_38 : decode cX2_goRound 38 = .ok (.iload 4, 2) := by decide +kernel
theorem dX2_goRound_40 : decode cX2_goRound 40 = .ok (.ifCond .le 9, 3) := by decide +kernel
theorem dX2_goRound_43 : decode cX2_goRound 43 = .ok (.iload_n 2, 1) := by decide +kernel
theorem dX2_goRound_44 : decode cX2_goRound 44 = .ok (.iconst 1, 1) := by decide +kernel
theorem dX2_goRound_45 : decode cX2_goRound 45 = .ok (.iadd, 1) := by decide +kernel
theorem dX2_goRound_46 : decode cX2_goRound 46 = .ok (.goto 4, 3) := by decide +kernel
theorem dX2_goRound_49 : decode cX2_goRound 49 = .ok (.iload_n 2, 1) := by decide +kernel
theorem dX2_goRound_50 : decode cX2_goRound 50 = .ok (.istore 6, 2) := by decide +kernel
theorem dX2_goRound_52 : decode cX2_goRound 52 = .ok (.iload 5, 2) := by decide +kernel
theorem dX2_goRound_54 : decode cX2_goRound 54 = .ok (.ifCond .le 9, 3) := by decide +kernel
theorem dX2_goRound_57 : decode cX2_goRound 57 = .ok (.iload_n 3, 1) := by decide +kernel
theorem dX2_goRound_58 : decode cX2_goRound 58 = .ok (.iconst 1, 1) := by decide +kernel
theorem dX2_goRound_59 : decode cX2_goRound 59 = .ok (.iadd, 1) := by decide +kernel
theorem dX2_goRound_60 : decode cX2_goRound 60 = .ok (.goto 4, 3) := by decide +kernel
theorem dX2_goRound_63 : decode cX2_goRound 63 = .ok (.iload_n 3, 1) := by decide +kernel
theorem dX2_goRound_64 : decode cX2_goRound 64 = .ok (.istore 7, 2) := by decide +kernel
theorem dX2_goRound_66 : decode cX2_goRound 66 = .ok (.aload_n 0, 1) := by decide +kernel
theorem dX2_goRound_67 : decode cX2_goRound 67 = .ok (.getfield 9, 3) := by decide +kernel
theorem dX2_goRound_70 : decode cX2_goRound 70 = .ok (.iload_n 2, 1) := by decide +kernel
theorem dX2_goRound_71 : decode cX2_goRound 71 = .ok (.bipush 12, 2) := by decide +kernel
theorem dX2_goRound_73 : decode cX2_goRound 73 = .ok (.imul, 1) := by decide +kernel
theorem dX2_goRound_74 : decode cX2_goRound 74 = .ok (.iload_n 3, 1) := by decide +kernel
theorem dX2_goRound_75 : decode cX2_goRound 75 = .ok (.iadd, 1) := by decide +kernel
theorem dX2_goRound_76 : decode cX2_goRound 76 = .ok (.aload_n 0, 1) := by decide +kernel
theorem dX2_goRound_77 : decode cX2_goRound 77 = .ok (.getfield 33, 3) := by decide +kernel
theorem dX2_goRound_80 : decode cX2_goRound 80 = .ok (.iastore, 1) := by decide +kernel
theorem dX2_goRound_81 : decode cX2_goRound 81 = .ok (.aload_n 0, 1) := by decide +kernel
theorem dX2_goRound_82 : decode cX2_goRound 82 = .ok (.getfield 18, 3) := by decide +kernel
theorem dX2_goRound_85 : decode cX2_goRound 85 = .ok (.aload_n 0, 1) := by decide +kernel
theorem dX2_goRound_86 : decode cX2_goRound 86 = .ok (.getfield 37, 3) := by decide +kernel
theorem dX2_goRound_89 : decode cX2_goRound 89 = .ok (.aload_n 0, 1) := by decide +kernel
theorem dX2_goRound_90 : decode cX2_goRound 90 = .ok (.getfield 33, 3) := by decide +kernel
theorem dX2_goRound_93 : decode cX2_goRound 93 = .ok (.iastore, 1) := by decide +kernel
theorem dX2_goRound_94 : decode cX2_goRound 94 = .ok (.aload_n 0, 1) := by decide +kernel
theorem dX2_goRound_95 : decode cX2_goRound 95 = .ok (.getfield 21, 3) := by decide +kernel
theorem dX2_goRound_98 : decode cX2_goRound 98 = .ok (.aload_n 0, 1) := by decide +kernel
theorem dX2_goRound_99 : decode cX2_goRound 99 = .ok (.getfield 37, 3) := by decide +kernel
theorem dX2_goRound_102 : decode cX2_goRound 102 = .ok (.bipush 100, 2) := by decide +kernel
theorem dX2_goRound_104 : decode cX2_goRound 104 = .ok (.iload_n 2, 1) := by decide +kernel
theorem dX2_goRound_105 : decode cX2_goRound 105 = .ok (.imul, 1) := by decide +kernel
theorem dX2_goRound_106 : decode cX2_goRound 106 = .ok (.iload_n 3, 1) := by decide +kernel
theorem dX2_goRound_107 : decode cX2_goRound 107 = .ok (.iadd, 1) := by decide +kernel
theorem dX2_goRound_108 : decode cX2_goRound 108 = .ok (.iastore, 1) := by decide +kernel
theorem dX2_goRound_109 : decode cX2_goRound 109 = .ok (.aload_n 0, 1) := by decide +kernel
theorem dX2_goRound_110 : decode cX2_goRound 110 = .ok (.getfield 24, 3) := by decide +kernel
theorem dX2_goRound_113 : decode cX2_goRound 113 = .ok (.aload_n 0, 1) := by decide +kernel
theorem dX2_goRound_114 : decode cX2_goRound 114 = .ok (.getfield 37, 3) := by decide +kernel
theorem dX2_goRound_117 : decode cX2_goRound 117 = .ok (.bipush 100, 2) := by decide +kernel
theorem dX2_goRound_119 : decode cX2_goRound 119 = .ok (.iload 6, 2) := by decide +kernel
theorem dX2_goRound_121 : decode cX2_goRound 121 = .ok (.imul, 1) := by decide +kernel
theorem dX2_goRound_122 : decode cX2_goRound 122 = .ok (.iload 7, 2) := by decide +kernel
theorem dX2_goRound_124 : decode cX2_goRound 124 = .ok (.iadd, 1) := by decide +kernel
theorem dX2_goRound_125 : decode cX2_goRound 125 = .ok (.iastore, 1) := by decide +kernel
theorem dX2_goRound_126 : decode cX2_goRound 126 = .ok (.aload_n 0, 1) := by decide +kernel
theorem dX2_goRound_127 : decode cX2_goRound 127 = .ok (.getfield 27, 3) := by decide +kernel
theorem dX2_goRound_130 : decode cX2_goRound 130 = .ok (.aload_n 0, 1) := by decide +kernel
theorem dX2_goRound_131 : decode cX2_goRound 131 = .ok (.getfield 37, 3) := by decide +kernel
theorem dX2_goRound_134 : decode cX2_goRound 134 = .ok (.iload 5, 2) := by decide +kernel
theorem dX2_goRound_136 : decode cX2_goRound 136 = .ok (.iastore, 1) := by decide +kernel
theorem dX2_goRound_137 : decode cX2_goRound 137 = .ok (.aload_n 0, 1) := by decide +kernel
theorem dX2_goRound_138 : decode cX2_goRound 138 = .ok (.getfield 30, 3) := by decide +kernel
theorem dX2_goRound_141 : decode cX2_goRound 141 = .ok (.aload_n 0, 1) := by decide +kernel
theorem dX2_goRound_142 : decode cX2_goRound 142 = .ok (.getfield 37, 3) := by decide +kernel
theorem dX2_goRound_145 : decode cX2_goRound 145 = .ok (.iload 4, 2) := by decide +kernel
theorem dX2_goRound_147 : decode cX2_goRound 147 = .ok (.iastore, 1) := by decide +kernel
theorem dX2_goRound_148 : decode cX2_goRound 148 = .ok (.aload_n 0, 1) := by decide +kernel
theorem dX2_goRound_149 : decode cX2_goRound 149 = .ok (.dup, 1) := by decide +kernel
theorem dX2_goRound_150 : decode cX2_goRound 150 = .ok (.getfield 37, 3) := by decide +kernel
theorem dX2_goRound_153 : decode cX2_goRound 153 = .ok (.iconst 1, 1) := by decide +kernel
theorem dX2_goRound_154 : decode cX2_goRound 154 = .ok (.iadd, 1) := by decide +kernel
theorem dX2_goRound_155 : decode cX2_goRound 155 = .ok (.putfield 37, 3) := by decide +kernel
theorem dX2_goRound_158 : decode cX2_goRound 158 = .ok (.aload_n 1, 1) := by decide +kernel
theorem dX2_goRound_159 : decode cX2_goRound 159 = .ok (.iload 6, 2) := by decide +kernel
theorem dX2_goRound_161 : decode cX2_goRound 161 = .ok (.iload 7, 2) := by decide +kernel
theorem dX2_goRound_163 : decode cX2_goRound 163 = .ok (.invokevirtual 66, 3) := by decide +kernel
theorem dX2_goRound_166 : decode cX2_goRound 166 = .ok (.istore 8, 2) := by decide +kernel
theorem dX2_goRound_168 : decode cX2_goRound 168 = .ok (.iload 8, 2) := by decide +kernel
theorem dX2_goRound_170 : decode cX2_goRound 170 = .ok (.iconst 1, 1) := by decide +kernel
theorem dX2_goRound_171 : decode cX2_goRound 171 = .ok (.if_icmp .ne 7, 3) := by decide +kernel
theorem dX2_goRound_174 : decode cX2_goRound 174 = .ok (.iload_n 2, 1) := by decide +kernel
theorem dX2_goRound_175 : decode cX2_goRound 175 = .ok (.goto 7, 3) := by decide +kernel
theorem dX2_goRound_178 : decode cX2_goRound 178 = .ok (.iload_n 2, 1) := by decide +kernel
theorem dX2_goRound_179 : decode cX2_goRound 179 = .ok (.iload 4, 2) := by decide +kernel
theorem dX2_goRound_181 : decode cX2_goRound 181 = .ok (.iadd, 1) := by decide +kernel
theorem dX2_goRound_182 : decode cX2_goRound 182 = .ok (.istore_n 2, 1) := by decide +kernel
theorem dX2_goRound_183 : decode cX2_goRound 183 = .ok (.iload 8, 2) := by decide +kernel
theorem dX2_goRound_185 : decode cX2_goRound 185 = .ok (.iconst 2, 1) := by decide +kernel
theorem dX2_goRound_186 : decode cX2_goRound 186 = .ok (.if_icmp .ne 7, 3) := by decide +kernel
theorem dX2_goRound_189 : decode cX2_goRound 189 = .ok (.iload_n 3, 1) := by decide +kernel
theorem dX2_goRound_190 : decode cX2_goRound 190 = .ok (.goto 7, 3) := by decide +kernel
theorem dX2_goRound_193 : decode cX2_goRound 193 = .ok (.iload_n 3, 1) := by decide +kernel
theorem dX2_goRound_194 : decode cX2_goRound 194 = .ok (.iload 5, 2) := by decide +kernel
theorem dX2_goRound_196 : decode cX2_goRound 196 = .ok (.iadd, 1) := by decide +kernel
theorem dX2_goRound_197 : decode cX2_goRound 197 = .ok (.istore_n 3, 1) := by decide +kernel
theorem dX2_goRound_198 : decode cX2_goRound 198 = .ok (.iload 8, 2) := by decide +kernel
theorem dX2_goRound_200 : decode cX2_goRound 200 = .ok (.iconst 1, 1) := by decide +kernel
theorem dX2_goRound_201 : decode cX2_goRound 201 = .ok (.if_icmp .ne 9, 3) := by decide +kernel
theorem dX2_goRound_204 : decode cX2_goRound 204 = .ok (.iload 4, 2) := by decide +kernel
theorem dX2_goRound_206 : decode cX2_goRound 206 = .ok (.ineg, 1) := by decide +kernel
theorem dX2_goRound_207 : decode cX2_goRound 207 = .ok (.goto 5, 3) := by decide +kernel
theorem dX2_goRound_210 : decode cX2_goRound 210 = .ok (.iload 4, 2) := by decide +kernel
theorem dX2_goRound_212 : decode cX2_goRound 212 = .ok (.istore 4, 2) := by decide +kernel
theorem dX2_goRound_214 : decode cX2_goRound 214 = .ok (.iload 8, 2) := by decide +kernel
theorem dX2_goRound_216 : decode cX2_goRound 216 = .ok (.iconst 2, 1) := by decide +kernel
theorem dX2_goRound_217 : decode cX2_goRound 217 = .ok (.if_icmp .ne 9, 3) := by decide +kernel
theorem dX2_goRound_220 : decode cX2_goRound 220 = .ok (.iload 5, 2) := by decide +kernel
theorem dX2_goRound_222 : decode cX2_goRound 222 = .ok (.ineg, 1) := by decide +kernel
theorem dX2_goRound_223 : decode cX2_goRound 223 = .ok (.goto 5, 3) := by decide +kernel
theorem dX2_goRound_226 : decode cX2_goRound 226 = .ok (.iload 5, 2) := by decide +kernel
theorem dX2_goRound_228 : decode cX2_goRound 228 = .ok (.istore 5, 2) := by decide +kernel
theorem dX2_goRound_230 : decode cX2_goRound 230 = .ok (.goto (-212), 3) := by decide +kernel
theorem dX2_goRound_233 : decode cX2_goRound 233 = .ok (.return_, 1) := by decide +kernel
theorem dX2_has_0 : decode cX2_has 0 = .ok (.iload_n 1, 1) := by decide +kernel
theorem dX2_has_1 : decode cX2_has 1 = .ok (.ifCond .lt 15, 3) := by decide +kernel
theorem dX2_has_4 : decode cX2_has 4 = .ok (.iload_n 1, 1) := by decide +kernel
theorem dX2_has_5 : decode cX2_has 5 = .ok (.aload_n 0, 1) := by decide +kernel
theorem dX2_has_6 : decode cX2_has 6 = .ok (.getfield 33, 3) := by decide +kernel
theorem dX2_has_9 : decode cX2_has 9 = .ok (.if_icmp .ge 7, 3) := by decide +kernel
theorem dX2_has_12 : decode cX2_has 12 = .ok (.iconst 1, 1) := by decide +kernel
theorem dX2_has_13 : decode cX2_has 13 = .ok (.goto 4, 3) := by decide +kernel
theorem dX2_has_16 : decode cX2_has 16 = .ok (.iconst 0, 1) := by decide +kernel
theorem dX2_has_17 : decode cX2_has 17 = .ok (.ireturn, 1) := by decide +kernel
theorem dX2_ownerOf_0 : decode cX2_ownerOf 0 = .ok (.iload_n 1, 1) := by decide +kernel
theorem dX2_ownerOf_1 : decode cX2_ownerOf 1 = .ok (.bipush 100, 2) := by decide +kernel
theorem dX2_ownerOf_3 : decode cX2_ownerOf 3 = .ok (.idiv, 1) := by decide +kernel
theorem dX2_ownerOf_4 : decode cX2_ownerOf 4 = .ok (.istore_n 2, 1) := by decide +kernel
theorem dX2_ownerOf_5 : decode cX2_ownerOf 5 = .ok (.iload_n 1, 1) := by decide +kernel
theorem dX2_ownerOf_6 : decode cX2_ownerOf 6 = .ok (.bipush 100, 2) := by decide +kernel
theorem dX2_ownerOf_8 : decode cX2_ownerOf 8 = .ok (.irem, 1) := by decide +kernel
theorem dX2_ownerOf_9 : decode cX2_ownerOf 9 = .ok (.istore_n 3, 1) := by decide +kernel
theorem dX2_ownerOf_10 : decode cX2_ownerOf 10 = .ok (.iload_n 1, 1) := by decide +kernel
theorem dX2_ownerOf_11 : decode cX2_ownerOf 11 = .ok (.ifCond .lt 19, 3) := by decide +kernel
theorem dX2_ownerOf_14 : decode cX2_ownerOf 14 = .ok (.iload_n 2, 1) := by decide +kernel
theorem dX2_ownerOf_15 : decode cX2_ownerOf 15 = .ok (.bipush 12, 2) := by decide +kernel
theorem dX2_ownerOf_17 : decode cX2_ownerOf 17 = .ok (.if_icmp .ge 13, 3) := by decide +kernel
theorem dX2_ownerOf_20 : decode cX2_ownerOf 20 = .ok (.iload_n 3, 1) := by decide +kernel
theorem dX2_ownerOf_21 : decode cX2_ownerOf 21 = .ok (.bipush 12, 2) := by decide +kernel
theorem dX2_ownerOf_23 : decode cX2_ownerOf 23 = .ok (.if_icmp .ge 7, 3) := by decide +kernel
theorem dX2_ownerOf_26 : decode cX2_ownerOf 26 = .ok (.iconst 1, 1) := by decide +kernel
theorem dX2_ownerOf_27 : decode cX2_ownerOf 27 = .ok (.goto 4, 3) := by decide +kernel
theorem dX2_ownerOf_30 : decode cX2_ownerOf 30 = .ok (.iconst 0, 1) := by decide +kernel
theorem dX2_ownerOf_31 : decode cX2_ownerOf 31 = .ok (.istore 4, 2) := by decide +kernel
theorem dX2_ownerOf_33 : decode cX2_ownerOf 33 = .ok (.iload 4, 2) := by decide +kernel
theorem dX2_ownerOf_35 : decode cX2_ownerOf 35 = .ok (.ifCond .eq 17, 3) := by decide +kernel
theorem dX2_ownerOf_38 : decode cX2_ownerOf 38 = .ok (.aload_n 0, 1) := by decide +kernel
theorem dX2_ownerOf_39 : decode cX2_ownerOf 39 = .ok (.getfield 9, 3) := by decide +kernel
theorem dX2_ownerOf_42 : decode cX2_ownerOf 42 = .ok (.iload_n 2, 1) := by decide +kernel
theorem dX2_ownerOf_43 : decode cX2_ownerOf 43 = .ok (.bipush 12, 2) := by decide +kernel
theorem dX2_ownerOf_45 : decode cX2_ownerOf 45 = .ok (.imul, 1) := by decide +kernel
theorem dX2_ownerOf_46 : decode cX2_ownerOf 46 = .ok (.iload_n 3, 1) := by decide +kernel
theorem dX2_ownerOf_47 : decode cX2_ownerOf 47 = .ok (.iadd, 1) := by decide +kernel
theorem dX2_ownerOf_48 : decode cX2_ownerOf 48 = .ok (.iaload, 1) := by decide +kernel
theorem dX2_ownerOf_49 : decode cX2_ownerOf 49 = .ok (.goto 5, 3) := by decide +kernel
theorem dX2_ownerOf_52 : decode cX2_ownerOf 52 = .ok (.bipush (-9), 2) := by decide +kernel
theorem dX2_ownerOf_54 : decode cX2_ownerOf 54 = .ok (.ireturn, 1) := by decide +kernel
theorem dX2_ownerAt_0 : decode cX2_ownerAt 0 = .ok (.aload_n 0, 1) := by decide +kernel
theorem dX2_ownerAt_1 : decode cX2_ownerAt 1 = .ok (.getfield 18, 3) := by decide +kernel
theorem dX2_ownerAt_4 : decode cX2_ownerAt 4 = .ok (.iload_n 1, 1) := by decide +kernel
theorem dX2_ownerAt_5 : decode cX2_ownerAt 5 = .ok (.invokestatic 70, 3) := by decide +kernel
theorem dX2_ownerAt_8 : decode cX2_ownerAt 8 = .ok (.ireturn, 1) := by decide +kernel
theorem dX2_cellAt_0 : decode cX2_cellAt 0 = .ok (.aload_n 0, 1) := by decide +kernel
theorem dX2_cellAt_1 : decode cX2_cellAt 1 = .ok (.getfield 21, 3) := by decide +kernel
theorem dX2_cellAt_4 : decode cX2_cellAt 4 = .ok (.iload_n 1, 1) := by decide +kernel
theorem dX2_cellAt_5 : decode cX2_cellAt 5 = .ok (.invokestatic 70, 3) := by decide +kernel
theorem dX2_cellAt_8 : decode cX2_cellAt 8 = .ok (.ireturn, 1) := by decide +kernel
theorem dX2_endAt_0 : decode cX2_endAt 0 = .ok (.aload_n 0, 1) := by decide +kernel
theorem dX2_endAt_1 : decode cX2_endAt 1 = .ok (.getfield 24, 3) := by decide +kernel
theorem dX2_endAt_4 : decode cX2_endAt 4 = .ok (.iload_n 1, 1) := by decide +kernel
theorem dX2_endAt_5 : decode cX2_endAt 5 = .ok (.invokestatic 70, 3) := by decide +kernel
theorem dX2_endAt_8 : decode cX2_endAt 8 = .ok (.ireturn, 1) := by decide +kernel
theorem dX2_rightAt_0 : decode cX2_rightAt 0 = .ok (.aload_n 0, 1) := by decide +kernel
theorem dX2_rightAt_1 : decode cX2_rightAt 1 = .ok (.getfield 27, 3) := by decide +kernel
theorem dX2_rightAt_4 : decode cX2_rightAt 4 = .ok (.iload_n 1, 1) := by decide +kernel
theorem dX2_rightAt_5 : decode cX2_rightAt 5 = .ok (.invokestatic 70, 3) := by decide +kernel
theorem dX2_rightAt_8 : decode cX2_rightAt 8 = .ok (.ireturn, 1) := by decide +kernel
theorem dX2_downAt_0 : decode cX2_downAt 0 = .ok (.aload_n 0, 1) := by decide +kernel
theorem dX2_downAt_1 : decode cX2_downAt 1 = .ok (.getfield 30, 3) := by decide +kernel
theorem dX2_downAt_4 : decode cX2_downAt 4 = .ok (.iload_n 1, 1) := by decide +kernel
theorem dX2_downAt_5 : decode cX2_downAt 5 = .ok (.invokestatic 70, 3) := by decide +kernel
theorem dX2_downAt_8 : decode cX2_downAt 8 = .ok (.ireturn, 1) := by decide +kernel
theorem dX2_firstStep_0 : decode cX2_firstStep 0 = .ok (.aload_n 0, 1) := by decide +kernel
theorem dX2_firstStep_1 : decode cX2_firstStep 1 = .ok (.getfield 15, 3) := by decide +kernel
theorem dX2_firstStep_4 : decode cX2_firstStep 4 = .ok (.iload_n 1, 1) := by decide +kernel
theorem dX2_firstStep_5 : decode cX2_firstStep 5 = .ok (.invokestatic 74, 3) := by decide +kernel
theorem dX2_firstStep_8 : decode cX2_firstStep 8 = .ok (.ifCond .eq 12, 3) := by decide +kernel
theorem dX2_firstStep_11 : decode cX2_firstStep 11 = .ok (.aload_n 0, 1) := by decide +kernel
theorem dX2_firstStep_12 : decode cX2_firstStep 12 = .ok (.getfield 15, 3) := by decide +kernel
theorem dX2_firstStep_15 : decode cX2_firstStep 15 = .ok (.iload_n 1, 1) := by decide +kernel
theorem dX2_firstStep_16 : decode cX2_firstStep 16 = .ok (.iaload, 1) := by decide +kernel
theorem dX2_firstStep_17 : decode cX2_firstStep 17 = .ok (.goto 7, 3) := by decide +kernel
theorem dX2_firstStep_20 : decode cX2_firstStep 20 = .ok (.aload_n 0, 1) := by decide +kernel
theorem dX2_firstStep_21 : decode cX2_firstStep 21 = .ok (.getfield 37, 3) := by decide +kernel
theorem dX2_firstStep_24 : decode cX2_firstStep 24 = .ok (.ireturn, 1) := by decide +kernel
theorem dX2_lengthOf_0 : decode cX2_lengthOf 0 = .ok (.aload_n 0, 1) := by decide +kernel
theorem dX2_lengthOf_1 : decode cX2_lengthOf 1 = .ok (.iload_n 1, 1) := by decide +kernel
theorem dX2_lengthOf_2 : decode cX2_lengthOf 2 = .ok (.iconst 1, 1) := by decide +kernel
theorem dX2_lengthOf_3 : decode cX2_lengthOf 3 = .ok (.iadd, 1) := by decide +kernel
theorem dX2_lengthOf_4 : decode cX2_lengthOf 4 = .ok (.invokevirtual 78, 3) := by decide +kernel
theorem dX2_lengthOf_7 : decode cX2_lengthOf 7 = .ok (.aload_n 0, 1) := by decide +kernel
theorem dX2_lengthOf_8 : decode cX2_lengthOf 8 = .ok (.iload_n 1, 1) := by decide +kernel
theorem dX2_lengthOf_9 : decode cX2_lengthOf 9 = .ok (.invokevirtual 78, 3) := by decide +kernel
theorem dX2_lengthOf_12 : decode cX2_lengthOf 12 = .ok (.isub, 1) := by decide +kernel
theorem dX2_lengthOf_13 : decode cX2_lengthOf 13 = .ok (.ireturn, 1) := by decide +kernel
theorem dX2_stepBehind_0 : decode cX2_stepBehind 0 = .ok (.aload_n 0, 1) := by decide +kernel
theorem dX2_stepBehind_1 : decode cX2_stepBehind 1 = .ok (.iload_n 1, 1) := by decide +kernel
theorem dX2_stepBehind_2 : decode cX2_stepBehind 2 = .ok (.invokevirtual 82, 3) := by decide +kernel
theorem dX2_stepBehind_5 : decode cX2_stepBehind 5 = .ok (.istore_n 3, 1) := by decide +kernel
theorem dX2_stepBehind_6 : decode cX2_stepBehind 6 = .ok (.iload_n 3, 1) := by decide +kernel
theorem dX2_stepBehind_7 : decode cX2_stepBehind 7 = .ok (.iconst 1, 1) := by decide +kernel
theorem dX2_stepBehind_8 : decode cX2_stepBehind 8 = .ok (.if_icmp .ge 8, 3) := by decide +kernel
theorem dX2_stepBehind_11 : decode cX2_stepBehind 11 = .ok (.bipush (-9), 2) := by decide +kernel
theorem dX2_stepBehind_13 : decode cX2_stepBehind 13 = .ok (.goto 12, 3) := by decide +kernel
theorem dX2_stepBehind_16 : decode cX2_stepBehind 16 = .ok (.aload_n 0, 1) := by decide +kernel
theorem dX2_stepBehind_17 : decode cX2_stepBehind 17 = .ok (.iload_n 1, 1) := by decide +kernel
theorem dX2_stepBehind_18 : decode cX2_stepBehind 18 = .ok (.invokevirtual 78, 3) := by decide +kernel
theorem dX2_stepBehind_21 : decode cX2_stepBehind 21 = .ok (.iload_n 2, 1) := by decide +kernel
theorem dX2_stepBehind_22 : decode cX2_stepBehind 22 = .ok (.iload_n 3, 1) := by decide +kernel
theorem dX2_stepBehind_23 : decode cX2_stepBehind 23 = .ok (.irem, 1) := by decide +kernel
theorem dX2_stepBehind_24 : decode cX2_stepBehind 24 = .ok (.iadd, 1) := by decide +kernel
theorem dX2_stepBehind_25 : decode cX2_stepBehind 25 = .ok (.ireturn, 1) := by decide +kernel
theorem dX2_stepAfter_0 : decode cX2_stepAfter 0 = .ok (.aload_n 0, 1) := by decide +kernel
theorem dX2_stepAfter_1 : decode cX2_stepAfter 1 = .ok (.iload_n 1, 1) := by decide +kernel
theorem dX2_stepAfter_2 : decode cX2_stepAfter 2 = .ok (.invokevirtual 85, 3) := by decide +kernel
theorem dX2_stepAfter_5 : decode cX2_stepAfter 5 = .ok (.istore_n 2, 1) := by decide +kernel
theorem dX2_stepAfter_6 : decode cX2_stepAfter 6 = .ok (.iload_n 1, 1) := by decide +kernel
theorem dX2_stepAfter_7 : decode cX2_stepAfter 7 = .ok (.iconst 1, 1) := by decide +kernel
theorem dX2_stepAfter_8 : decode cX2_stepAfter 8 = .ok (.iadd, 1) := by decide +kernel
theorem dX2_stepAfter_9 : decode cX2_stepAfter 9 = .ok (.aload_n 0, 1) := by decide +kernel
theorem dX2_stepAfter_10 : decode cX2_stepAfter 10 = .ok (.iload_n 2, 1) := by decide +kernel
theorem dX2_stepAfter_11 : decode cX2_stepAfter 11 = .ok (.iconst 1, 1) := by decide +kernel
theorem dX2_stepAfter_12 : decode cX2_stepAfter 12 = .ok (.iadd, 1) := by decide +kernel
theorem dX2_stepAfter_13 : decode cX2_stepAfter 13 = .ok (.invokevirtual 78, 3) := by decide +kernel
theorem dX2_stepAfter_16 : decode cX2_stepAfter 16 = .ok (.if_icmp .ge 9, 3) := by decide +kernel
theorem dX2_stepAfter_19 : decode cX2_stepAfter 19 = .ok (.iload_n 1, 1) := by decide +kernel
theorem dX2_stepAfter_20 : decode cX2_stepAfter 20 = .ok (.iconst 1, 1) := by decide +kernel
theorem dX2_stepAfter_21 : decode cX2_stepAfter 21 = .ok (.iadd, 1) := by decide +kernel
theorem dX2_stepAfter_22 : decode cX2_stepAfter 22 = .ok (.goto 8, 3) := by decide +kernel
theorem dX2_stepAfter_25 : decode cX2_stepAfter 25 = .ok (.aload_n 0, 1) := by decide +kernel
theorem dX2_stepAfter_26 : decode cX2_stepAfter 26 = .ok (.iload_n 2, 1) := by decide +kernel
theorem dX2_stepAfter_27 : decode cX2_stepAfter 27 = .ok (.invokevirtual 78, 3) := by decide +kernel
theorem dX2_stepAfter_30 : decode cX2_stepAfter 30 = .ok (.ireturn, 1) := by decide +kernel
theorem dX3_init_0 : decode cX3_init 0 = .ok (.aload_n 0, 1) := by decide +kernel
theorem dX3_init_1 : decode cX3_init 1 = .ok (.invokespecial 3, 3) := by decide +kernel
theorem dX3_init_4 : decode cX3_init 4 = .ok (.aload_n 0, 1) := by decide +kernel
theorem dX3_init_5 : decode cX3_init 5 = .ok (.bipush 60, 2) := by decide +kernel
theorem dX3_init_7 : decode cX3_init 7 = .ok (.newarray .int, 2) := by decide +kernel
theorem dX3_init_9 : decode cX3_init 9 = .ok (.putfield 9, 3) := by decide +kernel
theorem dX3_init_12 : decode cX3_init 12 = .ok (.aload_n 0, 1) := by decide +kernel
theorem dX3_init_13 : decode cX3_init 13 = .ok (.bipush 60, 2) := by decide +kernel
theorem dX3_init_15 : decode cX3_init 15 = .ok (.newarray .int, 2) := by decide +kernel
theorem dX3_init_17 : decode cX3_init 17 = .ok (.putfield 15, 3) := by decide +kernel
theorem dX3_init_20 : decode cX3_init 20 = .ok (.aload_n 0, 1) := by decide +kernel
theorem dX3_init_21 : decode cX3_init 21 = .ok (.sipush 169, 3) := by decide +kernel
theorem dX3_init_24 : decode cX3_init 24 = .ok (.newarray .int, 2) := by decide +kernel
theorem dX3_init_26 : decode cX3_init 26 = .ok (.putfield 18, 3) := by decide +kernel
theorem dX3_init_29 : decode cX3_init 29 = .ok (.return_, 1) := by decide +kernel
theorem dX3_spread_0 : decode cX3_spread 0 = .ok (.iload_n 1, 1) := by decide +kernel
theorem dX3_spread_1 : decode cX3_spread 1 = .ok (.invokestatic 21, 3) := by decide +kernel
theorem dX3_spread_4 : decode cX3_spread 4 = .ok (.ifCond .eq 10, 3) := by decide +kernel
theorem dX3_spread_7 : decode cX3_spread 7 = .ok (.iload_n 2, 1) := by decide +kernel
theorem dX3_spread_8 : decode cX3_spread 8 = .ok (.invokestatic 21, 3) := by decide +kernel
theorem dX3_spread_11 : decode cX3_spread 11 = .ok (.ifCond .ne 4, 3) := by decide +kernel
theorem dX3_spread_14 : decode cX3_spread 14 = .ok (.return_, 1) := by decide +kernel
theorem dX3_spread_15 : decode cX3_spread 15 = .ok (.aload_n 0, 1) := by decide +kernel
theorem dX3_spread_16 : decode cX3_spread 16 = .ok (.iload_n 1, 1) := by decide +kernel
theorem dX3_spread_17 : decode cX3_spread 17 = .ok (.putfield 25, 3) := by decide +kernel
theorem dX3_spread_20 : decode cX3_spread 20 = .ok (.aload_n 0, 1) := by decide +kernel
theorem dX3_spread_21 : decode cX3_spread 21 = .ok (.iload_n 2, 1) := by decide +kernel
theorem dX3_spread_22 : decode cX3_spread 22 = .ok (.putfield 29, 3) := by decide +kernel
theorem dX3_spread_25 : decode cX3_spread 25 = .ok (.aload_n 0, 1) := by decide +kernel
theorem dX3_spread_26 : decode cX3_spread 26 = .ok (.iconst 0, 1) := by decide +kernel
theorem dX3_spread_27 : decode cX3_spread 27 = .ok (.putfield 32, 3) := by decide +kernel
theorem dX3_spread_30 : decode cX3_spread 30 = .ok (.aload_n 0, 1) := by decide +kernel
theorem dX3_spread_31 : decode cX3_spread 31 = .ok (.getfield 15, 3) := by decide +kernel
theorem dX3_spread_34 : decode cX3_spread 34 = .ok (.iconst 0, 1) := by decide +kernel
theorem dX3_spread_35 : decode cX3_spread 35 = .ok (.invokestatic 35, 3) := by decide +kernel
theorem dX3_spread_38 : decode cX3_spread 38 = .ok (.aload_n 0, 1) := by decide +kernel
theorem dX3_spread_39 : decode cX3_spread 39 = .ok (.getfield 18, 3) := by decide +kernel
theorem dX3_spread_42 : decode cX3_spread 42 = .ok (.bipush (-9), 2) := by decide +kernel
theorem dX3_spread_44 : decode cX3_spread 44 = .ok (.invokestatic 35, 3) := by decide +kernel
theorem dX3_spread_47 : decode cX3_spread 47 = .ok (.iconst 1, 1) := by decide +kernel
theorem dX3_spread_48 : decode cX3_spread 48 = .ok (.istore_n 3, 1) := by decide +kernel
theorem dX3_spread_49 : decode cX3_spread 49 = .ok (.iload_n 3, 1) := by decide +kernel
theorem dX3_spread_50 : decode cX3_spread 50 = .ok (.iconst 2, 1) := by decide +kernel
theorem dX3_spread_51 : decode cX3_spread 51 = .ok (.iload_n 1, 1) := by decide +kernel
theorem dX3_spread_52 : decode cX3_spread 52 = .ok (.imul, 1) := by decide +kernel
theorem dX3_spread_53 : decode cX3_spread 53 = .ok (.if_icmp .ge 81, 3) := by decide +kernel
theorem dX3_spread_56 : decode cX3_spread 56 = .ok (.iconst 1, 1) := by decide +kernel
theorem dX3_spread_57 : decode cX3_spread 57 = .ok (.iload_n 3, 1) := by decide +kernel
theorem dX3_spread_58 : decode cX3_spread 58 = .ok (.iconst 2, 1) := by decide +kernel
theorem dX3_spread_59 : decode cX3_spread 59 = .ok (.irem, 1) := by decide +kernel
theorem dX3_spread_60 : decode cX3_spread 60 = .ok (.iadd, 1) := by decide +kernel
theorem dX3_spread_61 : decode cX3_spread 61 = .ok (.istore 4, 2) := by decide +kernel
theorem dX3_spread_63 : decode cX3_spread 63 = .ok (.iload 4, 2) := by decide +kernel
theorem dX3_spread_65 : decode cX3_spread 65 = .ok (.iconst 2, 1) := by decide +kernel
theorem dX3_spread_66 : decode cX3_spread 66 = .ok (.iload_n 2, 1) := by decide +kernel
theorem dX3_spread_67 : decode cX3_spread 67 = .ok (.imul, 1) := by decide +kernel
theorem dX3_spread_68 : decode cX3_spread 68 = .ok (.if_icmp .ge 60, 3) := by decide +kernel
theorem dX3_spread_71 : decode cX3_spread 71 = .ok (.aload_n 0, 1) := by decide +kernel
theorem dX3_spread_72 : decode cX3_spread 72 = .ok (.getfield 32, 3) := by decide +kernel
theorem dX3_spread_75 : decode cX3_spread 75 = .ok (.bipush 60, 2) := by decide +kernel
theorem dX3_spread_77 : decode cX3_spread 77 = .ok (.if_icmp .ge 51, 3) := by decide +kernel
theorem dX3_spread_80 : decode cX3_spread 80 = .ok (.aload_n 0, 1) := by decide +kernel
theorem dX3_spread_81 : decode cX3_spread 81 = .ok (.getfield 18, 3) := by decide +kernel
theorem dX3_spread_84 : decode cX3_spread 84 = .ok (.iload_n 3, 1) := by decide +kernel
theorem dX3_spread_85 : decode cX3_spread 85 = .ok (.bipush 13, 2) := by decide +kernel
theorem dX3_spread_87 : decode cX3_spread 87 = .ok (.imul, 1) := by decide +kernel
theorem dX3_spread_88 : decode cX3_spread 88 = .ok (.iload 4, 2) := by decide +kernel
theorem dX3_spread_90 : decode cX3_spread 90 = .ok (.iadd, 1) := by decide +kernel
theorem dX3_spread_91 : decode cX3_spread 91 = .ok (.aload_n 0, 1) := by decide +kernel
theorem dX3_spread_92 : decode cX3_spread 92 = .ok (.getfield 32, 3) := by decide +kernel
theorem dX3_spread_95 : decode cX3_spread 95 = .ok (.iastore, 1) := by decide +kernel
theorem dX3_spread_96 : decode cX3_spread 96 = .ok (.aload_n 0, 1) := by decide +kernel
theorem dX3_spread_97 : decode cX3_spread 97 = .ok (.getfield 9, 3) := by decide +kernel
theorem dX3_spread_100 : decode cX3_spread 100 = .ok (.aload_n 0, 1) := by decide +kernel
theorem dX3_spread_101 : decode cX3_spread 101 = .ok (.getfield 32, 3) := by decide +kernel
theorem dX3_spread_104 : decode cX3_spread 104 = .ok (.bipush 100, 2) := by decide +kernel
theorem dX3_spread_106 : decode cX3_spread 106 = .ok (.iload_n 3, 1) := by decide +kernel
theorem dX3_spread_107 : decode cX3_spread 107 = .ok (.imul, 1) := by decide +kernel
theorem dX3_spread_108 : decode cX3_spread 108 = .ok (.iload 4, 2) := by decide +kernel
theorem dX3_spread_110 : decode cX3_spread 110 = .ok (.iadd, 1) := by decide +kernel
theorem dX3_spread_111 : decode cX3_spread 111 = .ok (.iastore, 1) := by decide +kernel
theorem dX3_spread_112 : decode cX3_spread 112 = .ok (.aload_n 0, 1) := by decide +kernel
theorem dX3_spread_113 : decode cX3_spread 113 = .ok (.dup, 1) := by decide +kernel
theorem dX3_spread_114 : decode cX3_spread 114 = .ok (.getfield 32, 3) := by decide +kernel
theorem dX3_spread_117 : decode cX3_spread 117 = .ok (.iconst 1, 1) := by decide +kernel
theorem dX3_spread_118 : decode cX3_spread 118 = .ok (.iadd, 1) := by decide +kernel
theorem dX3_spread_119 : decode cX3_spread 119 = .ok (.putfield 32, 3) := by decide +kernel
theorem dX3_spread_122 : decode cX3_spread 122 = .ok (.iinc 4 2, 3) := by decide +kernel
theorem dX3_spread_125 : decode cX3_spread 125 = .ok (.goto (-62), 3) := by decide +kernel
theorem dX3_spread_128 : decode cX3_spread 128 = .ok (.iinc 3 1, 3) := by decide +kernel
theorem dX3_spread_131 : decode cX3_spread 131 = .ok (.goto (-82), 3) := by decide +kernel
theorem dX3_spread_134 : decode cX3_spread 134 = .ok (.return_, 1) := by decide +kernel
theorem dX3_become_0 : decode cX3_become 0 = .ok (.aload_n 0, 1) := by decide +kernel
theorem dX3_become_1 : decode cX3_become 1 = .ok (.aload_n 1, 1) := by decide +kernel
theorem dX3_become_2 : decode cX3_become 2 = .ok (.getfield 25, 3) := by decide +kernel
theorem dX3_become_5 : decode cX3_become 5 = .ok (.putfield 25, 3) := by decide +kernel
theorem dX3_become_8 : decode cX3_become 8 = .ok (.aload_n 0, 1) := by decide +kernel
theorem dX3_become_9 : decode cX3_become 9 = .ok (.aload_n 1, 1) := by decide +kernel
theorem dX3_become_10 : decode cX3_become 10 = .ok (.getfield 29, 3) := by decide +kernel
theorem dX3_become_13 : decode cX3_become 13 = .ok (.putfield 29, 3) := by decide +kernel
theorem dX3_become_16 : decode cX3_become 16 = .ok (.aload_n 0, 1) := by decide +kernel
theorem dX3_become_17 : decode cX3_become 17 = .ok (.aload_n 1, 1) := by decide +kernel
theorem dX3_become_18 : decode cX3_become 18 = .ok (.getfield 32, 3) := by decide +kernel
theorem dX3_become_21 : decode cX3_become 21 = .ok (.putfield 32, 3) := by decide +kernel
theorem dX3_become_24 : decode cX3_become 24 = .ok (.aload_n 1, 1) := by decide +kernel
theorem dX3_become_25 : decode cX3_become 25 = .ok (.getfield 9, 3) := by decide +kernel
theorem dX3_become_28 : decode cX3_become 28 = .ok (.iconst 0, 1) := by decide +kernel
theorem dX3_become_29 : decode cX3_become 29 = .ok (.aload_n 0, 1) := by decide +kernel
theorem dX3_become_30 : decode cX3_become 30 = .ok (.getfield 9, 3) := by decide +kernel
theorem dX3_become_33 : decode cX3_become 33 = .ok (.iconst 0, 1) := by decide +kernel
theorem dX3_become_34 : decode cX3_become 34 = .ok (.bipush 60, 2) := by decide +kernel
theorem dX3_become_36 : decode cX3_become 36 = .ok (.invokestatic 41, 3) := by decide +kernel
theorem dX3_become_39 : decode cX3_become 39 = .ok (.aload_n 1, 1) := by decide +kernel
theorem dX3_become_40 : decode cX3_become 40 = .ok (.getfield 15, 3) := by decide +kernel
theorem dX3_become_43 : decode cX3_become 43 = .ok (.iconst 0, 1) := by decide +kernel
theorem dX3_become_44 : decode cX3_become 44 = .ok (.aload_n 0, 1) := by decide +kernel
theorem dX3_become_45 : decode cX3_become 45 = .ok (.getfield 15, 3) := by decide +kernel
theorem dX3_become_48 : decode cX3_become 48 = .ok (.iconst 0, 1) := by decide +kernel
theorem dX3_become_49 : decode cX3_become 49 = .ok (.bipush 60, 2) := by decide +kernel
theorem dX3_become_51 : decode cX3_become 51 = .ok (.invokestatic 41, 3) := by decide +kernel
theorem dX3_become_54 : decode cX3_become 54 = .ok (.aload_n 1, 1) := by decide +kernel
theorem dX3_become_55 : decode cX3_become 55 = .ok (.getfield 18, 3) := by decide +kernel
theorem dX3_become_58 : decode cX3_become 58 = .ok (.iconst 0, 1) := by decide +kernel
theorem dX3_become_59 : decode cX3_become 59 = .ok (.aload_n 0, 1) := by decide +kernel
theorem dX3_become_60 : decode cX3_become 60 = .ok (.getfield 18, 3) := by decide +kernel
theorem dX3_become_63 : decode cX3_become 63 = .ok (.iconst 0, 1) := by decide +kernel
theorem dX3_become_64 : decode cX3_become 64 = .ok (.sipush 169, 3) := by decide +kernel
theorem dX3_become_67 : decode cX3_become 67 = .ok (.invokestatic 41, 3) := by decide +kernel
theorem dX3_become_70 : decode cX3_become 70 = .ok (.return_, 1) := by decide +kernel
theorem dX3_sow_0 : decode cX3_sow 0 = .ok (.lload_n 1, 1) := by decide +kernel
theorem dX3_sow_1 : decode cX3_sow 1 = .ok (.lstore 5, 2) := by decide +kernel
theorem dX3_sow_3 : decode cX3_sow 3 = .ok (.iconst 0, 1) := by decide +kernel
theorem dX3_sow_4 : decode cX3_sow 4 = .ok (.istore 7, 2) := by decide +kernel
theorem dX3_sow_6 : decode cX3_sow 6 = .ok (.iload 7, 2) := by decide +kernel
theorem dX3_sow_8 : decode cX3_sow 8 = .ok (.aload_n 0, 1) := by decide +kernel
theorem dX3_sow_9 : decode cX3_sow 9 = .ok (.getfield 32, 3) := by decide +kernel
theorem dX3_sow_12 : decode cX3_sow 12 = .ok (.if_icmp .ge 74, 3) := by decide +kernel
theorem dX3_sow_15 : decode cX3_sow 15 = .ok (.iload 7, 2) := by decide +kernel
theorem dX3_sow_17 : decode cX3_sow 17 = .ok (.bipush 60, 2) := by decide +kernel
theorem dX3_sow_19 : decode cX3_sow 19 = .ok (.if_icmp .ge 67, 3) := by decide +kernel
theorem dX3_sow_22 : decode cX3_sow 22 = .ok (.lload 5, 2) := by decide +kernel
theorem dX3_sow_24 : decode cX3_sow 24 = .ok (.ldc2_w 47, 3) := by decide +kernel
theorem dX3_sow_27 : decode cX3_sow 27 = .ok (.lmul, 1) := by decide +kernel
theorem dX3_sow_28 : decode cX3_sow 28 = .ok (.ldc2_w 49, 3) := by decide +kernel
theorem dX3_sow_31 : decode cX3_sow 31 = .ok (.ladd, 1) := by decide +kernel
theorem dX3_sow_32 : decode cX3_sow 32 = .ok (.lstore 5, 2) := by decide +kernel
theorem dX3_sow_34 : decode cX3_sow 34 = .ok (.lload 5, 2) := by decide +kernel
theorem dX3_sow_36 : decode cX3_sow 36 = .ok (.bipush 33, 2) := by decide +kernel
theorem dX3_sow_38 : decode cX3_sow 38 = .ok (.lushr, 1) := by decide +kernel
theorem dX3_sow_39 : decode cX3_sow 39 = .ok (.ldc2_w 51, 3) := by decide +kernel
theorem dX3_sow_42 : decode cX3_sow 42 = .ok (.lrem, 1) := by decide +kernel
theorem dX3_sow_43 : decode cX3_sow 43 = .ok (.lstore 8, 2) := by decide +kernel
theorem dX3_sow_45 : decode cX3_sow 45 = .ok (.aload_n 0, 1) := by decide +kernel
theorem dX3_sow_46 : decode cX3_sow 46 = .ok (.getfield 15, 3) := by decide +kernel
theorem dX3_sow_49 : decode cX3_sow 49 = .ok (.iload 7, 2) := by decide +kernel
theorem dX3_sow_51 : decode cX3_sow 51 = .ok (.lload 8, 2) := by decide +kernel
theorem dX3_sow_53 : decode cX3_sow 53 = .ok (.iload_n 3, 1) := by decide +kernel
theorem dX3_sow_54 : decode cX3_sow 54 = .ok (.i2l, 1) := by decide +kernel
theorem dX3_sow_55 : decode cX3_sow 55 = .ok (.lcmp, 1) := by decide +kernel
theorem dX3_sow_56 : decode cX3_sow 56 = .ok (.ifCond .ge 7, 3) := by decide +kernel
theorem dX3_sow_59 : decode cX3_sow 59 = .ok (.iconst 1, 1) := by decide +kernel
theorem dX3_sow_60 : decode cX3_sow 60 = .ok (.goto 19, 3) := by decide +kernel
theorem dX3_sow_63 : decode cX3_sow 63 = .ok (.lload 8, 2) := by decide +kernel
theorem dX3_sow_65 : decode cX3_sow 65 = .ok (.iload_n 3, 1) := by decide +kernel
theorem dX3_sow_66 : decode cX3_sow 66 = .ok (.iload 4, 2) := by decide +kernel
theorem dX3_sow_68 : decode cX3_sow 68 = .ok (.iadd, 1) := by decide +kernel
theorem dX3_sow_69 : decode cX3_sow 69 = .ok (.i2l, 1) := by decide +kernel
theorem dX3_sow_70 : decode cX3_sow 70 = .ok (.lcmp, 1) := by decide +kernel
theorem dX3_sow_71 : decode cX3_sow 71 = .ok (.ifCond .ge 7, 3) := by decide +kernel
theorem dX3_sow_74 : decode cX3_sow 74 = .ok (.iconst 2, 1) := by decide +kernel
theorem dX3_sow_75 : decode cX3_sow 75 = .ok (.goto 4, 3) := by decide +kernel
theorem dX3_sow_78 : decode cX3_sow 78 = .ok (.iconst 0, 1) := by decide +kernel
theorem dX3_sow_79 : decode cX3_sow 79 = .ok (.iastore, 1) := by decide +kernel
theorem dX3_sow_80 : decode cX3_sow 80 = .ok (.iinc 7 1, 3) := by decide +kernel
theorem dX3_sow_83 : decode cX3_sow 83 = .ok (.goto (-77), 3) := by decide +kernel
theorem dX3_sow_86 : decode cX3_sow 86 = .ok (.return_, 1) := by decide +kernel
theorem dX3_hasCell_0 : decode cX3_hasCell 0 = .ok (.iload_n 1, 1) := by decide +kernel
theorem dX3_hasCell_1 : decode cX3_hasCell 1 = .ok (.ifCond .lt 31, 3) := by decide +kernel
theorem dX3_hasCell_4 : decode cX3_hasCell 4 = .ok (.iload_n 1, 1) := by decide +kernel
theorem dX3_hasCell_5 : decode cX3_hasCell 5 = .ok (.iconst 2, 1) := by decide +kernel
theorem dX3_hasCell_6 : decode cX3_hasCell 6 = .ok (.aload_n 0, 1) := by decide +kernel
theorem dX3_hasCell_7 : decode cX3_hasCell 7 = .ok (.getfield 25, 3) := by decide +kernel
theorem dX3_hasCell_10 : decode cX3_hasCell 10 = .ok (.imul, 1) := by decide +kernel
theorem dX3_hasCell_11 : decode cX3_hasCell 11 = .ok (.if_icmp .ge 21, 3) := by decide +kernel
theorem dX3_hasCell_14 : decode cX3_hasCell 14 = .ok (.iload_n 2, 1) := by decide +kernel
theorem dX3_hasCell_15 : decode cX3_hasCell 15 = .ok (.ifCond .lt 17, 3) := by decide +kernel
theorem dX3_hasCell_18 : decode cX3_hasCell 18 = .ok (.iload_n 2, 1) := by decide +kernel
theorem dX3_hasCell_19 : decode cX3_hasCell 19 = .ok (.iconst 2, 1) := by decide +kernel
theorem dX3_hasCell_20 : decode cX3_hasCell 20 = .ok (.aload_n 0, 1) := by decide +kernel
theorem dX3_hasCell_21 : decode cX3_hasCell 21 = .ok (.getfield 29, 3) := by decide +kernel
theorem dX3_hasCell_24 : decode cX3_hasCell 24 = .ok (.imul, 1) := by decide +kernel
theorem dX3_hasCell_25 : decode cX3_hasCell 25 = .ok (.if_icmp .ge 7, 3) := by decide +kernel
theorem dX3_hasCell_28 : decode cX3_hasCell 28 = .ok (.iconst 1, 1) := by decide +kernel
theorem dX3_hasCell_29 : decode cX3_hasCell 29 = .ok (.goto 4, 3) := by decide +kernel
theorem dX3_hasCell_32 : decode cX3_hasCell 32 = .ok (.iconst 0, 1) := by decide +kernel
theorem dX3_hasCell_33 : decode cX3_hasCell 33 = .ok (.ireturn, 1) := by decide +kernel
theorem dX3_numberAt_0 : decode cX3_numberAt 0 = .ok (.iload_n 1, 1) := by decide +kernel
theorem dX3_numberAt_1 : decode cX3_numberAt 1 = .ok (.ifCond .lt 23, 3) := by decide +kernel
theorem dX3_numberAt_4 : decode cX3_numberAt 4 = .ok (.iload_n 1, 1) := by decide +kernel
theorem dX3_numberAt_5 : decode cX3_numberAt 5 = .ok (.bipush 13, 2) := by decide +kernel
theorem dX3_numberAt_7 : decode cX3_numberAt 7 = .ok (.if_icmp .ge 17, 3) := by decide +kernel
theorem dX3_numberAt_10 : decode cX3_numberAt 10 = .ok (.iload_n 2, 1) := by decide +kernel
theorem dX3_numberAt_11 : decode cX3_numberAt 11 = .ok (.ifCond .lt 13, 3) := by decide +kernel
theorem dX3_numberAt_14 : decode cX3_numberAt 14 = .ok (.iload_n 2, 1) := by decide +kernel
theorem dX3_numberAt_15 : decode cX3_numberAt 15 = .ok (.bipush 13, 2) := by decide +kernel
theorem dX3_numberAt_17 : decode cX3_numberAt 17 = .ok (.if_icmp .ge 7, 3) := by decide +kernel
theorem dX3_numberAt_20 : decode cX3_numberAt 20 = .ok (.iconst 1, 1) := by decide +kernel
theorem dX3_numberAt_21 : decode cX3_numberAt 21 = .ok (.goto 4, 3) := by decide +kernel
theorem dX3_numberAt_24 : decode cX3_numberAt 24 = .ok (.iconst 0, 1) := by decide +kernel
theorem dX3_numberAt_25 : decode cX3_numberAt 25 = .ok (.istore_n 3, 1) := by decide +kernel
theorem dX3_numberAt_26 : decode cX3_numberAt 26 = .ok (.iload_n 3, 1) := by decide +kernel
theorem dX3_numberAt_27 : decode cX3_numberAt 27 = .ok (.ifCond .eq 17, 3) := by decide +kernel
theorem dX3_numberAt_30 : decode cX3_numberAt 30 = .ok (.aload_n 0, 1) := by decide +kernel
theorem dX3_numberAt_31 : decode cX3_numberAt 31 = .ok (.getfield 18, 3) := by decide +kernel
theorem dX3_numberAt_34 : decode cX3_numberAt 34 = .ok (.iload_n 1, 1) := by decide +kernel
theorem dX3_numberAt_35 : decode cX3_numberAt 35 = .ok (.bipush 13, 2) := by decide +kernel
theorem dX3_numberAt_37 : decode cX3_numberAt 37 = .ok (.imul, 1) := by decide +kernel
theorem dX3_numberAt_38 : decode cX3_numberAt 38 = .ok (.iload_n 2, 1) := by decide +kernel
theorem dX3_numberAt_39 : decode cX3_numberAt 39 = .ok (.iadd, 1) := by decide +kernel
theorem dX3_numberAt_40 : decode cX3_numberAt 40 = .ok (.iaload, 1) := by decide +kernel
theorem dX3_numberAt_41 : decode cX3_numberAt 41 = .ok (.goto 5, 3) := by decide +kernel
theorem dX3_numberAt_44 : decode cX3_numberAt 44 = .ok (.bipush (-9), 2) := by decide +kernel
theorem dX3_numberAt_46 : decode cX3_numberAt 46 = .ok (.ireturn, 1) := by decide +kernel
theorem dX3_numberOf_0 : decode cX3_numberOf 0 = .ok (.iload_n 1, 1) := by decide +kernel
theorem dX3_numberOf_1 : decode cX3_numberOf 1 = .ok (.ifCond .ge 8, 3) := by decide +kernel
theorem dX3_numberOf_4 : decode cX3_numberOf 4 = .ok (.bipush (-9), 2) := by decide +kernel
theorem dX3_numberOf_6 : decode cX3_numberOf 6 = .ok (.goto 15, 3) := by decide +kernel
theorem dX3_numberOf_9 : decode cX3_numberOf 9 = .ok (.aload_n 0, 1) := by decide +kernel
theorem dX3_numberOf_10 : decode cX3_numberOf 10 = .ok (.iload_n 1, 1) := by decide +kernel
theorem dX3_numberOf_11 : decode cX3_numberOf 11 = .ok (.bipush 100, 2) := by decide +kernel
theorem dX3_numberOf_13 : decode cX3_numberOf 13 = .ok (.idiv, 1) := by decide +kernel
theorem dX3_numberOf_14 : decode cX3_numberOf 14 = .ok (.iload_n 1, 1) := by decide +kernel
theorem dX3_numberOf_15 : decode cX3_numberOf 15 = .ok (.bipush 100, 2) := by decide +kernel
theorem dX3_numberOf_17 : decode cX3_numberOf 17 = .ok (.irem, 1) := by decide +kernel
theorem dX3_numberOf_18 : decode cX3_numberOf 18 = .ok (.invokevirtual 53, 3) := by decide +kernel
theorem dX3_numberOf_21 : decode cX3_numberOf 21 = .ok (.ireturn, 1) := by decide +kernel
theorem dX3_pointOf_0 : decode cX3_pointOf 0 = .ok (.aload_n 0, 1) := by decide +kernel
theorem dX3_pointOf_1 : decode cX3_pointOf 1 = .ok (.getfield 9, 3) := by decide +kernel
theorem dX3_pointOf_4 : decode cX3_pointOf 4 = .ok (.iload_n 1, 1) := by decide +kernel
theorem dX3_pointOf_5 : decode cX3_pointOf 5 = .ok (.invokestatic 57, 3) := by decide +kernel
theorem dX3_pointOf_8 : decode cX3_pointOf 8 = .ok (.ireturn, 1) := by decide +kernel
theorem dX3_kindOf_0 : decode cX3_kindOf 0 = .ok (.aload_n 0, 1) := by decide +kernel
theorem dX3_kindOf_1 : decode cX3_kindOf 1 = .ok (.getfield 15, 3) := by decide +kernel
theorem dX3_kindOf_4 : decode cX3_kindOf 4 = .ok (.iload_n 1, 1) := by decide +kernel
theorem dX3_kindOf_5 : decode cX3_kindOf 5 = .ok (.invokestatic 57, 3) := by decide +kernel
theorem dX3_kindOf_8 : decode cX3_kindOf 8 = .ok (.ireturn, 1) := by decide +kernel
theorem dX3_isCrossing_0 : decode cX3_isCrossing 0 = .ok (.aload_n 0, 1) := by decide +kernel
theorem dX3_isCrossing_1 : decode cX3_isCrossing 1 = .ok (.iload_n 1, 1) := by decide +kernel
theorem dX3_isCrossing_2 : decode cX3_isCrossing 2 = .ok (.invokevirtual 61, 3) := by decide +kernel
theorem dX3_isCrossing_5 : decode cX3_isCrossing 5 = .ok (.istore_n 2, 1) := by decide +kernel
theorem dX3_isCrossing_6 : decode cX3_isCrossing 6 = .ok (.iload_n 2, 1) := by decide +kernel
theorem dX3_isCrossing_7 : decode cX3_isCrossing 7 = .ok (.ifCond .eq 8, 3) := by decide +kernel
theorem dX3_isCrossing_10 : decode cX3_isCrossing 10 = .ok (.iload_n 2, 1) := by decide +kernel
theorem dX3_isCrossing_11 : decode cX3_isCrossing 11 = .ok (.iconst 3, 1) := by decide +kernel
theorem dX3_isCrossing_12 : decode cX3_isCrossing 12 = .ok (.if_icmp .ne 7, 3) := by decide +kernel
theorem dX3_isCrossing_15 : decode cX3_isCrossing 15 = .ok (.iconst 1, 1) := by decide +kernel
theorem dX3_isCrossing_16 : decode cX3_isCrossing 16 = .ok (.goto 4, 3) := by decide +kernel
theorem dX3_isCrossing_19 : decode cX3_isCrossing 19 = .ok (.iconst 0, 1) := by decide +kernel
theorem dX3_isCrossing_20 : decode cX3_isCrossing 20 = .ok (.ireturn, 1) := by decide +kernel
theorem dX3_put_0 : decode cX3_put 0 = .ok (.aload_n 0, 1) := by decide +kernel
theorem dX3_put_1 : decode cX3_put 1 = .ok (.getfield 15, 3) := by decide +kernel
theorem dX3_put_4 : decode cX3_put 4 = .ok (.iload_n 1, 1) := by decide +kernel
theorem dX3_put_5 : decode cX3_put 5 = .ok (.invokestatic 65, 3) := by decide +kernel
theorem dX3_put_8 : decode cX3_put 8 = .ok (.ifCond .eq 10, 3) := by decide +kernel
theorem dX3_put_11 : decode cX3_put 11 = .ok (.aload_n 0, 1) := by decide +kernel
theorem dX3_put_12 : decode cX3_put 12 = .ok (.getfield 15, 3) := by decide +kernel
theorem dX3_put_15 : decode cX3_put 15 = .ok (.iload_n 1, 1) := by decide +kernel
theorem dX3_put_16 : decode cX3_put 16 = .ok (.iload_n 2, 1) := by decide +kernel
theorem dX3_put_17 : decode cX3_put 17 = .ok (.iastore, 1) := by decide +kernel
theorem dX3_put_18 : decode cX3_put 18 = .ok (.return_, 1) := by decide +kernel
theorem dX3_kindAt_0 : decode cX3_kindAt 0 = .ok (.aload_n 0, 1) := by decide +kernel
theorem dX3_kindAt_1 : decode cX3_kindAt 1 = .ok (.iload_n 1, 1) := by decide +kernel
theorem dX3_kindAt_2 : decode cX3_kindAt 2 = .ok (.iload_n 2, 1) := by decide +kernel
theorem dX3_kindAt_3 : decode cX3_kindAt 3 = .ok (.invokevirtual 53, 3) := by decide +kernel
theorem dX3_kindAt_6 : decode cX3_kindAt 6 = .ok (.istore_n 3, 1) := by decide +kernel
theorem dX3_kindAt_7 : decode cX3_kindAt 7 = .ok (.iload_n 3, 1) := by decide +kernel
theorem dX3_kindAt_8 : decode cX3_kindAt 8 = .ok (.ifCond .lt 9, 3) := by decide +kernel
theorem dX3_kindAt_11 : decode cX3_kindAt 11 = .ok (.aload_n 0, 1) := by decide +kernel
theorem dX3_kindAt_12 : decode cX3_kindAt 12 = .ok (.iload_n 3, 1) := by decide +kernel
theorem dX3_kindAt_13 : decode cX3_kindAt 13 = .ok (.invokevirtual 61, 3) := by decide +kernel
theorem dX3_kindAt_16 : decode cX3_kindAt 16 = .ok (.ireturn, 1) := by decide +kernel
theorem dX3_kindAt_17 : decode cX3_kindAt 17 = .ok (.iload_n 1, 1) := by decide +kernel
theorem dX3_kindAt_18 : decode cX3_kindAt 18 = .ok (.ifCond .eq 13, 3) := by decide +kernel
theorem dX3_kindAt_21 : decode cX3_kindAt 21 = .ok (.iload_n 1, 1) := by decide +kernel
theorem dX3_kindAt_22 : decode cX3_kindAt 22 = .ok (.iconst 2, 1) := by decide +kernel
theorem dX3_kindAt_23 : decode cX3_kindAt 23 = .ok (.aload_n 0, 1) := by decide +kernel
theorem dX3_kindAt_24 : decode cX3_kindAt 24 = .ok (.getfield 25, 3) := by decide +kernel
theorem dX3_kindAt_27 : decode cX3_kindAt 27 = .ok (.imul, 1) := by decide +kernel
theorem dX3_kindAt_28 : decode cX3_kindAt 28 = .ok (.if_icmp .ne 7, 3) := by decide +kernel
theorem dX3_kindAt_31 : decode cX3_kindAt 31 = .ok (.iconst 1, 1) := by decide +kernel
theorem dX3_kindAt_32 : decode cX3_kindAt 32 = .ok (.goto 4, 3) := by decide +kernel
theorem dX3_kindAt_35 : decode cX3_kindAt 35 = .ok (.iconst 2, 1) := by decide +kernel
theorem dX3_kindAt_36 : decode cX3_kindAt 36 = .ok (.ireturn, 1) := by decide +kernel
theorem dX3_hasPlainInRow_0 : decode cX3_hasPlainInRow 0 = .ok (.iconst 0, 1) := by decide +kernel
theorem dX3_hasPlainInRow_1 : decode cX3_hasPlainInRow 1 = .ok (.istore_n 2, 1) := by decide +kernel
theorem dX3_hasPlainInRow_2 : decode cX3_hasPlainInRow 2 = .ok (.iload_n 2, 1) := by decide +kernel
theorem dX3_hasPlainInRow_3 : decode cX3_hasPlainInRow 3 = .ok (.bipush 13, 2) := by decide +kernel
theorem dX3_hasPlainInRow_5 : decode cX3_hasPlainInRow 5 = .ok (.if_icmp .ge 30, 3) := by decide +kernel
theorem dX3_hasPlainInRow_8 : decode cX3_hasPlainInRow 8 = .ok (.aload_n 0, 1) := by decide +kernel
theorem dX3_hasPlainInRow_9 : decode cX3_hasPlainInRow 9 = .ok (.iload_n 1, 1) := by decide +kernel
theorem dX3_hasPlainInRow_10 : decode cX3_hasPlainInRow 10 = .ok (.iload_n 2, 1) := by decide +kernel
theorem dX3_hasPlainInRow_11 : decode cX3_hasPlainInRow 11 = .ok (.invokevirtual 53, 3) := by decide +kernel
theorem dX3_hasPlainInRow_14 : decode cX3_hasPlainInRow 14 = .ok (.istore_n 3, 1) := by decide +kernel
theorem dX3_hasPlainInRow_15 : decode cX3_hasPlainInRow 15 = .ok (.iload_n 3, 1) := by decide +kernel
theorem dX3_hasPlainInRow_16 : decode cX3_hasPlainInRow 16 = .ok (.ifCond .lt 13, 3) := by decide +kernel
theorem dX3_hasPlainInRow_19 : decode cX3_hasPlainInRow 19 = .ok (.aload_n 0, 1) := by decide +kernel
theorem dX3_hasPlainInRow_20 : decode cX3_hasPlainInRow 20 = .ok (.iload_n 3, 1) := by decide +kernel
theorem dX3_hasPlainInRow_21 : decode cX3_hasPlainInRow 21 = .ok (.invokevirtual 61, 3) := by decide +kernel
theorem dX3_hasPlainInRow_24 : decode cX3_hasPlainInRow 24 = .ok (.ifCond .ne 5, 3) := by decide +kernel
theorem dX3_hasPlainInRow_27 : decode cX3_hasPlainInRow 27 = .ok (.iconst 1, 1) := by decide +kernel
theorem dX3_hasPlainInRow_28 : decode cX3_hasPlainInRow 28 = .ok (.ireturn, 1) := by decide +kernel
theorem dX3_hasPlainInRow_29 : decode cX3_hasPlainInRow 29 = .ok (.iinc 2 1, 3) := by decide +kernel
theorem dX3_hasPlainInRow_32 : decode cX3_hasPlainInRow 32 = .ok (.goto (-30), 3) := by decide +kernel
theorem dX3_hasPlainInRow_35 : decode cX3_hasPlainInRow 35 = .ok (.iconst 0, 1) := by decide +kernel
theorem dX3_hasPlainInRow_36 : decode cX3_hasPlainInRow 36 = .ok (.ireturn, 1) := by decide +kernel
theorem dX3_countKind_0 : decode cX3_countKind 0 = .ok (.iconst 0, 1) := by decide +kernel
theorem dX3_countKind_1 : decode cX3_countKind 1 = .ok (.istore_n 2, 1) := by decide +kernel
theorem dX3_countKind_2 : decode cX3_countKind 2 = .ok (.iconst 0, 1) := by decide +kernel
theorem dX3_countKind_3 : decode cX3_countKind 3 = .ok (.istore_n 3, 1) := by decide +kernel
theorem dX3_countKind_4 : decode cX3_countKind 4 = .ok (.iload_n 3, 1) := by decide +kernel
theorem dX3_countKind_5 : decode cX3_countKind 5 = .ok (.aload_n 0, 1) := by decide +kernel
theorem dX3_countKind_6 : decode cX3_countKind 6 = .ok (.getfield 32, 3) := by decide +kernel
theorem dX3_countKind_9 : decode cX3_countKind 9 = .ok (.if_icmp .ge 21, 3) := by decide +kernel
theorem dX3_countKind_12 : decode cX3_countKind 12 = .ok (.aload_n 0, 1) := by decide +kernel
theorem dX3_countKind_13 : decode cX3_countKind 13 = .ok (.iload_n 3, 1) := by decide +kernel
theorem dX3_countKind_14 : decode cX3_countKind 14 = .ok (.invokevirtual 61, 3) := by decide +kernel
theorem dX3_countKind_17 : decode cX3_countKind 17 = .ok (.iload_n 1, 1) := by decide +kernel
theorem dX3_countKind_18 : decode cX3_countKind 18 = .ok (.if_icmp .ne 6, 3) := by decide +kernel
theorem dX3_countKind_21 : decode cX3_countKind 21 = .ok (.iinc 2 1, 3) := by decide +kernel
theorem dX3_countKind_24 : decode cX3_countKind 24 = .ok (.iinc 3 1, 3) := by decide +kernel
theorem dX3_countKind_27 : decode cX3_countKind 27 = .ok (.goto (-23), 3) := by decide +kernel
theorem dX3_countKind_30 : decode cX3_countKind 30 = .ok (.iload_n 2, 1) := by decide +kernel
theorem dX3_countKind_31 : decode cX3_countKind 31 = .ok (.ireturn, 1) := by decide +kernel
theorem dX3_countCrossings_0 : decode cX3_countCrossings 0 = .ok (.aload_n 0, 1) := by decide +kernel
theorem dX3_countCrossings_1 : decode cX3_countCrossings 1 = .ok (.iconst 0, 1) := by decide +kernel
theorem dX3_countCrossings_2 : decode cX3_countCrossings 2 = .ok (.invokevirtual 69, 3) := by decide +kernel
theorem dX3_countCrossings_5 : decode cX3_countCrossings 5 = .ok (.aload_n 0, 1) := by decide +kernel
theorem dX3_countCrossings_6 : decode cX3_countCrossings 6 = .ok (.iconst 3, 1) := by decide +kernel
theorem dX3_countCrossings_7 : decode cX3_countCrossings 7 = .ok (.invokevirtual 69, 3) := by decide +kernel
theorem dX3_countCrossings_10 : decode cX3_countCrossings 10 = .ok (.iadd, 1) := by decide +kernel
theorem dX3_countCrossings_11 : decode cX3_countCrossings 11 = .ok (.ireturn, 1) := by decide +kernel
theorem dX3_isSameTurned_0 : decode cX3_isSameTurned 0 = .ok (.iload_n 1, 1) := by decide +kernel
theorem dX3_isSameTurned_1 : decode cX3_isSameTurned 1 = .ok (.iconst 2, 1) := by decide +kernel
theorem dX3_isSameTurned_2 : decode cX3_isSameTurned 2 = .ok (.irem, 1) := by decide +kernel
theorem dX3_isSameTurned_3 : decode cX3_isSameTurned 3 = .ok (.iconst 1, 1) := by decide +kernel
theorem dX3_isSameTurned_4 : decode cX3_isSameTurned 4 = .ok (.if_icmp .ne 16, 3) := by decide +kernel
theorem dX3_isSameTurned_7 : decode cX3_isSameTurned 7 = .ok (.aload_n 0, 1) := by decide +kernel
theorem dX3_isSameTurned_8 : decode cX3_isSameTurned 8 = .ok (.getfield 25, 3) := by decide +kernel
theorem dX3_isSameTurned_11 : decode cX3_isSameTurned 11 = .ok (.aload_n 0, 1) := by decide +kernel
theorem dX3_isSameTurned_12 : decode cX3_isSameTurned 12 = .ok (.getfield 29, 3) := by decide +kernel
theorem dX3_isSameTurned_15 : decode cX3_isSameTurned 15 = .ok (.if_icmp .eq 5, 3) := by decide +kernel
theorem dX3_isSameTurned_18 : decode cX3_isSameTurned 18 = .ok (.iconst 0, 1) := by decide +kernel
theorem dX3_isSameTurned_19 : decode cX3_isSameTurned 19 = .ok (.ireturn, 1) := by decide +kernel
theorem dX3_isSameTurned_20 : decode cX3_isSameTurned 20 = .ok (.iconst 0, 1) := by decide +kernel
theorem dX3_isSameTurned_21 : decode cX3_isSameTurned 21 = .ok (.istore_n 3, 1) := by decide +kernel
theorem dX3_isSameTurned_22 : decode cX3_isSameTurned 22 = .ok (.iload_n 3, 1) := by decide +kernel
theorem dX3_isSameTurned_23 : decode cX3_isSameTurned 23 = .ok (.aload_n 0, 1) := by decide +kernel
theorem dX3_isSameTurned_24 : decode cX3_isSameTurned 24 = .ok (.getfield 32, 3) := by decide +kernel
theorem dX3_isSameTurned_27 : decode cX3_isSameTurned 27 = .ok (.if_icmp .ge 38, 3) := by decide +kernel
theorem dX3_isSameTurned_30 : decode cX3_isSameTurned 30 = .ok (.aload_n 0, 1) := by decide +kernel
theorem dX3_isSameTurned_31 : decode cX3_isSameTurned 31 = .ok (.iload_n 3, 1) := by decide +kernel
theorem dX3_isSameTurned_32 : decode cX3_isSameTurned 32 = .ok (.iload_n 1, 1) := by decide +kernel
theorem dX3_isSameTurned_33 : decode cX3_isSameTurned 33 = .ok (.iload_n 2, 1) := by decide +kernel
theorem dX3_isSameTurned_34 : decode cX3_isSameTurned 34 = .ok (.invokevirtual 72, 3) := by decide +kernel
theorem dX3_isSameTurned_37 : decode cX3_isSameTurned 37 = .ok (.istore 4, 2) := by decide +kernel
theorem dX3_isSameTurned_39 : decode cX3_isSameTurned 39 = .ok (.aload_n 0, 1) := by decide +kernel
theorem dX3_isSameTurned_40 : decode cX3_isSameTurned 40 = .ok (.iload 4, 2) := by decide +kernel
theorem dX3_isSameTurned_42 : decode cX3_isSameTurned 42 = .ok (.invokevirtual 76, 3) := by decide +kernel
theorem dX3_isSameTurned_45 : decode cX3_isSameTurned 45 = .ok (.aload_n 0, 1) := by decide +kernel
theorem dX3_isSameTurned_46 : decode cX3_isSameTurned 46 = .ok (.iload_n 3, 1) := by decide +kernel
theorem dX3_isSameTurned_47 : decode cX3_isSameTurned 47 = .ok (.invokevirtual 76, 3) := by decide +kernel
theorem dX3_isSameTurned_50 : decode cX3_isSameTurned 50 = .ok (.iload_n 1, 1) := by decide +kernel
theorem dX3_isSameTurned_51 : decode cX3_isSameTurned 51 = .ok (.invokestatic 79, 3) := by decide +kernel
theorem dX3_isSameTurned_54 : decode cX3_isSameTurned 54 = .ok (.if_icmp .eq 5, 3) := by decide +kernel
theorem dX3_isSameTurned_57 : decode cX3_isSameTurned 57 = .ok (.iconst 0, 1) := by decide +kernel
theorem dX3_isSameTurned_58 : decode cX3_isSameTurned 58 = .ok (.ireturn, 1) := by decide +kernel
theorem dX3_isSameTurned_59 : decode cX3_isSameTurned 59 = .ok (.iinc 3 1, 3) := by decide +kernel
theorem dX3_isSameTurned_62 : decode cX3_isSameTurned 62 = .ok (.goto (-40), 3) := by decide +kernel
theorem dX3_isSameTurned_65 : decode cX3_isSameTurned 65 = .ok (.iconst 1, 1) := by decide +kernel
theorem dX3_isSameTurned_66 : decode cX3_isSameTurned 66 = .ok (.ireturn, 1) := by decide +kernel
theorem dX3_numberTurned_0 : decode cX3_numberTurned 0 = .ok (.iconst 2, 1) := by decide +kernel
theorem dX3_numberTurned_1 : decode cX3_numberTurned 1 = .ok (.aload_n 0, 1) := by decide +kernel
theorem dX3_numberTurned_2 : decode cX3_numberTurned 2 = .ok (.getfield 25, 3) := by decide +kernel
theorem dX3_numberTurned_5 : decode cX3_numberTurned 5 = .ok (.imul, 1) := by decide +kernel
theorem dX3_numberTurned_6 : decode cX3_numberTurned 6 = .ok (.istore 4, 2) := by decide +kernel
theorem dX3_numberTurned_8 : decode cX3_numberTurned 8 = .ok (.iconst 2, 1) := by decide +kernel
theorem dX3_numberTurned_9 : decode cX3_numberTurned 9 = .ok (.aload_n 0, 1) := by decide +kernel
theorem dX3_numberTurned_10 : decode cX3_numberTurned 10 = .ok (.getfield 29, 3) := by decide +kernel
theorem dX3_numberTurned_13 : decode cX3_numberTurned 13 = .ok (.imul, 1) := by decide +kernel
theorem dX3_numberTurned_14 : decode cX3_numberTurned 14 = .ok (.istore 5, 2) := by decide +kernel
theorem dX3_numberTurned_16 : decode cX3_numberTurned 16 = .ok (.aload_n 0, 1) := by decide +kernel
theorem dX3_numberTurned_17 : decode cX3_numberTurned 17 = .ok (.iload_n 1, 1) := by decide +kernel
theorem dX3_numberTurned_18 : decode cX3_numberTurned 18 = .ok (.invokevirtual 82, 3) := by decide +kernel
theorem dX3_numberTurned_21 : decode cX3_numberTurned 21 = .ok (.bipush 100, 2) := by decide +kernel
theorem dX3_numberTurned_23 : decode cX3_numberTurned 23 = .ok (.idiv, 1) := by decide +kernel
theorem dX3_numberTurned_24 : decode cX3_numberTurned 24 = .ok (.istore 6, 2) := by decide +kernel
theorem dX3_numberTurned_26 : decode cX3_numberTurned 26 = .ok (.aload_n 0, 1) := by decide +kernel
theorem dX3_numberTurned_27 : decode cX3_numberTurned 27 = .ok (.iload_n 1, 1) := by decide +kernel
theorem dX3_numberTurned_28 : decode cX3_numberTurned 28 = .ok (.invokevirtual 82, 3) := by decide +kernel
theorem dX3_numberTurned_31 : decode cX3_numberTurned 31 = .ok (.bipush 100, 2) := by decide +kernel
theorem dX3_numberTurned_33 : decode cX3_numberTurned 33 = .ok (.irem, 1) := by decide +kernel
theorem dX3_numberTurned_34 : decode cX3_numberTurned 34 = .ok (.istore 7, 2) := by decide +kernel
theorem dX3_numberTurned_36 : decode cX3_numberTurned 36 = .ok (.iload_n 3, 1) := by decide +kernel
theorem dX3_numberTurned_37 : decode cX3_numberTurned 37 = .ok (.ifCond .eq 10, 3) := by decide +kernel
theorem dX3_numberTurned_40 : decode cX3_numberTurned 40 = .ok (.iload 5, 2) := by decide +kernel
theorem dX3_numberTurned_42 : decode cX3_numberTurned 42 = .ok (.iload 7, 2) := by decide +kernel
theorem dX3_numberTurned_44 : decode cX3_numberTurned 44 = .ok (.isub, 1) := by decide +kernel
theorem dX3_numberTurned_45 : decode cX3_numberTurned 45 = .ok (.istore 7, 2) := by decide +kernel
theorem dX3_numberTurned_47 : decode cX3_numberTurned 47 = .ok (.iconst 0, 1) := by decide +kernel
theorem dX3_numberTurned_48 : decode cX3_numberTurned 48 = .ok (.istore 8, 2) := by decide +kernel
theorem dX3_numberTurned_50 : decode cX3_numberTurned 50 = .ok (.iload 8, 2) := by decide +kernel
theorem dX3_numberTurned_52 : decode cX3_numberTurned 52 = .ok (.iload_n 2, 1) := by decide +kernel
theorem dX3_numberTurned_53 : decode cX3_numberTurned 53 = .ok (.if_icmp .ge 36, 3) := by decide +kernel
theorem dX3_numberTurned_56 : decode cX3_numberTurned 56 = .ok (.iload 6, 2) := by decide +kernel
theorem dX3_numberTurned_58 : decode cX3_numberTurned 58 = .ok (.istore 9, 2) := by decide +kernel
theorem dX3_numberTurned_60 : decode cX3_numberTurned 60 = .ok (.iload 7, 2) := by decide +kernel
theorem dX3_numberTurned_62 : decode cX3_numberTurned 62 = .ok (.istore 6, 2) := by decide +kernel
theorem dX3_numberTurned_64 : decode cX3_numberTurned 64 = .ok (.iload 4, 2) := by decide +kernel
theorem dX3_numberTurned_66 : decode cX3_numberTurned 66 = .ok (.iload 9, 2) := by decide +kernel
theorem dX3_numberTurned_68 : decode cX3_numberTurned 68 = .ok (.isub, 1) := by decide +kernel
theorem dX3_numberTurned_69 : decode cX3_numberTurned 69 = .ok (.istore 7, 2) := by decide +kernel
theorem dX3_numberTurned_71 : decode cX3_numberTurned 71 = .ok (.iload 4, 2) := by decide +kernel
theorem dX3_numberTurned_73 : decode cX3_numberTurned 73 = .ok (.istore 10, 2) := by decide +kernel
theorem dX3_numberTurned_75 : decode cX3_numberTurned 75 = .ok (.iload 5, 2) := by decide +kernel
theorem dX3_numberTurned_77 : decode cX3_numberTurned 77 = .ok (.istore 4, 2) := by decide +kernel
theorem dX3_numberTurned_79 : decode cX3_numberTurned 79 = .ok (.iload 10, 2) := by decide +kernel
theorem dX3_numberTurned_81 : decode cX3_numberTurned 81 = .ok (.istore 5, 2) := by decide +kernel
theorem dX3_numberTurned_83 : decode cX3_numberTurned 83 = .ok (.iinc 8 1, 3) := by decide +kernel
theorem dX3_numberTurned_86 : decode cX3_numberTurned 86 = .ok (.goto (-36), 3) := by decide +kernel
theorem dX3_numberTurned_89 : decode cX3_numberTurned 89 = .ok (.aload_n 0, 1) := by decide +kernel
theorem dX3_numberTurned_90 : decode cX3_numberTurned 90 = .ok (.iload 6, 2) := by decide +kernel
theorem dX3_numberTurned_92 : decode cX3_numberTurned 92 = .ok (.iload 7, 2) := by decide +kernel
theorem dX3_numberTurned_94 : decode cX3_numberTurned 94 = .ok (.invokevirtual 53, 3) := by decide +kernel
theorem dX3_numberTurned_97 : decode cX3_numberTurned 97 = .ok (.ireturn, 1) := by decide +kernel
theorem dX3_breakOf_0 : decode cX3_breakOf 0 = .ok (.aload_n 0, 1) := by decide +kernel
theorem dX3_breakOf_1 : decode cX3_breakOf 1 = .ok (.iload_n 1, 1) := by decide +kernel
theorem dX3_breakOf_2 : decode cX3_breakOf 2 = .ok (.invokevirtual 85, 3) := by decide +kernel
theorem dX3_breakOf_5 : decode cX3_breakOf 5 = .ok (.ifCond .eq 7, 3) := by decide +kernel
theorem dX3_breakOf_8 : decode cX3_breakOf 8 = .ok (.iconst 0, 1) := by decide +kernel
theorem dX3_breakOf_9 : decode cX3_breakOf 9 = .ok (.goto 8, 3) := by decide +kernel
theorem dX3_breakOf_12 : decode cX3_breakOf 12 = .ok (.aload_n 0, 1) := by decide +kernel
theorem dX3_breakOf_13 : decode cX3_breakOf 13 = .ok (.iload_n 1, 1) := by decide +kernel
theorem dX3_breakOf_14 : decode cX3_breakOf 14 = .ok (.invokevirtual 61, 3) := by decide +kernel
theorem dX3_breakOf_17 : decode cX3_breakOf 17 = .ok (.ireturn, 1) := by decide +kernel
theorem dX3_breakTurned_0 : decode cX3_breakTurned 0 = .ok (.iload_n 1, 1) := by decide +kernel
theorem dX3_breakTurned_1 : decode cX3_breakTurned 1 = .ok (.iconst 2, 1) := by decide +kernel
theorem dX3_breakTurned_2 : decode cX3_breakTurned 2 = .ok (.irem, 1) := by decide +kernel
theorem dX3_breakTurned_3 : decode cX3_breakTurned 3 = .ok (.ifCond .eq 7, 3) := by decide +kernel
theorem dX3_breakTurned_6 : decode cX3_breakTurned 6 = .ok (.iload_n 0, 1) := by decide +kernel
theorem dX3_breakTurned_7 : decode cX3_breakTurned 7 = .ok (.ifCond .ne 5, 3) := by decide +kernel
theorem dX3_breakTurned_10 : decode cX3_breakTurned 10 = .ok (.iload_n 0, 1) := by decide +kernel
theorem dX3_breakTurned_11 : decode cX3_breakTurned 11 = .ok (.ireturn, 1) := by decide +kernel
theorem dX3_breakTurned_12 : decode cX3_breakTurned 12 = .ok (.iload_n 0, 1) := by decide +kernel
theorem dX3_breakTurned_13 : decode cX3_breakTurned 13 = .ok (.iconst 1, 1) := by decide +kernel
theorem dX3_breakTurned_14 : decode cX3_breakTurned 14 = .ok (.if_icmp .ne 7, 3) := by decide +kernel
theorem dX3_breakTurned_17 : decode cX3_breakTurned 17 = .ok (.iconst 2, 1) := by decide +kernel
theorem dX3_breakTurned_18 : decode cX3_breakTurned 18 = .ok (.goto 4, 3) := by decide +kernel
theorem dX3_breakTurned_21 : decode cX3_breakTurned 21 = .ok (.iconst 1, 1) := by decide +kernel
theorem dX3_breakTurned_22 : decode cX3_breakTurned 22 = .ok (.ireturn, 1) := by decide +kernel
theorem dX4_init_0 : decode cX4_init 0 = .ok (.aload_n 0, 1) := by decide +kernel
theorem dX4_init_1 : decode cX4_init 1 = .ok (.invokespecial 3, 3) := by decide +kernel
theorem dX4_init_4 : decode cX4_init 4 = .ok (.aload_n 0, 1) := by decide +kernel
theorem dX4_init_5 : decode cX4_init 5 = .ok (.bipush 72, 2) := by decide +kernel
theorem dX4_init_7 : decode cX4_init 7 = .ok (.newarray .int, 2) := by decide +kernel
theorem dX4_init_9 : decode cX4_init 9 = .ok (.putfield 9, 3) := by decide +kernel
theorem dX4_init_12 : decode cX4_init 12 = .ok (.return_, 1) := by decide +kernel
theorem dX4_hasRoomFor_0 : decode cX4_hasRoomFor 0 = .ok (.aload_n 0, 1) := by decide +kernel
theorem dX4_hasRoomFor_1 : decode cX4_hasRoomFor 1 = .ok (.getfield 15, 3) := by decide +kernel
theorem dX4_hasRoomFor_4 : decode cX4_hasRoomFor 4 = .ok (.iload_n 1, 1) := by decide +kernel
theorem dX4_hasRoomFor_5 : decode cX4_hasRoomFor 5 = .ok (.iadd, 1) := by decide +kernel
theorem dX4_hasRoomFor_6 : decode cX4_hasRoomFor 6 = .ok (.bipush 72, 2) := by decide +kernel
theorem dX4_hasRoomFor_8 : decode cX4_hasRoomFor 8 = .ok (.if_icmp .gt 7, 3) := by decide +kernel
theorem dX4_hasRoomFor_11 : decode cX4_hasRoomFor 11 = .ok (.iconst 1, 1) := by decide +kernel
theorem dX4_hasRoomFor_12 : decode cX4_hasRoomFor 12 = .ok (.goto 4, 3) := by decide +kernel
theorem dX4_hasRoomFor_15 : decode cX4_hasRoomFor 15 = .ok (.iconst 0, 1) := by decide +kernel
theorem dX4_hasRoomFor_16 : decode cX4_hasRoomFor 16 = .ok (.ireturn, 1) := by decide +kernel
theorem dX4_append_0 : decode cX4_append 0 = .ok (.iload_n 1, 1) := by decide +kernel
theorem dX4_append_1 : decode cX4_append 1 = .ok (.iconst 1, 1) := by decide +kernel
theorem dX4_append_2 : decode cX4_append 2 = .ok (.isub, 1) := by decide +kernel
theorem dX4_append_3 : decode cX4_append 3 = .ok (.istore 4, 2) := by decide +kernel
theorem dX4_append_5 : decode cX4_append 5 = .ok (.iload 4, 2) := by decide +kernel
theorem dX4_append_7 : decode cX4_append 7 = .ok (.ifCond .lt 49, 3) := by decide +kernel
theorem dX4_append_10 : decode cX4_append 10 = .ok (.aload_n 0, 1) := by decide +kernel
theorem dX4_append_11 : decode cX4_append 11 = .ok (.getfield 15, 3) := by decide +kernel
theorem dX4_append_14 : decode cX4_append 14 = .ok (.bipush 72, 2) := by decide +kernel
theorem dX4_append_16 : decode cX4_append 16 = .ok (.if_icmp .ge 40, 3) := by decide +kernel
theorem dX4_append_19 : decode cX4_append 19 = .ok (.aload_n 0, 1) := by decide +kernel
theorem dX4_append_20 : decode cX4_append 20 = .ok (.getfield 9, 3) := by decide +kernel
theorem dX4_append_23 : decode cX4_append 23 = .ok (.aload_n 0, 1) := by decide +kernel
theorem dX4_append_24 : decode cX4_append 24 = .ok (.getfield 15, 3) := by decide +kernel
theorem dX4_append_27 : decode cX4_append 27 = .ok (.lload_n 2, 1) := by decide +kernel
theorem dX4_append_28 : decode cX4_append 28 = .ok (.bipush 8, 2) := by decide +kernel
theorem dX4_append_30 : decode cX4_append 30 = .ok (.iload 4, 2) := by decide +kernel
theorem dX4_append_32 : decode cX4_append 32 = .ok (.imul, 1) := by decide +kernel
theorem dX4_append_33 : decode cX4_append 33 = .ok (.lushr, 1) := by decide +kernel
theorem dX4_append_34 : decode cX4_append 34 = .ok (.l2i, 1) := by decide +kernel
theorem dX4_append_35 : decode cX4_append 35 = .ok (.sipush 255, 3) := by decide +kernel
theorem dX4_append_38 : decode cX4_append 38 = .ok (.iand, 1) := by decide +kernel
theorem dX4_append_39 : decode cX4_append 39 = .ok (.iastore, 1) := by decide +kernel
theorem dX4_append_40 : decode cX4_append 40 = .ok (.aload_n 0, 1) := by decide +kernel
theorem dX4_append_41 : decode cX4_append 41 = .ok (.dup, 1) := by decide +kernel
theorem dX4_append_42 : decode cX4_append 42 = .ok (.getfield 15, 3) := by decide +kernel
theorem dX4_append_45 : decode cX4_append 45 = .ok (.iconst 1, 1) := by decide +kernel
theorem dX4_append_46 : decode cX4_append 46 = .ok (.iadd, 1) := by decide +kernel
theorem dX4_append_47 : decode cX4_append 47 = .ok (.putfield 15, 3) := by decide +kernel
theorem dX4_append_50 : decode cX4_append 50 = .ok (.iinc 4 (-1), 3) := by decide +kernel
theorem dX4_append_53 : decode cX4_append 53 = .ok (.goto (-48), 3) := by decide +kernel
theorem dX4_append_56 : decode cX4_append 56 = .ok (.return_, 1) := by decide +kernel
theorem dX4_readInto_0 : decode cX4_readInto 0 = .ok (.iconst 0, 1) := by decide +kernel
theorem dX4_readInto_1 : decode cX4_readInto 1 = .ok (.istore_n 2, 1) := by decide +kernel
theorem dX4_readInto_2 : decode cX4_readInto 2 = .ok (.iload_n 2, 1) := by decide +kernel
theorem dX4_readInto_3 : decode cX4_readInto 3 = .ok (.aload_n 0, 1) := by decide +kernel
theorem dX4_readInto_4 : decode cX4_readInto 4 = .ok (.getfield 15, 3) := by decide +kernel
theorem dX4_readInto_7 : decode cX4_readInto 7 = .ok (.if_icmp .ge 54, 3) := by decide +kernel
theorem dX4_readInto_10 : decode cX4_readInto 10 = .ok (.iload_n 2, 1) := by decide +kernel
theorem dX4_readInto_11 : decode cX4_readInto 11 = .ok (.bipush 72, 2) := by decide +kernel
theorem dX4_readInto_13 : decode cX4_readInto 13 = .ok (.if_icmp .ge 48, 3) := by decide +kernel
theorem dX4_readInto_16 : decode cX4_readInto 16 = .ok (.iload_n 2, 1) := by decide +kernel
theorem dX4_readInto_17 : decode cX4_readInto 17 = .ok (.iconst 3, 1) := by decide +kernel
theorem dX4_readInto_18 : decode cX4_readInto 18 = .ok (.if_icmp .ge 18, 3) := by decide +kernel
theorem dX4_readInto_21 : decode cX4_readInto 21 = .ok (.aload_n 0, 1) := by decide +kernel
theorem dX4_readInto_22 : decode cX4_readInto 22 = .ok (.aload_n 1, 1) := by decide +kernel
theorem dX4_readInto_23 : decode cX4_readInto 23 = .ok (.iload_n 2, 1) := by decide +kernel
theorem dX4_readInto_24 : decode cX4_readInto 24 = .ok (.aload_n 0, 1) := by decide +kernel
theorem dX4_readInto_25 : decode cX4_readInto 25 = .ok (.getfield 9, 3) := by decide +kernel
theorem dX4_readInto_28 : decode cX4_readInto 28 = .ok (.iload_n 2, 1) := by decide +kernel
theorem dX4_readInto_29 : decode cX4_readInto 29 = .ok (.iaload, 1) := by decide +kernel
theorem dX4_readInto_30 : decode cX4_readInto 30 = .ok (.invokevirtual 19, 3) := by decide +kernel
theorem dX4_readInto_33 : decode cX4_readInto 33 = .ok (.goto 15, 3) := by decide +kernel
theorem dX4_readInto_36 : decode cX4_readInto 36 = .ok (.aload_n 0, 1) := by decide +kernel
theorem dX4_readInto_37 : decode cX4_readInto 37 = .ok (.aload_n 1, 1) := by decide +kernel
theorem dX4_readInto_38 : decode cX4_readInto 38 = .ok (.iload_n 2, 1) := by decide +kernel
theorem dX4_readInto_39 : decode cX4_readInto 39 = .ok (.aload_n 0, 1) := by decide +kernel
theorem dX4_readInto_40 : decode cX4_readInto 40 = .ok (.getfield 9, 3) := by decide +kernel
theorem dX4_readInto_43 : decode cX4_readInto 43 = .ok (.iload_n 2, 1) := by decide +kernel
theorem dX4_readInto_44 : decode cX4_readInto 44 = .ok (.iaload, 1) := by decide +kernel
theorem dX4_readInto_45 : decode cX4_readInto 45 = .ok (.invokevirtual 23, 3) := by decide +kernel
theorem dX4_readInto_48 : decode cX4_readInto 48 = .ok (.istore_n 3, 1) := by decide +kernel
theorem dX4_readInto_49 : decode cX4_readInto 49 = .ok (.iload_n 3, 1) := by decide +kernel
theorem dX4_readInto_50 : decode cX4_readInto 50 = .ok (.ifCond .ne 5, 3) := by decide +kernel
theorem dX4_readInto_53 : decode cX4_readInto 53 = .ok (.iload_n 2, 1) := by decide +kernel
theorem dX4_readInto_54 : decode cX4_readInto 54 = .ok (.ireturn, 1) := by decide +kernel
theorem dX4_readInto_55 : decode cX4_readInto 55 = .ok (.iinc 2 1, 3) := by decide +kernel
theorem dX4_readInto_58 : decode cX4_readInto 58 = .ok (.goto (-56), 3) := by decide +kernel
theorem dX4_readInto_61 : decode cX4_readInto 61 = .ok (.aload_n 0, 1) := by decide +kernel
theorem dX4_readInto_62 : decode cX4_readInto 62 = .ok (.getfield 15, 3) := by decide +kernel
theorem dX4_readInto_65 : decode cX4_readInto 65 = .ok (.ifCond .le 16, 3) := by decide +kernel
theorem dX4_readInto_68 : decode cX4_readInto 68 = .ok (.aload_n 0, 1) := by decide +kernel
theorem dX4_readInto_69 : decode cX4_readInto 69 = .ok (.getfield 15, 3) := by decide +kernel
theorem dX4_readInto_72 : decode cX4_readInto 72 = .ok (.iconst 3, 1) := by decide +kernel
theorem dX4_readInto_73 : decode cX4_readInto 73 = .ok (.irem, 1) := by decide +kernel
theorem dX4_readInto_74 : decode cX4_readInto 74 = .ok (.ifCond .ne 7, 3) := by decide +kernel
theorem dX4_readInto_77 : decode cX4_readInto 77 = .ok (.iconst 1, 1) := by decide +kernel
theorem dX4_readInto_78 : decode cX4_readInto 78 = .ok (.goto 4, 3) := by decide +kernel
theorem dX4_readInto_81 : decode cX4_readInto 81 = .ok (.iconst 0, 1) := by decide +kernel
theorem dX4_readInto_82 : decode cX4_readInto 82 = .ok (.istore_n 2, 1) := by decide +kernel
theorem dX4_readInto_83 : decode cX4_readInto 83 = .ok (.iload_n 2, 1) := by decide +kernel
theorem dX4_readInto_84 : decode cX4_readInto 84 = .ok (.ifCond .eq 8, 3) := by decide +kernel
theorem dX4_readInto_87 : decode cX4_readInto 87 = .ok (.bipush (-9), 2) := by decide +kernel
theorem dX4_readInto_89 : decode cX4_readInto 89 = .ok (.goto 7, 3) := by decide +kernel
theorem dX4_readInto_92 : decode cX4_readInto 92 = .ok (.aload_n 0, 1) := by decide +kernel
theorem dX4_readInto_93 : decode cX4_readInto 93 = .ok (.getfield 15, 3) := by decide +kernel
theorem dX4_readInto_96 : decode cX4_readInto 96 = .ok (.ireturn, 1) := by decide +kernel
theorem dX4_readHead_0 : decode cX4_readHead 0 = .ok (.iload_n 2, 1) := by decide +kernel
theorem dX4_readHead_1 : decode cX4_readHead 1 = .ok (.ifCond .ne 15, 3) := by decide +kernel
theorem dX4_readHead_4 : decode cX4_readHead 4 = .ok (.iload_n 3, 1) := by decide +kernel
theorem dX4_readHead_5 : decode cX4_readHead 5 = .ok (.bipush 78, 2) := by decide +kernel
theorem dX4_readHead_7 : decode cX4_readHead 7 = .ok (.if_icmp .ne 7, 3) := by decide +kernel
theorem dX4_readHead_10 : decode cX4_readHead 10 = .ok (.iconst 1, 1) := by decide +kernel
theorem dX4_readHead_11 : decode cX4_readHead 11 = .ok (.goto 4, 3) := by decide +kernel
theorem dX4_readHead_14 : decode cX4_readHead 14 = .ok (.iconst 0, 1) := by decide +kernel
theorem dX4_readHead_15 : decode cX4_readHead 15 = .ok (.ireturn, 1) := by decide +kernel
theorem dX4_readHead_16 : decode cX4_readHead 16 = .ok (.iload_n 3, 1) := by decide +kernel
theorem dX4_readHead_17 : decode cX4_readHead 17 = .ok (.invokestatic 26, 3) := by decide +kernel
theorem dX4_readHead_20 : decode cX4_readHead 20 = .ok (.istore 4, 2) := by decide +kernel
theorem dX4_readHead_22 : decode cX4_readHead 22 = .ok (.iload 4, 2) := by decide +kernel
theorem dX4_readHead_24 : decode cX4_readHead 24 = .ok (.invokestatic 30, 3) := by decide +kernel
theorem dX4_readHead_27 : decode cX4_readHead 27 = .ok (.ifCond .ne 5, 3) := by decide +kernel
theorem dX4_readHead_30 : decode cX4_readHead 30 = .ok (.iconst 0, 1) := by decide +kernel
theorem dX4_readHead_31 : decode cX4_readHead 31 = .ok (.ireturn, 1) := by decide +kernel
theorem dX4_readHead_32 : decode cX4_readHead 32 = .ok (.iload_n 2, 1) := by decide +kernel
theorem dX4_readHead_33 : decode cX4_readHead 33 = .ok (.iconst 1, 1) := by decide +kernel
theorem dX4_readHead_34 : decode cX4_readHead 34 = .ok (.if_icmp .ne 12, 3) := by decide +kernel
theorem dX4_readHead_37 : decode cX4_readHead 37 = .ok (.aload_n 0, 1) := by decide +kernel
theorem dX4_readHead_38 : decode cX4_readHead 38 = .ok (.iload 4, 2) := by decide +kernel
theorem dX4_readHead_40 : decode cX4_readHead 40 = .ok (.putfield 34, 3) := by decide +kernel
theorem dX4_readHead_43 : decode cX4_readHead 43 = .ok (.goto 13, 3) := by decide +kernel
theorem dX4_readHead_46 : decode cX4_readHead 46 = .ok (.aload_n 1, 1) := by decide +kernel
theorem dX4_readHead_47 : decode cX4_readHead 47 = .ok (.aload_n 0, 1) := by decide +kernel
theorem dX4_readHead_48 : decode cX4_readHead 48 = .ok (.getfield 34, 3) := by decide +kernel
theorem dX4_readHead_51 : decode cX4_readHead 51 = .ok (.iload 4, 2) := by decide +kernel
theorem dX4_readHead_53 : decode cX4_readHead 53 = .ok (.invokevirtual 37, 3) := by decide +kernel
theorem dX4_readHead_56 : decode cX4_readHead 56 = .ok (.iconst 1, 1) := by decide +kernel
theorem dX4_readHead_57 : decode cX4_readHead 57 = .ok (.ireturn, 1) := by decide +kernel
theorem dX4_readPart_0 : decode cX4_readPart 0 = .ok (.iload_n 2, 1) := by decide +kernel
theorem dX4_readPart_1 : decode cX4_readPart 1 = .ok (.iconst 3, 1) := by decide +kernel
theorem dX4_readPart_2 : decode cX4_readPart 2 = .ok (.irem, 1) := by decide +kernel
theorem dX4_readPart_3 : decode cX4_readPart 3 = .ok (.ifCond .ne 34, 3) := by decide +kernel
theorem dX4_readPart_6 : decode cX4_readPart 6 = .ok (.aload_n 0, 1) := by decide +kernel
theorem dX4_readPart_7 : decode cX4_readPart 7 = .ok (.iload_n 3, 1) := by decide +kernel
theorem dX4_readPart_8 : decode cX4_readPart 8 = .ok (.invokestatic 43, 3) := by decide +kernel
theorem dX4_readPart_11 : decode cX4_readPart 11 = .ok (.putfield 46, 3) := by decide +kernel
theorem dX4_readPart_14 : decode cX4_readPart 14 = .ok (.aload_n 0, 1) := by decide +kernel
theorem dX4_readPart_15 : decode cX4_readPart 15 = .ok (.getfield 46, 3) := by decide +kernel
theorem dX4_readPart_18 : decode cX4_readPart 18 = .ok (.bipush (-9), 2) := by decide +kernel
theorem dX4_readPart_20 : decode cX4_readPart 20 = .ok (.if_icmp .eq 15, 3) := by decide +kernel
theorem dX4_readPart_23 : decode cX4_readPart 23 = .ok (.aload_n 1, 1) := by decide +kernel
theorem dX4_readPart_24 : decode cX4_readPart 24 = .ok (.iconst 0, 1) := by decide +kernel
theorem dX4_readPart_25 : decode cX4_readPart 25 = .ok (.invokevirtual 49, 3) := by decide +kernel
theorem dX4_readPart_28 : decode cX4_readPart 28 = .ok (.ifCond .le 7, 3) := by decide +kernel
theorem dX4_readPart_31 : decode cX4_readPart 31 = .ok (.iconst 1, 1) := by decide +kernel
theorem dX4_readPart_32 : decode cX4_readPart 32 = .ok (.goto 4, 3) := by decide +kernel
theorem dX4_readPart_35 : decode cX4_readPart 35 = .ok (.iconst 0, 1) := by decide +kernel
theorem dX4_readPart_36 : decode cX4_readPart 36 = .ok (.ireturn, 1) := by decide +kernel
theorem dX4_readPart_37 : decode cX4_readPart 37 = .ok (.iload_n 2, 1) := by decide +kernel
theorem dX4_readPart_38 : decode cX4_readPart 38 = .ok (.iconst 3, 1) := by decide +kernel
theorem dX4_readPart_39 : decode cX4_readPart 39 = .ok (.irem, 1) := by decide +kernel
theorem dX4_readPart_40 : decode cX4_readPart 40 = .ok (.iconst 1, 1) := by decide +kernel
theorem dX4_readPart_41 : decode cX4_readPart 41 = .ok (.if_icmp .ne 20, 3) := by decide +kernel
theorem dX4_readPart_44 : decode cX4_readPart 44 = .ok (.aload_n 0, 1) := by decide +kernel
theorem dX4_readPart_45 : decode cX4_readPart 45 = .ok (.iload_n 3, 1) := by decide +kernel
theorem dX4_readPart_46 : decode cX4_readPart 46 = .ok (.invokestatic 26, 3) := by decide +kernel
theorem dX4_readPart_49 : decode cX4_readPart 49 = .ok (.putfield 52, 3) := by decide +kernel
theorem dX4_readPart_52 : decode cX4_readPart 52 = .ok (.aload_n 1, 1) := by decide +kernel
theorem dX4_readPart_53 : decode cX4_readPart 53 = .ok (.aload_n 0, 1) := by decide +kernel
theorem dX4_readPart_54 : decode cX4_readPart 54 = .ok (.getfield 52, 3) := by decide +kernel
