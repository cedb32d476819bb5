theorem dX6_layLoops_147 : decode cX6_layLoops 147 = .ok (.dup, 1) := by decide +kernel
theorem dX6_layLoops_148 : decode cX6_layLoops 148 = .ok (.getfield 153, 3) := by decide +kernel
theorem dX6_layLoops_151 : decode cX6_layLoops 151 = .ok (.iconst 1, 1) := by decide +kernel
theorem dX6_layLoops_152 : decode cX6_layLoops 152 = .ok (.iadd, 1) := by decide +kernel
theorem dX6_layLoops_153 : decode cX6_layLoops 153 = .ok (.putfield 153, 3) := by decide +kernel
theorem dX6_layLoops_156 : decode cX6_layLoops 156 = .ok (.iinc 2 1, 3) := by decide +kernel
theorem dX6_layLoops_159 : decode cX6_layLoops 159 = .ok (.goto (-127), 3) := by decide +kernel
theorem dX6_layLoops_162 : decode cX6_layLoops 162 = .ok (.aload_n 0, 1) := by decide +kernel
theorem dX6_layLoops_163 : decode cX6_layLoops 163 = .ok (.getfield 32, 3) := by decide +kernel
theorem dX6_layLoops_166 : decode cX6_layLoops 166 = .ok (.aload_n 0, 1) := by decide +kernel
theorem dX6_layLoops_167 : decode cX6_layLoops 167 = .ok (.getfield 153, 3) := by decide +kernel
theorem dX6_layLoops_170 : decode cX6_layLoops 170 = .ok (.iload_n 1, 1) := by decide +kernel
theorem dX6_layLoops_171 : decode cX6_layLoops 171 = .ok (.iastore, 1) := by decide +kernel
theorem dX6_layLoops_172 : decode cX6_layLoops 172 = .ok (.aload_n 0, 1) := by decide +kernel
theorem dX6_layLoops_173 : decode cX6_layLoops 173 = .ok (.getfield 153, 3) := by decide +kernel
theorem dX6_layLoops_176 : decode cX6_layLoops 176 = .ok (.ireturn, 1) := by decide +kernel
theorem dX6_isLoop_0 : decode cX6_isLoop 0 = .ok (.aload_n 0, 1) := by decide +kernel
theorem dX6_isLoop_1 : decode cX6_isLoop 1 = .ok (.invokevirtual 163, 3) := by decide +kernel
theorem dX6_isLoop_4 : decode cX6_isLoop 4 = .ok (.pop, 1) := by decide +kernel
theorem dX6_isLoop_5 : decode cX6_isLoop 5 = .ok (.iload_n 1, 1) := by decide +kernel
theorem dX6_isLoop_6 : decode cX6_isLoop 6 = .ok (.i2l, 1) := by decide +kernel
theorem dX6_isLoop_7 : decode cX6_isLoop 7 = .ok (.lconst 0, 1) := by decide +kernel
theorem dX6_isLoop_8 : decode cX6_isLoop 8 = .ok (.aload_n 0, 1) := by decide +kernel
theorem dX6_isLoop_9 : decode cX6_isLoop 9 = .ok (.getfield 153, 3) := by decide +kernel
theorem dX6_isLoop_12 : decode cX6_isLoop 12 = .ok (.iconst 1, 1) := by decide +kernel
theorem dX6_isLoop_13 : decode cX6_isLoop 13 = .ok (.isub, 1) := by decide +kernel
theorem dX6_isLoop_14 : decode cX6_isLoop 14 = .ok (.i2l, 1) := by decide +kernel
theorem dX6_isLoop_15 : decode cX6_isLoop 15 = .ok (.invokestatic 71, 3) := by decide +kernel
theorem dX6_isLoop_18 : decode cX6_isLoop 18 = .ok (.ireturn, 1) := by decide +kernel
theorem dX6_cellAt_0 : decode cX6_cellAt 0 = .ok (.iload_n 0, 1) := by decide +kernel
theorem dX6_cellAt_1 : decode cX6_cellAt 1 = .ok (.bipush 13, 2) := by decide +kernel
theorem dX6_cellAt_3 : decode cX6_cellAt 3 = .ok (.idiv, 1) := by decide +kernel
theorem dX6_cellAt_4 : decode cX6_cellAt 4 = .ok (.iload_n 1, 1) := by decide +kernel
theorem dX6_cellAt_5 : decode cX6_cellAt 5 = .ok (.ifCond .eq 8, 3) := by decide +kernel
theorem dX6_cellAt_8 : decode cX6_cellAt 8 = .ok (.iload_n 1, 1) := by decide +kernel
theorem dX6_cellAt_9 : decode cX6_cellAt 9 = .ok (.iconst 1, 1) := by decide +kernel
theorem dX6_cellAt_10 : decode cX6_cellAt 10 = .ok (.if_icmp .ne 7, 3) := by decide +kernel
theorem dX6_cellAt_13 : decode cX6_cellAt 13 = .ok (.iconst 1, 1) := by decide +kernel
theorem dX6_cellAt_14 : decode cX6_cellAt 14 = .ok (.goto 4, 3) := by decide +kernel
theorem dX6_cellAt_17 : decode cX6_cellAt 17 = .ok (.iconst 0, 1) := by decide +kernel
theorem dX6_cellAt_18 : decode cX6_cellAt 18 = .ok (.isub, 1) := by decide +kernel
theorem dX6_cellAt_19 : decode cX6_cellAt 19 = .ok (.istore_n 2, 1) := by decide +kernel
theorem dX6_cellAt_20 : decode cX6_cellAt 20 = .ok (.iload_n 0, 1) := by decide +kernel
theorem dX6_cellAt_21 : decode cX6_cellAt 21 = .ok (.bipush 13, 2) := by decide +kernel
theorem dX6_cellAt_23 : decode cX6_cellAt 23 = .ok (.irem, 1) := by decide +kernel
theorem dX6_cellAt_24 : decode cX6_cellAt 24 = .ok (.iload_n 1, 1) := by decide +kernel
theorem dX6_cellAt_25 : decode cX6_cellAt 25 = .ok (.ifCond .eq 8, 3) := by decide +kernel
theorem dX6_cellAt_28 : decode cX6_cellAt 28 = .ok (.iload_n 1, 1) := by decide +kernel
theorem dX6_cellAt_29 : decode cX6_cellAt 29 = .ok (.iconst 2, 1) := by decide +kernel
theorem dX6_cellAt_30 : decode cX6_cellAt 30 = .ok (.if_icmp .ne 7, 3) := by decide +kernel
theorem dX6_cellAt_33 : decode cX6_cellAt 33 = .ok (.iconst 1, 1) := by decide +kernel
theorem dX6_cellAt_34 : decode cX6_cellAt 34 = .ok (.goto 4, 3) := by decide +kernel
theorem dX6_cellAt_37 : decode cX6_cellAt 37 = .ok (.iconst 0, 1) := by decide +kernel
theorem dX6_cellAt_38 : decode cX6_cellAt 38 = .ok (.isub, 1) := by decide +kernel
theorem dX6_cellAt_39 : decode cX6_cellAt 39 = .ok (.istore_n 3, 1) := by decide +kernel
theorem dX6_cellAt_40 : decode cX6_cellAt 40 = .ok (.bipush 12, 2) := by decide +kernel
theorem dX6_cellAt_42 : decode cX6_cellAt 42 = .ok (.iload_n 2, 1) := by decide +kernel
theorem dX6_cellAt_43 : decode cX6_cellAt 43 = .ok (.imul, 1) := by decide +kernel
theorem dX6_cellAt_44 : decode cX6_cellAt 44 = .ok (.iload_n 3, 1) := by decide +kernel
theorem dX6_cellAt_45 : decode cX6_cellAt 45 = .ok (.iadd, 1) := by decide +kernel
theorem dX6_cellAt_46 : decode cX6_cellAt 46 = .ok (.ireturn, 1) := by decide +kernel
theorem dX6_isOver_0 : decode cX6_isOver 0 = .ok (.iload_n 1, 1) := by decide +kernel
theorem dX6_isOver_1 : decode cX6_isOver 1 = .ok (.bipush 13, 2) := by decide +kernel
theorem dX6_isOver_3 : decode cX6_isOver 3 = .ok (.idiv, 1) := by decide +kernel
theorem dX6_isOver_4 : decode cX6_isOver 4 = .ok (.iconst 2, 1) := by decide +kernel
theorem dX6_isOver_5 : decode cX6_isOver 5 = .ok (.irem, 1) := by decide +kernel
theorem dX6_isOver_6 : decode cX6_isOver 6 = .ok (.iconst 1, 1) := by decide +kernel
theorem dX6_isOver_7 : decode cX6_isOver 7 = .ok (.if_icmp .ne 7, 3) := by decide +kernel
theorem dX6_isOver_10 : decode cX6_isOver 10 = .ok (.iconst 1, 1) := by decide +kernel
theorem dX6_isOver_11 : decode cX6_isOver 11 = .ok (.goto 4, 3) := by decide +kernel
theorem dX6_isOver_14 : decode cX6_isOver 14 = .ok (.iconst 0, 1) := by decide +kernel
theorem dX6_isOver_15 : decode cX6_isOver 15 = .ok (.aload_n 0, 1) := by decide +kernel
theorem dX6_isOver_16 : decode cX6_isOver 16 = .ok (.getfield 7, 3) := by decide +kernel
theorem dX6_isOver_19 : decode cX6_isOver 19 = .ok (.iload_n 1, 1) := by decide +kernel
theorem dX6_isOver_20 : decode cX6_isOver 20 = .ok (.iaload, 1) := by decide +kernel
theorem dX6_isOver_21 : decode cX6_isOver 21 = .ok (.iconst 3, 1) := by decide +kernel
theorem dX6_isOver_22 : decode cX6_isOver 22 = .ok (.if_icmp .ne 7, 3) := by decide +kernel
theorem dX6_isOver_25 : decode cX6_isOver 25 = .ok (.iconst 1, 1) := by decide +kernel
theorem dX6_isOver_26 : decode cX6_isOver 26 = .ok (.goto 4, 3) := by decide +kernel
theorem dX6_isOver_29 : decode cX6_isOver 29 = .ok (.iconst 0, 1) := by decide +kernel
theorem dX6_isOver_30 : decode cX6_isOver 30 = .ok (.if_icmp .eq 7, 3) := by decide +kernel
theorem dX6_isOver_33 : decode cX6_isOver 33 = .ok (.iconst 1, 1) := by decide +kernel
theorem dX6_isOver_34 : decode cX6_isOver 34 = .ok (.goto 4, 3) := by decide +kernel
theorem dX6_isOver_37 : decode cX6_isOver 37 = .ok (.iconst 0, 1) := by decide +kernel
theorem dX6_isOver_38 : decode cX6_isOver 38 = .ok (.ireturn, 1) := by decide +kernel
theorem dX6_strand_0 : decode cX6_strand 0 = .ok (.iload_n 1, 1) := by decide +kernel
theorem dX6_strand_1 : decode cX6_strand 1 = .ok (.aload_n 0, 1) := by decide +kernel
theorem dX6_strand_2 : decode cX6_strand 2 = .ok (.iload_n 1, 1) := by decide +kernel
theorem dX6_strand_3 : decode cX6_strand 3 = .ok (.invokevirtual 166, 3) := by decide +kernel
theorem dX6_strand_6 : decode cX6_strand 6 = .ok (.iload_n 2, 1) := by decide +kernel
theorem dX6_strand_7 : decode cX6_strand 7 = .ok (.if_icmp .ne 7, 3) := by decide +kernel
theorem dX6_strand_10 : decode cX6_strand 10 = .ok (.iconst 0, 1) := by decide +kernel
theorem dX6_strand_11 : decode cX6_strand 11 = .ok (.goto 4, 3) := by decide +kernel
theorem dX6_strand_14 : decode cX6_strand 14 = .ok (.iconst 1, 1) := by decide +kernel
theorem dX6_strand_15 : decode cX6_strand 15 = .ok (.invokestatic 169, 3) := by decide +kernel
theorem dX6_strand_18 : decode cX6_strand 18 = .ok (.ireturn, 1) := by decide +kernel
theorem dX6_common_0 : decode cX6_common 0 = .ok (.iconst 0, 1) := by decide +kernel
theorem dX6_common_1 : decode cX6_common 1 = .ok (.istore_n 3, 1) := by decide +kernel
theorem dX6_common_2 : decode cX6_common 2 = .ok (.aload_n 0, 1) := by decide +kernel
theorem dX6_common_3 : decode cX6_common 3 = .ok (.iconst 0, 1) := by decide +kernel
theorem dX6_common_4 : decode cX6_common 4 = .ok (.putfield 172, 3) := by decide +kernel
theorem dX6_common_7 : decode cX6_common 7 = .ok (.iconst 0, 1) := by decide +kernel
theorem dX6_common_8 : decode cX6_common 8 = .ok (.istore 4, 2) := by decide +kernel
theorem dX6_common_10 : decode cX6_common 10 = .ok (.iload 4, 2) := by decide +kernel
theorem dX6_common_12 : decode cX6_common 12 = .ok (.sipush 169, 3) := by decide +kernel
theorem dX6_common_15 : decode cX6_common 15 = .ok (.if_icmp .ge 114, 3) := by decide +kernel
theorem dX6_common_18 : decode cX6_common 18 = .ok (.aload_n 0, 1) := by decide +kernel
theorem dX6_common_19 : decode cX6_common 19 = .ok (.iload 4, 2) := by decide +kernel
theorem dX6_common_21 : decode cX6_common 21 = .ok (.invokevirtual 175, 3) := by decide +kernel
theorem dX6_common_24 : decode cX6_common 24 = .ok (.ifCond .eq 99, 3) := by decide +kernel
theorem dX6_common_27 : decode cX6_common 27 = .ok (.aload_n 0, 1) := by decide +kernel
theorem dX6_common_28 : decode cX6_common 28 = .ok (.getfield 23, 3) := by decide +kernel
theorem dX6_common_31 : decode cX6_common 31 = .ok (.aload_n 0, 1) := by decide +kernel
theorem dX6_common_32 : decode cX6_common 32 = .ok (.iload 4, 2) := by decide +kernel
theorem dX6_common_34 : decode cX6_common 34 = .ok (.iconst 1, 1) := by decide +kernel
theorem dX6_common_35 : decode cX6_common 35 = .ok (.invokevirtual 178, 3) := by decide +kernel
theorem dX6_common_38 : decode cX6_common 38 = .ok (.iaload, 1) := by decide +kernel
theorem dX6_common_39 : decode cX6_common 39 = .ok (.istore 5, 2) := by decide +kernel
theorem dX6_common_41 : decode cX6_common 41 = .ok (.aload_n 0, 1) := by decide +kernel
theorem dX6_common_42 : decode cX6_common 42 = .ok (.getfield 23, 3) := by decide +kernel
theorem dX6_common_45 : decode cX6_common 45 = .ok (.aload_n 0, 1) := by decide +kernel
theorem dX6_common_46 : decode cX6_common 46 = .ok (.iload 4, 2) := by decide +kernel
theorem dX6_common_48 : decode cX6_common 48 = .ok (.iconst 0, 1) := by decide +kernel
theorem dX6_common_49 : decode cX6_common 49 = .ok (.invokevirtual 178, 3) := by decide +kernel
theorem dX6_common_52 : decode cX6_common 52 = .ok (.iaload, 1) := by decide +kernel
theorem dX6_common_53 : decode cX6_common 53 = .ok (.istore 6, 2) := by decide +kernel
theorem dX6_common_55 : decode cX6_common 55 = .ok (.iload 5, 2) := by decide +kernel
theorem dX6_common_57 : decode cX6_common 57 = .ok (.iload_n 1, 1) := by decide +kernel
theorem dX6_common_58 : decode cX6_common 58 = .ok (.if_icmp .ne 9, 3) := by decide +kernel
theorem dX6_common_61 : decode cX6_common 61 = .ok (.iload 6, 2) := by decide +kernel
theorem dX6_common_63 : decode cX6_common 63 = .ok (.iload_n 2, 1) := by decide +kernel
theorem dX6_common_64 : decode cX6_common 64 = .ok (.if_icmp .eq 15, 3) := by decide +kernel
theorem dX6_common_67 : decode cX6_common 67 = .ok (.iload 5, 2) := by decide +kernel
theorem dX6_common_69 : decode cX6_common 69 = .ok (.iload_n 2, 1) := by decide +kernel
theorem dX6_common_70 : decode cX6_common 70 = .ok (.if_icmp .ne 13, 3) := by decide +kernel
theorem dX6_common_73 : decode cX6_common 73 = .ok (.iload 6, 2) := by decide +kernel
theorem dX6_common_75 : decode cX6_common 75 = .ok (.iload_n 1, 1) := by decide +kernel
theorem dX6_common_76 : decode cX6_common 76 = .ok (.if_icmp .ne 7, 3) := by decide +kernel
theorem dX6_common_79 : decode cX6_common 79 = .ok (.iconst 1, 1) := by decide +kernel
theorem dX6_common_80 : decode cX6_common 80 = .ok (.goto 4, 3) := by decide +kernel
theorem dX6_common_83 : decode cX6_common 83 = .ok (.iconst 0, 1) := by decide +kernel
theorem dX6_common_84 : decode cX6_common 84 = .ok (.istore 7, 2) := by decide +kernel
theorem dX6_common_86 : decode cX6_common 86 = .ok (.iload_n 3, 1) := by decide +kernel
theorem dX6_common_87 : decode cX6_common 87 = .ok (.iload 7, 2) := by decide +kernel
theorem dX6_common_89 : decode cX6_common 89 = .ok (.ifCond .eq 7, 3) := by decide +kernel
theorem dX6_common_92 : decode cX6_common 92 = .ok (.iconst 1, 1) := by decide +kernel
theorem dX6_common_93 : decode cX6_common 93 = .ok (.goto 4, 3) := by decide +kernel
theorem dX6_common_96 : decode cX6_common 96 = .ok (.iconst 0, 1) := by decide +kernel
theorem dX6_common_97 : decode cX6_common 97 = .ok (.iadd, 1) := by decide +kernel
theorem dX6_common_98 : decode cX6_common 98 = .ok (.istore_n 3, 1) := by decide +kernel
theorem dX6_common_99 : decode cX6_common 99 = .ok (.aload_n 0, 1) := by decide +kernel
theorem dX6_common_100 : decode cX6_common 100 = .ok (.dup, 1) := by decide +kernel
theorem dX6_common_101 : decode cX6_common 101 = .ok (.getfield 172, 3) := by decide +kernel
theorem dX6_common_104 : decode cX6_common 104 = .ok (.iload 7, 2) := by decide +kernel
theorem dX6_common_106 : decode cX6_common 106 = .ok (.ifCond .eq 12, 3) := by decide +kernel
theorem dX6_common_109 : decode cX6_common 109 = .ok (.aload_n 0, 1) := by decide +kernel
theorem dX6_common_110 : decode cX6_common 110 = .ok (.iload 4, 2) := by decide +kernel
theorem dX6_common_112 : decode cX6_common 112 = .ok (.invokevirtual 181, 3) := by decide +kernel
theorem dX6_common_115 : decode cX6_common 115 = .ok (.goto 4, 3) := by decide +kernel
theorem dX6_common_118 : decode cX6_common 118 = .ok (.iconst 0, 1) := by decide +kernel
theorem dX6_common_119 : decode cX6_common 119 = .ok (.iadd, 1) := by decide +kernel
theorem dX6_common_120 : decode cX6_common 120 = .ok (.putfield 172, 3) := by decide +kernel
theorem dX6_common_123 : decode cX6_common 123 = .ok (.iinc 4 1, 3) := by decide +kernel
theorem dX6_common_126 : decode cX6_common 126 = .ok (.goto (-116), 3) := by decide +kernel
theorem dX6_common_129 : decode cX6_common 129 = .ok (.iload_n 3, 1) := by decide +kernel
theorem dX6_common_130 : decode cX6_common 130 = .ok (.ireturn, 1) := by decide +kernel
theorem dX6_signOf_0 : decode cX6_signOf 0 = .ok (.aload_n 0, 1) := by decide +kernel
theorem dX6_signOf_1 : decode cX6_signOf 1 = .ok (.iload_n 1, 1) := by decide +kernel
theorem dX6_signOf_2 : decode cX6_signOf 2 = .ok (.iconst 1, 1) := by decide +kernel
theorem dX6_signOf_3 : decode cX6_signOf 3 = .ok (.invokevirtual 178, 3) := by decide +kernel
theorem dX6_signOf_6 : decode cX6_signOf 6 = .ok (.istore_n 2, 1) := by decide +kernel
theorem dX6_signOf_7 : decode cX6_signOf 7 = .ok (.aload_n 0, 1) := by decide +kernel
theorem dX6_signOf_8 : decode cX6_signOf 8 = .ok (.iload_n 1, 1) := by decide +kernel
theorem dX6_signOf_9 : decode cX6_signOf 9 = .ok (.iconst 0, 1) := by decide +kernel
theorem dX6_signOf_10 : decode cX6_signOf 10 = .ok (.invokevirtual 178, 3) := by decide +kernel
theorem dX6_signOf_13 : decode cX6_signOf 13 = .ok (.istore_n 3, 1) := by decide +kernel
theorem dX6_signOf_14 : decode cX6_signOf 14 = .ok (.aload_n 0, 1) := by decide +kernel
theorem dX6_signOf_15 : decode cX6_signOf 15 = .ok (.getfield 26, 3) := by decide +kernel
theorem dX6_signOf_18 : decode cX6_signOf 18 = .ok (.iload_n 2, 1) := by decide +kernel
theorem dX6_signOf_19 : decode cX6_signOf 19 = .ok (.baload, 1) := by decide +kernel
theorem dX6_signOf_20 : decode cX6_signOf 20 = .ok (.ifCond .eq 7, 3) := by decide +kernel
theorem dX6_signOf_23 : decode cX6_signOf 23 = .ok (.iconst 1, 1) := by decide +kernel
theorem dX6_signOf_24 : decode cX6_signOf 24 = .ok (.goto 4, 3) := by decide +kernel
theorem dX6_signOf_27 : decode cX6_signOf 27 = .ok (.iconst (-1), 1) := by decide +kernel
theorem dX6_signOf_28 : decode cX6_signOf 28 = .ok (.istore 4, 2) := by decide +kernel
theorem dX6_signOf_30 : decode cX6_signOf 30 = .ok (.iload_n 2, 1) := by decide +kernel
theorem dX6_signOf_31 : decode cX6_signOf 31 = .ok (.invokestatic 131, 3) := by decide +kernel
theorem dX6_signOf_34 : decode cX6_signOf 34 = .ok (.ifCond .eq 8, 3) := by decide +kernel
theorem dX6_signOf_37 : decode cX6_signOf 37 = .ok (.iload 4, 2) := by decide +kernel
theorem dX6_signOf_39 : decode cX6_signOf 39 = .ok (.goto 6, 3) := by decide +kernel
theorem dX6_signOf_42 : decode cX6_signOf 42 = .ok (.iload 4, 2) := by decide +kernel
theorem dX6_signOf_44 : decode cX6_signOf 44 = .ok (.ineg, 1) := by decide +kernel
theorem dX6_signOf_45 : decode cX6_signOf 45 = .ok (.istore 5, 2) := by decide +kernel
theorem dX6_signOf_47 : decode cX6_signOf 47 = .ok (.aload_n 0, 1) := by decide +kernel
theorem dX6_signOf_48 : decode cX6_signOf 48 = .ok (.getfield 26, 3) := by decide +kernel
theorem dX6_signOf_51 : decode cX6_signOf 51 = .ok (.iload_n 3, 1) := by decide +kernel
theorem dX6_signOf_52 : decode cX6_signOf 52 = .ok (.baload, 1) := by decide +kernel
theorem dX6_signOf_53 : decode cX6_signOf 53 = .ok (.ifCond .eq 7, 3) := by decide +kernel
theorem dX6_signOf_56 : decode cX6_signOf 56 = .ok (.iconst 1, 1) := by decide +kernel
theorem dX6_signOf_57 : decode cX6_signOf 57 = .ok (.goto 4, 3) := by decide +kernel
theorem dX6_signOf_60 : decode cX6_signOf 60 = .ok (.iconst (-1), 1) := by decide +kernel
theorem dX6_signOf_61 : decode cX6_signOf 61 = .ok (.istore 6, 2) := by decide +kernel
theorem dX6_signOf_63 : decode cX6_signOf 63 = .ok (.iload_n 3, 1) := by decide +kernel
theorem dX6_signOf_64 : decode cX6_signOf 64 = .ok (.invokestatic 131, 3) := by decide +kernel
theorem dX6_signOf_67 : decode cX6_signOf 67 = .ok (.ifCond .eq 8, 3) := by decide +kernel
theorem dX6_signOf_70 : decode cX6_signOf 70 = .ok (.iload 6, 2) := by decide +kernel
theorem dX6_signOf_72 : decode cX6_signOf 72 = .ok (.goto 6, 3) := by decide +kernel
theorem dX6_signOf_75 : decode cX6_signOf 75 = .ok (.iload 6, 2) := by decide +kernel
theorem dX6_signOf_77 : decode cX6_signOf 77 = .ok (.ineg, 1) := by decide +kernel
theorem dX6_signOf_78 : decode cX6_signOf 78 = .ok (.istore 7, 2) := by decide +kernel
theorem dX6_signOf_80 : decode cX6_signOf 80 = .ok (.iload 5, 2) := by decide +kernel
theorem dX6_signOf_82 : decode cX6_signOf 82 = .ok (.iload 6, 2) := by decide +kernel
theorem dX6_signOf_84 : decode cX6_signOf 84 = .ok (.imul, 1) := by decide +kernel
theorem dX6_signOf_85 : decode cX6_signOf 85 = .ok (.iload 4, 2) := by decide +kernel
theorem dX6_signOf_87 : decode cX6_signOf 87 = .ok (.iload 7, 2) := by decide +kernel
theorem dX6_signOf_89 : decode cX6_signOf 89 = .ok (.imul, 1) := by decide +kernel
theorem dX6_signOf_90 : decode cX6_signOf 90 = .ok (.isub, 1) := by decide +kernel
theorem dX6_signOf_91 : decode cX6_signOf 91 = .ok (.ifCond .le 7, 3) := by decide +kernel
theorem dX6_signOf_94 : decode cX6_signOf 94 = .ok (.iconst 1, 1) := by decide +kernel
theorem dX6_signOf_95 : decode cX6_signOf 95 = .ok (.goto 4, 3) := by decide +kernel
theorem dX6_signOf_98 : decode cX6_signOf 98 = .ok (.iconst (-1), 1) := by decide +kernel
theorem dX6_signOf_99 : decode cX6_signOf 99 = .ok (.ireturn, 1) := by decide +kernel
theorem dX6_layParts_0 : decode cX6_layParts 0 = .ok (.aload_n 0, 1) := by decide +kernel
theorem dX6_layParts_1 : decode cX6_layParts 1 = .ok (.invokevirtual 163, 3) := by decide +kernel
theorem dX6_layParts_4 : decode cX6_layParts 4 = .ok (.pop, 1) := by decide +kernel
theorem dX6_layParts_5 : decode cX6_layParts 5 = .ok (.iconst 0, 1) := by decide +kernel
theorem dX6_layParts_6 : decode cX6_layParts 6 = .ok (.istore_n 1, 1) := by decide +kernel
theorem dX6_layParts_7 : decode cX6_layParts 7 = .ok (.iload_n 1, 1) := by decide +kernel
theorem dX6_layParts_8 : decode cX6_layParts 8 = .ok (.aload_n 0, 1) := by decide +kernel
theorem dX6_layParts_9 : decode cX6_layParts 9 = .ok (.getfield 153, 3) := by decide +kernel
theorem dX6_layParts_12 : decode cX6_layParts 12 = .ok (.if_icmp .ge 16, 3) := by decide +kernel
theorem dX6_layParts_15 : decode cX6_layParts 15 = .ok (.aload_n 0, 1) := by decide +kernel
theorem dX6_layParts_16 : decode cX6_layParts 16 = .ok (.getfield 35, 3) := by decide +kernel
theorem dX6_layParts_19 : decode cX6_layParts 19 = .ok (.iload_n 1, 1) := by decide +kernel
theorem dX6_layParts_20 : decode cX6_layParts 20 = .ok (.iload_n 1, 1) := by decide +kernel
theorem dX6_layParts_21 : decode cX6_layParts 21 = .ok (.iastore, 1) := by decide +kernel
theorem dX6_layParts_22 : decode cX6_layParts 22 = .ok (.iinc 1 1, 3) := by decide +kernel
theorem dX6_layParts_25 : decode cX6_layParts 25 = .ok (.goto (-18), 3) := by decide +kernel
theorem dX6_layParts_28 : decode cX6_layParts 28 = .ok (.aload_n 0, 1) := by decide +kernel
theorem dX6_layParts_29 : decode cX6_layParts 29 = .ok (.getfield 153, 3) := by decide +kernel
theorem dX6_layParts_32 : decode cX6_layParts 32 = .ok (.istore_n 1, 1) := by decide +kernel
theorem dX6_layParts_33 : decode cX6_layParts 33 = .ok (.iconst 0, 1) := by decide +kernel
theorem dX6_layParts_34 : decode cX6_layParts 34 = .ok (.istore_n 2, 1) := by decide +kernel
theorem dX6_layParts_35 : decode cX6_layParts 35 = .ok (.iload_n 2, 1) := by decide +kernel
theorem dX6_layParts_36 : decode cX6_layParts 36 = .ok (.sipush 169, 3) := by decide +kernel
theorem dX6_layParts_39 : decode cX6_layParts 39 = .ok (.if_icmp .ge 46, 3) := by decide +kernel
theorem dX6_layParts_42 : decode cX6_layParts 42 = .ok (.aload_n 0, 1) := by decide +kernel
theorem dX6_layParts_43 : decode cX6_layParts 43 = .ok (.iload_n 2, 1) := by decide +kernel
theorem dX6_layParts_44 : decode cX6_layParts 44 = .ok (.invokevirtual 175, 3) := by decide +kernel
theorem dX6_layParts_47 : decode cX6_layParts 47 = .ok (.ifCond .eq 32, 3) := by decide +kernel
theorem dX6_layParts_50 : decode cX6_layParts 50 = .ok (.iload_n 1, 1) := by decide +kernel
theorem dX6_layParts_51 : decode cX6_layParts 51 = .ok (.aload_n 0, 1) := by decide +kernel
theorem dX6_layParts_52 : decode cX6_layParts 52 = .ok (.aload_n 0, 1) := by decide +kernel
theorem dX6_layParts_53 : decode cX6_layParts 53 = .ok (.getfield 23, 3) := by decide +kernel
theorem dX6_layParts_56 : decode cX6_layParts 56 = .ok (.aload_n 0, 1) := by decide +kernel
theorem dX6_layParts_57 : decode cX6_layParts 57 = .ok (.iload_n 2, 1) := by decide +kernel
theorem dX6_layParts_58 : decode cX6_layParts 58 = .ok (.iconst 1, 1) := by decide +kernel
theorem dX6_layParts_59 : decode cX6_layParts 59 = .ok (.invokevirtual 178, 3) := by decide +kernel
theorem dX6_layParts_62 : decode cX6_layParts 62 = .ok (.iaload, 1) := by decide +kernel
theorem dX6_layParts_63 : decode cX6_layParts 63 = .ok (.aload_n 0, 1) := by decide +kernel
theorem dX6_layParts_64 : decode cX6_layParts 64 = .ok (.getfield 23, 3) := by decide +kernel
theorem dX6_layParts_67 : decode cX6_layParts 67 = .ok (.aload_n 0, 1) := by decide +kernel
theorem dX6_layParts_68 : decode cX6_layParts 68 = .ok (.iload_n 2, 1) := by decide +kernel
theorem dX6_layParts_69 : decode cX6_layParts 69 = .ok (.iconst 0, 1) := by decide +kernel
theorem dX6_layParts_70 : decode cX6_layParts 70 = .ok (.invokevirtual 178, 3) := by decide +kernel
theorem dX6_layParts_73 : decode cX6_layParts 73 = .ok (.iaload, 1) := by decide +kernel
theorem dX6_layParts_74 : decode cX6_layParts 74 = .ok (.invokevirtual 184, 3) := by decide +kernel
theorem dX6_layParts_77 : decode cX6_layParts 77 = .ok (.isub, 1) := by decide +kernel
theorem dX6_layParts_78 : decode cX6_layParts 78 = .ok (.istore_n 1, 1) := by decide +kernel
theorem dX6_layParts_79 : decode cX6_layParts 79 = .ok (.iinc 2 1, 3) := by decide +kernel
theorem dX6_layParts_82 : decode cX6_layParts 82 = .ok (.goto (-47), 3) := by decide +kernel
theorem dX6_layParts_85 : decode cX6_layParts 85 = .ok (.iload_n 1, 1) := by decide +kernel
theorem dX6_layParts_86 : decode cX6_layParts 86 = .ok (.ireturn, 1) := by decide +kernel
theorem dX6_join_0 : decode cX6_join 0 = .ok (.aload_n 0, 1) := by decide +kernel
theorem dX6_join_1 : decode cX6_join 1 = .ok (.getfield 35, 3) := by decide +kernel
theorem dX6_join_4 : decode cX6_join 4 = .ok (.iload_n 1, 1) := by decide +kernel
theorem dX6_join_5 : decode cX6_join 5 = .ok (.iaload, 1) := by decide +kernel
theorem dX6_join_6 : decode cX6_join 6 = .ok (.istore_n 3, 1) := by decide +kernel
theorem dX6_join_7 : decode cX6_join 7 = .ok (.aload_n 0, 1) := by decide +kernel
theorem dX6_join_8 : decode cX6_join 8 = .ok (.getfield 35, 3) := by decide +kernel
theorem dX6_join_11 : decode cX6_join 11 = .ok (.iload_n 2, 1) := by decide +kernel
theorem dX6_join_12 : decode cX6_join 12 = .ok (.iaload, 1) := by decide +kernel
theorem dX6_join_13 : decode cX6_join 13 = .ok (.istore 4, 2) := by decide +kernel
theorem dX6_join_15 : decode cX6_join 15 = .ok (.iconst 0, 1) := by decide +kernel
theorem dX6_join_16 : decode cX6_join 16 = .ok (.istore 5, 2) := by decide +kernel
theorem dX6_join_18 : decode cX6_join 18 = .ok (.iload 5, 2) := by decide +kernel
theorem dX6_join_20 : decode cX6_join 20 = .ok (.aload_n 0, 1) := by decide +kernel
theorem dX6_join_21 : decode cX6_join 21 = .ok (.getfield 153, 3) := by decide +kernel
theorem dX6_join_24 : decode cX6_join 24 = .ok (.if_icmp .ge 39, 3) := by decide +kernel
theorem dX6_join_27 : decode cX6_join 27 = .ok (.aload_n 0, 1) := by decide +kernel
theorem dX6_join_28 : decode cX6_join 28 = .ok (.getfield 35, 3) := by decide +kernel
theorem dX6_join_31 : decode cX6_join 31 = .ok (.iload 5, 2) := by decide +kernel
theorem dX6_join_33 : decode cX6_join 33 = .ok (.aload_n 0, 1) := by decide +kernel
theorem dX6_join_34 : decode cX6_join 34 = .ok (.getfield 35, 3) := by decide +kernel
theorem dX6_join_37 : decode cX6_join 37 = .ok (.iload 5, 2) := by decide +kernel
theorem dX6_join_39 : decode cX6_join 39 = .ok (.iaload, 1) := by decide +kernel
theorem dX6_join_40 : decode cX6_join 40 = .ok (.iload 4, 2) := by decide +kernel
theorem dX6_join_42 : decode cX6_join 42 = .ok (.if_icmp .ne 7, 3) := by decide +kernel
theorem dX6_join_45 : decode cX6_join 45 = .ok (.iload_n 3, 1) := by decide +kernel
theorem dX6_join_46 : decode cX6_join 46 = .ok (.goto 10, 3) := by decide +kernel
theorem dX6_join_49 : decode cX6_join 49 = .ok (.aload_n 0, 1) := by decide +kernel
theorem dX6_join_50 : decode cX6_join 50 = .ok (.getfield 35, 3) := by decide +kernel
theorem dX6_join_53 : decode cX6_join 53 = .ok (.iload 5, 2) := by decide +kernel
theorem dX6_join_55 : decode cX6_join 55 = .ok (.iaload, 1) := by decide +kernel
theorem dX6_join_56 : decode cX6_join 56 = .ok (.iastore, 1) := by decide +kernel
theorem dX6_join_57 : decode cX6_join 57 = .ok (.iinc 5 1, 3) := by decide +kernel
theorem dX6_join_60 : decode cX6_join 60 = .ok (.goto (-42), 3) := by decide +kernel
theorem dX6_join_63 : decode cX6_join 63 = .ok (.iload_n 3, 1) := by decide +kernel
theorem dX6_join_64 : decode cX6_join 64 = .ok (.iload 4, 2) := by decide +kernel
theorem dX6_join_66 : decode cX6_join 66 = .ok (.if_icmp .ne 7, 3) := by decide +kernel
theorem dX6_join_69 : decode cX6_join 69 = .ok (.iconst 0, 1) := by decide +kernel
theorem dX6_join_70 : decode cX6_join 70 = .ok (.goto 4, 3) := by decide +kernel
theorem dX6_join_73 : decode cX6_join 73 = .ok (.iconst 1, 1) := by decide +kernel
theorem dX6_join_74 : decode cX6_join 74 = .ok (.ireturn, 1) := by decide +kernel
theorem dX6_layArcs_0 : decode cX6_layArcs 0 = .ok (.aload_n 0, 1) := by decide +kernel
theorem dX6_layArcs_1 : decode cX6_layArcs 1 = .ok (.invokevirtual 163, 3) := by decide +kernel
theorem dX6_layArcs_4 : decode cX6_layArcs 4 = .ok (.pop, 1) := by decide +kernel
theorem dX6_layArcs_5 : decode cX6_layArcs 5 = .ok (.aload_n 0, 1) := by decide +kernel
theorem dX6_layArcs_6 : decode cX6_layArcs 6 = .ok (.iconst 0, 1) := by decide +kernel
theorem dX6_layArcs_7 : decode cX6_layArcs 7 = .ok (.putfield 187, 3) := by decide +kernel
theorem dX6_layArcs_10 : decode cX6_layArcs 10 = .ok (.iconst 0, 1) := by decide +kernel
theorem dX6_layArcs_11 : decode cX6_layArcs 11 = .ok (.istore_n 1, 1) := by decide +kernel
theorem dX6_layArcs_12 : decode cX6_layArcs 12 = .ok (.iload_n 1, 1) := by decide +kernel
theorem dX6_layArcs_13 : decode cX6_layArcs 13 = .ok (.aload_n 0, 1) := by decide +kernel
theorem dX6_layArcs_14 : decode cX6_layArcs 14 = .ok (.getfield 153, 3) := by decide +kernel
theorem dX6_layArcs_17 : decode cX6_layArcs 17 = .ok (.if_icmp .ge 206, 3) := by decide +kernel
theorem dX6_layArcs_20 : decode cX6_layArcs 20 = .ok (.aload_n 0, 1) := by decide +kernel
theorem dX6_layArcs_21 : decode cX6_layArcs 21 = .ok (.getfield 187, 3) := by decide +kernel
theorem dX6_layArcs_24 : decode cX6_layArcs 24 = .ok (.istore_n 2, 1) := by decide +kernel
theorem dX6_layArcs_25 : decode cX6_layArcs 25 = .ok (.aload_n 0, 1) := by decide +kernel
theorem dX6_layArcs_26 : decode cX6_layArcs 26 = .ok (.getfield 187, 3) := by decide +kernel
theorem dX6_layArcs_29 : decode cX6_layArcs 29 = .ok (.istore_n 3, 1) := by decide +kernel
theorem dX6_layArcs_30 : decode cX6_layArcs 30 = .ok (.iconst 0, 1) := by decide +kernel
theorem dX6_layArcs_31 : decode cX6_layArcs 31 = .ok (.istore 4, 2) := by decide +kernel
theorem dX6_layArcs_33 : decode cX6_layArcs 33 = .ok (.aload_n 0, 1) := by decide +kernel
theorem dX6_layArcs_34 : decode cX6_layArcs 34 = .ok (.getfield 32, 3) := by decide +kernel
theorem dX6_layArcs_37 : decode cX6_layArcs 37 = .ok (.iload_n 1, 1) := by decide +kernel
theorem dX6_layArcs_38 : decode cX6_layArcs 38 = .ok (.iaload, 1) := by decide +kernel
theorem dX6_layArcs_39 : decode cX6_layArcs 39 = .ok (.istore 5, 2) := by decide +kernel
theorem dX6_layArcs_41 : decode cX6_layArcs 41 = .ok (.iload 5, 2) := by decide +kernel
theorem dX6_layArcs_43 : decode cX6_layArcs 43 = .ok (.aload_n 0, 1) := by decide +kernel
theorem dX6_layArcs_44 : decode cX6_layArcs 44 = .ok (.getfield 32, 3) := by decide +kernel
theorem dX6_layArcs_47 : decode cX6_layArcs 47 = .ok (.iload_n 1, 1) := by decide +kernel
theorem dX6_layArcs_48 : decode cX6_layArcs 48 = .ok (.iconst 1, 1) := by decide +kernel
theorem dX6_layArcs_49 : decode cX6_layArcs 49 = .ok (.iadd, 1) := by decide +kernel
theorem dX6_layArcs_50 : decode cX6_layArcs 50 = .ok (.iaload, 1) := by decide +kernel
theorem dX6_layArcs_51 : decode cX6_layArcs 51 = .ok (.if_icmp .ge 33, 3) := by decide +kernel
theorem dX6_layArcs_54 : decode cX6_layArcs 54 = .ok (.iload 4, 2) := by decide +kernel
theorem dX6_layArcs_56 : decode cX6_layArcs 56 = .ok (.aload_n 0, 1) := by decide +kernel
theorem dX6_layArcs_57 : decode cX6_layArcs 57 = .ok (.aload_n 0, 1) := by decide +kernel
theorem dX6_layArcs_58 : decode cX6_layArcs 58 = .ok (.getfield 29, 3) := by decide +kernel
theorem dX6_layArcs_61 : decode cX6_layArcs 61 = .ok (.iload 5, 2) := by decide +kernel
theorem dX6_layArcs_63 : decode cX6_layArcs 63 = .ok (.iaload, 1) := by decide +kernel
theorem dX6_layArcs_64 : decode cX6_layArcs 64 = .ok (.invokevirtual 190, 3) := by decide +kernel
theorem dX6_layArcs_67 : decode cX6_layArcs 67 = .ok (.ifCond .eq 7, 3) := by decide +kernel
theorem dX6_layArcs_70 : decode cX6_layArcs 70 = .ok (.iconst 1, 1) := by decide +kernel
theorem dX6_layArcs_71 : decode cX6_layArcs 71 = .ok (.goto 4, 3) := by decide +kernel
theorem dX6_layArcs_74 : decode cX6_layArcs 74 = .ok (.iconst 0, 1) := by decide +kernel
theorem dX6_layArcs_75 : decode cX6_layArcs 75 = .ok (.iadd, 1) := by decide +kernel
theorem dX6_layArcs_76 : decode cX6_layArcs 76 = .ok (.istore 4, 2) := by decide +kernel
theorem dX6_layArcs_78 : decode cX6_layArcs 78 = .ok (.iinc 5 1, 3) := by decide +kernel
theorem dX6_layArcs_81 : decode cX6_layArcs 81 = .ok (.goto (-40), 3) := by decide +kernel
theorem dX6_layArcs_84 : decode cX6_layArcs 84 = .ok (.iload 4, 2) := by decide +kernel
theorem dX6_layArcs_86 : decode cX6_layArcs 86 = .ok (.ifCond .ne 7, 3) := by decide +kernel
theorem dX6_layArcs_89 : decode cX6_layArcs 89 = .ok (.iconst 1, 1) := by decide +kernel
theorem dX6_layArcs_90 : decode cX6_layArcs 90 = .ok (.goto 5, 3) := by decide +kernel
theorem dX6_layArcs_93 : decode cX6_layArcs 93 = .ok (.iload 4, 2) := by decide +kernel
theorem dX6_layArcs_95 : decode cX6_layArcs 95 = .ok (.istore 5, 2) := by decide +kernel
theorem dX6_layArcs_97 : decode cX6_layArcs 97 = .ok (.aload_n 0, 1) := by decide +kernel
theorem dX6_layArcs_98 : decode cX6_layArcs 98 = .ok (.getfield 32, 3) := by decide +kernel
theorem dX6_layArcs_101 : decode cX6_layArcs 101 = .ok (.iload_n 1, 1) := by decide +kernel
theorem dX6_layArcs_102 : decode cX6_layArcs 102 = .ok (.iaload, 1) := by decide +kernel
theorem dX6_layArcs_103 : decode cX6_layArcs 103 = .ok (.istore 6, 2) := by decide +kernel
theorem dX6_layArcs_105 : decode cX6_layArcs 105 = .ok (.iload 6, 2) := by decide +kernel
theorem dX6_layArcs_107 : decode cX6_layArcs 107 = .ok (.aload_n 0, 1) := by decide +kernel
theorem dX6_layArcs_108 : decode cX6_layArcs 108 = .ok (.getfield 32, 3) := by decide +kernel
theorem dX6_layArcs_111 : decode cX6_layArcs 111 = .ok (.iload_n 1, 1) := by decide +kernel
theorem dX6_layArcs_112 : decode cX6_layArcs 112 = .ok (.iconst 1, 1) := by decide +kernel
theorem dX6_layArcs_113 : decode cX6_layArcs 113 = .ok (.iadd, 1) := by decide +kernel
theorem dX6_layArcs_114 : decode cX6_layArcs 114 = .ok (.iaload, 1) := by decide +kernel
theorem dX6_layArcs_115 : decode cX6_layArcs 115 = .ok (.if_icmp .ge 94, 3) := by decide +kernel
theorem dX6_layArcs_118 : decode cX6_layArcs 118 = .ok (.aload_n 0, 1) := by decide +kernel
theorem dX6_layArcs_119 : decode cX6_layArcs 119 = .ok (.getfield 29, 3) := by decide +kernel
theorem dX6_layArcs_122 : decode cX6_layArcs 122 = .ok (.iload 6, 2) := by decide +kernel
theorem dX6_layArcs_124 : decode cX6_layArcs 124 = .ok (.iaload, 1) := by decide +kernel
theorem dX6_layArcs_125 : decode cX6_layArcs 125 = .ok (.aload_n 0, 1) := by decide +kernel
theorem dX6_layArcs_126 : decode cX6_layArcs 126 = .ok (.getfield 26, 3) := by decide +kernel
theorem dX6_layArcs_129 : decode cX6_layArcs 129 = .ok (.aload_n 0, 1) := by decide +kernel
theorem dX6_layArcs_130 : decode cX6_layArcs 130 = .ok (.getfield 29, 3) := by decide +kernel
theorem dX6_layArcs_133 : decode cX6_layArcs 133 = .ok (.iload 6, 2) := by decide +kernel
theorem dX6_layArcs_135 : decode cX6_layArcs 135 = .ok (.iaload, 1) := by decide +kernel
theorem dX6_layArcs_136 : decode cX6_layArcs 136 = .ok (.baload, 1) := by decide +kernel
theorem dX6_layArcs_137 : decode cX6_layArcs 137 = .ok (.invokestatic 135, 3) := by decide +kernel
theorem dX6_layArcs_140 : decode cX6_layArcs 140 = .ok (.istore 7, 2) := by decide +kernel
theorem dX6_layArcs_142 : decode cX6_layArcs 142 = .ok (.aload_n 0, 1) := by decide +kernel
theorem dX6_layArcs_143 : decode cX6_layArcs 143 = .ok (.aload_n 0, 1) := by decide +kernel
theorem dX6_layArcs_144 : decode cX6_layArcs 144 = .ok (.getfield 29, 3) := by decide +kernel
theorem dX6_layArcs_147 : decode cX6_layArcs 147 = .ok (.iload 6, 2) := by decide +kernel
theorem dX6_layArcs_149 : decode cX6_layArcs 149 = .ok (.iaload, 1) := by decide +kernel
theorem dX6_layArcs_150 : decode cX6_layArcs 150 = .ok (.invokevirtual 190, 3) := by decide +kernel
theorem dX6_layArcs_153 : decode cX6_layArcs 153 = .ok (.ifCond .eq 33, 3) := by decide +kernel
theorem dX6_layArcs_156 : decode cX6_layArcs 156 = .ok (.aload_n 0, 1) := by decide +kernel
theorem dX6_layArcs_157 : decode cX6_layArcs 157 = .ok (.getfield 38, 3) := by decide +kernel
theorem dX6_layArcs_160 : decode cX6_layArcs 160 = .ok (.iload 7, 2) := by decide +kernel
theorem dX6_layArcs_162 : decode cX6_layArcs 162 = .ok (.iload_n 3, 1) := by decide +kernel
theorem dX6_layArcs_163 : decode cX6_layArcs 163 = .ok (.iastore, 1) := by decide +kernel
theorem dX6_layArcs_164 : decode cX6_layArcs 164 = .ok (.iload_n 2, 1) := by decide +kernel
theorem dX6_layArcs_165 : decode cX6_layArcs 165 = .ok (.iload_n 3, 1) := by decide +kernel
theorem dX6_layArcs_166 : decode cX6_layArcs 166 = .ok (.iload_n 2, 1) := by decide +kernel
theorem dX6_layArcs_167 : decode cX6_layArcs 167 = .ok (.isub, 1) := by decide +kernel
theorem dX6_layArcs_168 : decode cX6_layArcs 168 = .ok (.iconst 1, 1) := by decide +kernel
theorem dX6_layArcs_169 : decode cX6_layArcs 169 = .ok (.iadd, 1) := by decide +kernel
theorem dX6_layArcs_170 : decode cX6_layArcs 170 = .ok (.iload 5, 2) := by decide +kernel
theorem dX6_layArcs_172 : decode cX6_layArcs 172 = .ok (.irem, 1) := by decide +kernel
theorem dX6_layArcs_173 : decode cX6_layArcs 173 = .ok (.iadd, 1) := by decide +kernel
theorem dX6_layArcs_174 : decode cX6_layArcs 174 = .ok (.istore_n 3, 1) := by decide +kernel
theorem dX6_layArcs_175 : decode cX6_layArcs 175 = .ok (.aload_n 0, 1) := by decide +kernel
theorem dX6_layArcs_176 : decode cX6_layArcs 176 = .ok (.getfield 41, 3) := by decide +kernel
theorem dX6_layArcs_179 : decode cX6_layArcs 179 = .ok (.iload 7, 2) := by decide +kernel
theorem dX6_layArcs_181 : decode cX6_layArcs 181 = .ok (.iload_n 3, 1) := by decide +kernel
theorem dX6_layArcs_182 : decode cX6_layArcs 182 = .ok (.iastore, 1) := by decide +kernel
theorem dX6_layArcs_183 : decode cX6_layArcs 183 = .ok (.goto 20, 3) := by decide +kernel
theorem dX6_layArcs_186 : decode cX6_layArcs 186 = .ok (.aload_n 0, 1) := by decide +kernel
theorem dX6_layArcs_187 : decode cX6_layArcs 187 = .ok (.iload 7, 2) := by decide +kernel
theorem dX6_layArcs_189 : decode cX6_layArcs 189 = .ok (.invokevirtual 175, 3) := by decide +kernel
theorem dX6_layArcs_192 : decode cX6_layArcs 192 = .ok (.ifCond .eq 11, 3) := by decide +kernel
theorem dX6_layArcs_195 : decode cX6_layArcs 195 = .ok (.aload_n 0, 1) := by decide +kernel
theorem dX6_layArcs_196 : decode cX6_layArcs 196 = .ok (.getfield 44, 3) := by decide +kernel
theorem dX6_layArcs_199 : decode cX6_layArcs 199 = .ok (.iload 7, 2) := by decide +kernel
theorem dX6_layArcs_201 : decode cX6_layArcs 201 = .ok (.iload_n 3, 1) := by decide +kernel
theorem dX6_layArcs_202 : decode cX6_layArcs 202 = .ok (.iastore, 1) := by decide +kernel
theorem dX6_layArcs_203 : decode cX6_layArcs 203 = .ok (.iinc 6 1, 3) := by decide +kernel
theorem dX6_layArcs_206 : decode cX6_layArcs 206 = .ok (.goto (-101), 3) := by decide +kernel
theorem dX6_layArcs_209 : decode cX6_layArcs 209 = .ok (.aload_n 0, 1) := by decide +kernel
theorem dX6_layArcs_210 : decode cX6_layArcs 210 = .ok (.iload_n 2, 1) := by decide +kernel
theorem dX6_layArcs_211 : decode cX6_layArcs 211 = .ok (.iload 5, 2) := by decide +kernel
theorem dX6_layArcs_213 : decode cX6_layArcs 213 = .ok (.iadd, 1) := by decide +kernel
theorem dX6_layArcs_214 : decode cX6_layArcs 214 = .ok (.putfield 187, 3) := by decide +kernel
theorem dX6_layArcs_217 : decode cX6_layArcs 217 = .ok (.iinc 1 1, 3) := by decide +kernel
theorem dX6_layArcs_220 : decode cX6_layArcs 220 = .ok (.goto (-208), 3) := by decide +kernel
theorem dX6_layArcs_223 : decode cX6_layArcs 223 = .ok (.return_, 1) := by decide +kernel
theorem dX6_isUnder_0 : decode cX6_isUnder 0 = .ok (.iload_n 1, 1) := by decide +kernel
theorem dX6_isUnder_1 : decode cX6_isUnder 1 = .ok (.aload_n 0, 1) := by decide +kernel
theorem dX6_isUnder_2 : decode cX6_isUnder 2 = .ok (.getfield 26, 3) := by decide +kernel
theorem dX6_isUnder_5 : decode cX6_isUnder 5 = .ok (.iload_n 1, 1) := by decide +kernel
theorem dX6_isUnder_6 : decode cX6_isUnder 6 = .ok (.baload, 1) := by decide +kernel
theorem dX6_isUnder_7 : decode cX6_isUnder 7 = .ok (.invokestatic 135, 3) := by decide +kernel
theorem dX6_isUnder_10 : decode cX6_isUnder 10 = .ok (.istore_n 2, 1) := by decide +kernel
theorem dX6_isUnder_11 : decode cX6_isUnder 11 = .ok (.aload_n 0, 1) := by decide +kernel
theorem dX6_isUnder_12 : decode cX6_isUnder 12 = .ok (.iload_n 2, 1) := by decide +kernel
theorem dX6_isUnder_13 : decode cX6_isUnder 13 = .ok (.invokevirtual 175, 3) := by decide +kernel
theorem dX6_isUnder_16 : decode cX6_isUnder 16 = .ok (.ifCond .eq 19, 3) := by decide +kernel
theorem dX6_isUnder_19 : decode cX6_isUnder 19 = .ok (.aload_n 0, 1) := by decide +kernel
theorem dX6_isUnder_20 : decode cX6_isUnder 20 = .ok (.iload_n 2, 1) := by decide +kernel
theorem dX6_isUnder_21 : decode cX6_isUnder 21 = .ok (.invokevirtual 166, 3) := by decide +kernel
theorem dX6_isUnder_24 : decode cX6_isUnder 24 = .ok (.iload_n 1, 1) := by decide +kernel
theorem dX6_isUnder_25 : decode cX6_isUnder 25 = .ok (.invokestatic 131, 3) := by decide +kernel
theorem dX6_isUnder_28 : decode cX6_isUnder 28 = .ok (.if_icmp .eq 7, 3) := by decide +kernel
theorem dX6_isUnder_31 : decode cX6_isUnder 31 = .ok (.iconst 1, 1) := by decide +kernel
theorem dX6_isUnder_32 : decode cX6_isUnder 32 = .ok (.goto 4, 3) := by decide +kernel
theorem dX6_isUnder_35 : decode cX6_isUnder 35 = .ok (.iconst 0, 1) := by decide +kernel
theorem dX6_isUnder_36 : decode cX6_isUnder 36 = .ok (.ireturn, 1) := by decide +kernel
theorem dX6_colours_0 : decode cX6_colours 0 = .ok (.iload_n 1, 1) := by decide +kernel
theorem dX6_colours_1 : decode cX6_colours 1 = .ok (.iconst 3, 1) := by decide +kernel
theorem dX6_colours_2 : decode cX6_colours 2 = .ok (.if_icmp .eq 17, 3) := by decide +kernel
theorem dX6_colours_5 : decode cX6_colours 5 = .ok (.iload_n 1, 1) := by decide +kernel
theorem dX6_colours_6 : decode cX6_colours 6 = .ok (.iconst 5, 1) := by decide +kernel
theorem dX6_colours_7 : decode cX6_colours 7 = .ok (.if_icmp .eq 12, 3) := by decide +kernel
theorem dX6_colours_10 : decode cX6_colours 10 = .ok (.iload_n 1, 1) := by decide +kernel
theorem dX6_colours_11 : decode cX6_colours 11 = .ok (.bipush 7, 2) := by decide +kernel
theorem dX6_colours_13 : decode cX6_colours 13 = .ok (.if_icmp .eq 6, 3) := by decide +kernel
theorem dX6_colours_16 : decode cX6_colours 16 = .ok (.bipush (-2), 2) := by decide +kernel
theorem dX6_colours_18 : decode cX6_colours 18 = .ok (.ireturn, 1) := by decide +kernel
theorem dX6_colours_19 : decode cX6_colours 19 = .ok (.aload_n 0, 1) := by decide +kernel
theorem dX6_colours_20 : decode cX6_colours 20 = .ok (.invokevirtual 193, 3) := by decide +kernel
theorem dX6_colours_23 : decode cX6_colours 23 = .ok (.iconst 0, 1) := by decide +kernel
theorem dX6_colours_24 : decode cX6_colours 24 = .ok (.istore_n 2, 1) := by decide +kernel
theorem dX6_colours_25 : decode cX6_colours 25 = .ok (.iconst 0, 1) := by decide +kernel
theorem dX6_colours_26 : decode cX6_colours 26 = .ok (.istore_n 3, 1) := by decide +kernel
theorem dX6_colours_27 : decode cX6_colours 27 = .ok (.iload_n 3, 1) := by decide +kernel
theorem dX6_colours_28 : decode cX6_colours 28 = .ok (.sipush 169, 3) := by decide +kernel
theorem dX6_colours_31 : decode cX6_colours 31 = .ok (.if_icmp .ge 115, 3) := by decide +kernel
theorem dX6_colours_34 : decode cX6_colours 34 = .ok (.aload_n 0, 1) := by decide +kernel
theorem dX6_colours_35 : decode cX6_colours 35 = .ok (.iload_n 3, 1) := by decide +kernel
theorem dX6_colours_36 : decode cX6_colours 36 = .ok (.invokevirtual 175, 3) := by decide +kernel
theorem dX6_colours_39 : decode cX6_colours 39 = .ok (.ifCond .eq 101, 3) := by decide +kernel
theorem dX6_colours_42 : decode cX6_colours 42 = .ok (.iconst 0, 1) := by decide +kernel
theorem dX6_colours_43 : decode cX6_colours 43 = .ok (.istore 4, 2) := by decide +kernel
theorem dX6_colours_45 : decode cX6_colours 45 = .ok (.iload 4, 2) := by decide +kernel
theorem dX6_colours_47 : decode cX6_colours 47 = .ok (.aload_n 0, 1) := by decide +kernel
theorem dX6_colours_48 : decode cX6_colours 48 = .ok (.getfield 187, 3) := by decide +kernel
theorem dX6_colours_51 : decode cX6_colours 51 = .ok (.if_icmp .ge 22, 3) := by decide +kernel
theorem dX6_colours_54 : decode cX6_colours 54 = .ok (.aload_n 0, 1) := by decide +kernel
theorem dX6_colours_55 : decode cX6_colours 55 = .ok (.getfield 47, 3) := by decide +kernel
theorem dX6_colours_58 : decode cX6_colours 58 = .ok (.bipush 103, 2) := by decide +kernel
theorem dX6_colours_60 : decode cX6_colours 60 = .ok (.iload_n 2, 1) := by decide +kernel
theorem dX6_colours_61 : decode cX6_colours 61 = .ok (.imul, 1) := by decide +kernel
theorem dX6_colours_62 : decode cX6_colours 62 = .ok (.iload 4, 2) := by decide +kernel
theorem dX6_colours_64 : decode cX6_colours 64 = .ok (.iadd, 1) := by decide +kernel
theorem dX6_colours_65 : decode cX6_colours 65 = .ok (.iconst 0, 1) := by decide +kernel
theorem dX6_colours_66 : decode cX6_colours 66 = .ok (.iastore, 1) := by decide +kernel
theorem dX6_colours_67 : decode cX6_colours 67 = .ok (.iinc 4 1, 3) := by decide +kernel
theorem dX6_colours_70 : decode cX6_colours 70 = .ok (.goto (-25), 3) := by decide +kernel
theorem dX6_colours_73 : decode cX6_colours 73 = .ok (.aload_n 0, 1) := by decide +kernel
theorem dX6_colours_74 : decode cX6_colours 74 = .ok (.getfield 47, 3) := by decide +kernel
theorem dX6_colours_77 : decode cX6_colours 77 = .ok (.bipush 103, 2) := by decide +kernel
theorem dX6_colours_79 : decode cX6_colours 79 = .ok (.iload_n 2, 1) := by decide +kernel
theorem dX6_colours_80 : decode cX6_colours 80 = .ok (.imul, 1) := by decide +kernel
theorem dX6_colours_81 : decode cX6_colours 81 = .ok (.aload_n 0, 1) := by decide +kernel
theorem dX6_colours_82 : decode cX6_colours 82 = .ok (.getfield 44, 3) := by decide +kernel
theorem dX6_colours_85 : decode cX6_colours 85 = .ok (.iload_n 3, 1) := by decide +kernel
theorem dX6_colours_86 : decode cX6_colours 86 = .ok (.iaload, 1) := by decide +kernel
theorem dX6_colours_87 : decode cX6_colours 87 = .ok (.iadd, 1) := by decide +kernel
theorem dX6_colours_88 : decode cX6_colours 88 = .ok (.dup2, 1) := by decide +kernel
theorem dX6_colours_89 : decode cX6_colours 89 = .ok (.iaload, 1) := by decide +kernel
theorem dX6_colours_90 : decode cX6_colours 90 = .ok (.iconst 2, 1) := by decide +kernel
theorem dX6_colours_91 : decode cX6_colours 91 = .ok (.iadd, 1) := by decide +kernel
theorem dX6_colours_92 : decode cX6_colours 92 = .ok (.iastore, 1) := by decide +kernel
theorem dX6_colours_93 : decode cX6_colours 93 = .ok (.aload_n 0, 1) := by decide +kernel
theorem dX6_colours_94 : decode cX6_colours 94 = .ok (.getfield 47, 3) := by decide +kernel
theorem dX6_colours_97 : decode cX6_colours 97 = .ok (.bipush 103, 2) := by decide +kernel
theorem dX6_colours_99 : decode cX6_colours 99 = .ok (.iload_n 2, 1) := by decide +kernel
theorem dX6_colours_100 : decode cX6_colours 100 = .ok (.imul, 1) := by decide +kernel
theorem dX6_colours_101 : decode cX6_colours 101 = .ok (.aload_n 0, 1) := by decide +kernel
theorem dX6_colours_102 : decode cX6_colours 102 = .ok (.getfield 38, 3) := by decide +kernel
theorem dX6_colours_105 : decode cX6_colours 105 = .ok (.iload_n 3, 1) := by decide +kernel
theorem dX6_colours_106 : decode cX6_colours 106 = .ok (.iaload, 1) := by decide +kernel
theorem dX6_colours_107 : decode cX6_colours 107 = .ok (.iadd, 1) := by decide +kernel
theorem dX6_colours_108 : decode cX6_colours 108 = .ok (.dup2, 1) := by decide +kernel
theorem dX6_colours_109 : decode cX6_colours 109 = .ok (.iaload, 1) := by decide +kernel
theorem dX6_colours_110 : decode cX6_colours 110 = .ok (.iload_n 1, 1) := by decide +kernel
theorem dX6_colours_111 : decode cX6_colours 111 = .ok (.iconst 1, 1) := by decide +kernel
theorem dX6_colours_112 : decode cX6_colours 112 = .ok (.isub, 1) := by decide +kernel
theorem dX6_colours_113 : decode cX6_colours 113 = .ok (.iadd, 1) := by decide +kernel
theorem dX6_colours_114 : decode cX6_colours 114 = .ok (.iastore, 1) := by decide +kernel
theorem dX6_colours_115 : decode cX6_colours 115 = .ok (.aload_n 0, 1) := by decide +kernel
theorem dX6_colours_116 : decode cX6_colours 116 = .ok (.getfield 47, 3) := by decide +kernel
theorem dX6_colours_119 : decode cX6_colours 119 = .ok (.bipush 103, 2) := by decide +kernel
theorem dX6_colours_121 : decode cX6_colours 121 = .ok (.iload_n 2, 1) := by decide +kernel
theorem dX6_colours_122 : decode cX6_colours 122 = .ok (.imul, 1) := by decide +kernel
theorem dX6_colours_123 : decode cX6_colours 123 = .ok (.aload_n 0, 1) := by decide +kernel
theorem dX6_colours_124 : decode cX6_colours 124 = .ok (.getfield 41, 3) := by decide +kernel
theorem dX6_colours_127 : decode cX6_colours 127 = .ok (.iload_n 3, 1) := by decide +kernel
theorem dX6_colours_128 : decode cX6_colours 128 = .ok (.iaload, 1) := by decide +kernel
theorem dX6_colours_129 : decode cX6_colours 129 = .ok (.iadd, 1) := by decide +kernel
theorem dX6_colours_130 : decode cX6_colours 130 = .ok (.dup2, 1) := by decide +kernel
theorem dX6_colours_131 : decode cX6_colours 131 = .ok (.iaload, 1) := by decide +kernel
theorem dX6_colours_132 : decode cX6_colours 132 = .ok (.iload_n 1, 1) := by decide +kernel
theorem dX6_colours_133 : decode cX6_colours 133 = .ok (.iconst 1, 1) := by decide +kernel
theorem dX6_colours_134 : decode cX6_colours 134 = .ok (.isub, 1) := by decide +kernel
theorem dX6_colours_135 : decode cX6_colours 135 = .ok (.iadd, 1) := by decide +kernel
theorem dX6_colours_136 : decode cX6_colours 136 = .ok (.iastore, 1) := by decide +kernel
theorem dX6_colours_137 : decode cX6_colours 137 = .ok (.iinc 2 1, 3) := by decide +kernel
theorem dX6_colours_140 : decode cX6_colours 140 = .ok (.iinc 3 1, 3) := by decide +kernel
theorem dX6_colours_143 : decode cX6_colours 143 = .ok (.goto (-116), 3) := by decide +kernel
theorem dX6_colours_146 : decode cX6_colours 146 = .ok (.iconst 0, 1) := by decide +kernel
theorem dX6_colours_147 : decode cX6_colours 147 = .ok (.istore_n 3, 1) := by decide +kernel
theorem dX6_colours_148 : decode cX6_colours 148 = .ok (.iconst 0, 1) := by decide +kernel
theorem dX6_colours_149 : decode cX6_colours 149 = .ok (.istore 4, 2) := by decide +kernel
theorem dX6_colours_151 : decode cX6_colours 151 = .ok (.iload 4, 2) := by decide +kernel
theorem dX6_colours_153 : decode cX6_colours 153 = .ok (.aload_n 0, 1) := by decide +kernel
theorem dX6_colours_154 : decode cX6_colours 154 = .ok (.getfield 187, 3) := by decide +kernel
theorem dX6_colours_157 : decode cX6_colours 157 = .ok (.if_icmp .ge 26, 3) := by decide +kernel
theorem dX6_colours_160 : decode cX6_colours 160 = .ok (.iload_n 3, 1) := by decide +kernel
theorem dX6_colours_161 : decode cX6_colours 161 = .ok (.iload_n 2, 1) := by decide +kernel
theorem dX6_colours_162 : decode cX6_colours 162 = .ok (.if_icmp .ge 21, 3) := by decide +kernel
theorem dX6_colours_165 : decode cX6_colours 165 = .ok (.iload_n 3, 1) := by decide +kernel
theorem dX6_colours_166 : decode cX6_colours 166 = .ok (.aload_n 0, 1) := by decide +kernel
theorem dX6_colours_167 : decode cX6_colours 167 = .ok (.iload_n 3, 1) := by decide +kernel
theorem dX6_colours_168 : decode cX6_colours 168 = .ok (.iload_n 2, 1) := by decide +kernel
theorem dX6_colours_169 : decode cX6_colours 169 = .ok (.iload 4, 2) := by decide +kernel
theorem dX6_colours_171 : decode cX6_colours 171 = .ok (.iload_n 1, 1) := by decide +kernel
theorem dX6_colours_172 : decode cX6_colours 172 = .ok (.invokevirtual 196, 3) := by decide +kernel
theorem dX6_colours_175 : decode cX6_colours 175 = .ok (.iadd, 1) := by decide +kernel
theorem dX6_colours_176 : decode cX6_colours 176 = .ok (.istore_n 3, 1) := by decide +kernel
theorem dX6_colours_177 : decode cX6_colours 177 = .ok (.iinc 4 1, 3) := by decide +kernel
theorem dX6_colours_180 : decode cX6_colours 180 = .ok (.goto (-29), 3) := by decide +kernel
theorem dX6_colours_183 : decode cX6_colours 183 = .ok (.aload_n 0, 1) := by decide +kernel
theorem dX6_colours_184 : decode cX6_colours 184 = .ok (.getfield 187, 3) := by decide +kernel
theorem dX6_colours_187 : decode cX6_colours 187 = .ok (.iload_n 3, 1) := by decide +kernel
theorem dX6_colours_188 : decode cX6_colours 188 = .ok (.isub, 1) := by decide +kernel
theorem dX6_colours_189 : decode cX6_colours 189 = .ok (.ireturn, 1) := by decide +kernel
theorem dX6_sweep_0 : decode cX6_sweep 0 = .ok (.iload_n 1, 1) := by decide +kernel
theorem dX6_sweep_1 : decode cX6_sweep 1 = .ok (.istore 5, 2) := by decide +kernel
theorem dX6_sweep_3 : decode cX6_sweep 3 = .ok (.iload 5, 2) := by decide +kernel
theorem dX6_sweep_5 : decode cX6_sweep 5 = .ok (.iload_n 2, 1) := by decide +kernel
theorem dX6_sweep_6 : decode cX6_sweep 6 = .ok (.if_icmp .ge 27, 3) := by decide +kernel
theorem dX6_sweep_9 : decode cX6_sweep 9 = .ok (.aload_n 0, 1) := by decide +kernel
theorem dX6_sweep_10 : decode cX6_sweep 10 = .ok (.getfield 47, 3) := by decide +kernel
theorem dX6_sweep_13 : decode cX6_sweep 13 = .ok (.bipush 103, 2) := by decide +kernel
theorem dX6_sweep_15 : decode cX6_sweep 15 = .ok (.iload 5, 2) := by decide +kernel
theorem dX6_sweep_17 : decode cX6_sweep 17 = .ok (.imul, 1) := by decide +kernel
theorem dX6_sweep_18 : decode cX6_sweep 18 = .ok (.iload_n 3, 1) := by decide +kernel
theorem dX6_sweep_19 : decode cX6_sweep 19 = .ok (.iadd, 1) := by decide +kernel
theorem dX6_sweep_20 : decode cX6_sweep 20 = .ok (.iaload, 1) := by decide +kernel
theorem dX6_sweep_21 : decode cX6_sweep 21 = .ok (.iload 4, 2) := by decide +kernel
theorem dX6_sweep_23 : decode cX6_sweep 23 = .ok (.irem, 1) := by decide +kernel
theorem dX6_sweep_24 : decode cX6_sweep 24 = .ok (.ifCond .ne 9, 3) := by decide +kernel
theorem dX6_sweep_27 : decode cX6_sweep 27 = .ok (.iinc 5 1, 3) := by decide +kernel
theorem dX6_sweep_30 : decode cX6_sweep 30 = .ok (.goto (-27), 3) := by decide +kernel
theorem dX6_sweep_33 : decode cX6_sweep 33 = .ok (.iload 5, 2) := by decide +kernel
theorem dX6_sweep_35 : decode cX6_sweep 35 = .ok (.iload_n 2, 1) := by decide +kernel
theorem dX6_sweep_36 : decode cX6_sweep 36 = .ok (.if_icmp .ne 5, 3) := by decide +kernel
theorem dX6_sweep_39 : decode cX6_sweep 39 = .ok (.iconst 0, 1) := by decide +kernel
theorem dX6_sweep_40 : decode cX6_sweep 40 = .ok (.ireturn, 1) := by decide +kernel
theorem dX6_sweep_41 : decode cX6_sweep 41 = .ok (.iconst 0, 1) := by decide +kernel
theorem dX6_sweep_42 : decode cX6_sweep 42 = .ok (.istore 6, 2) := by decide +kernel
theorem dX6_sweep_44 : decode cX6_sweep 44 = .ok (.iload 6, 2) := by decide +kernel
theorem dX6_sweep_46 : decode cX6_sweep 46 = .ok (.aload_n 0, 1) := by decide +kernel
theorem dX6_sweep_47 : decode cX6_sweep 47 = .ok (.getfield 187, 3) := by decide +kernel
theorem dX6_sweep_50 : decode cX6_sweep 50 = .ok (.if_icmp .ge 66, 3) := by decide +kernel
theorem dX6_sweep_53 : decode cX6_sweep 53 = .ok (.aload_n 0, 1) := by decide +kernel
theorem dX6_sweep_54 : decode cX6_sweep 54 = .ok (.getfield 47, 3) := by decide +kernel
theorem dX6_sweep_57 : decode cX6_sweep 57 = .ok (.bipush 103, 2) := by decide +kernel
theorem dX6_sweep_59 : decode cX6_sweep 59 = .ok (.iload_n 1, 1) := by decide +kernel
theorem dX6_sweep_60 : decode cX6_sweep 60 = .ok (.imul, 1) := by decide +kernel
theorem dX6_sweep_61 : decode cX6_sweep 61 = .ok (.iload 6, 2) := by decide +kernel
theorem dX6_sweep_63 : decode cX6_sweep 63 = .ok (.iadd, 1) := by decide +kernel
theorem dX6_sweep_64 : decode cX6_sweep 64 = .ok (.iaload, 1) := by decide +kernel
theorem dX6_sweep_65 : decode cX6_sweep 65 = .ok (.istore 7, 2) := by decide +kernel
theorem dX6_sweep_67 : decode cX6_sweep 67 = .ok (.aload_n 0, 1) := by decide +kernel
theorem dX6_sweep_68 : decode cX6_sweep 68 = .ok (.getfield 47, 3) := by decide +kernel
theorem dX6_sweep_71 : decode cX6_sweep 71 = .ok (.bipush 103, 2) := by decide +kernel
theorem dX6_sweep_73 : decode cX6_sweep 73 = .ok (.iload_n 1, 1) := by decide +kernel
theorem dX6_sweep_74 : decode cX6_sweep 74 = .ok (.imul, 1) := by decide +kernel
theorem dX6_sweep_75 : decode cX6_sweep 75 = .ok (.iload 6, 2) := by decide +kernel
theorem dX6_sweep_77 : decode cX6_sweep 77 = .ok (.iadd, 1) := by decide +kernel
theorem dX6_sweep_78 : decode cX6_sweep 78 = .ok (.aload_n 0, 1) := by decide +kernel
theorem dX6_sweep_79 : decode cX6_sweep 79 = .ok (.getfield 47, 3) := by decide +kernel
theorem dX6_sweep_82 : decode cX6_sweep 82 = .ok (.bipush 103, 2) := by decide +kernel
theorem dX6_sweep_84 : decode cX6_sweep 84 = .ok (.iload 5, 2) := by decide +kernel
theorem dX6_sweep_86 : decode cX6_sweep 86 = .ok (.imul, 1) := by decide +kernel
theorem dX6_sweep_87 : decode cX6_sweep 87 = .ok (.iload 6, 2) := by decide +kernel
theorem dX6_sweep_89 : decode cX6_sweep 89 = .ok (.iadd, 1) := by decide +kernel
theorem dX6_sweep_90 : decode cX6_sweep 90 = .ok (.iaload, 1) := by decide +kernel
theorem dX6_sweep_91 : decode cX6_sweep 91 = .ok (.iload 4, 2) := by decide +kernel
theorem dX6_sweep_93 : decode cX6_sweep 93 = .ok (.irem, 1) := by decide +kernel
theorem dX6_sweep_94 : decode cX6_sweep 94 = .ok (.iastore, 1) := by decide +kernel
theorem dX6_sweep_95 : decode cX6_sweep 95 = .ok (.aload_n 0, 1) := by decide +kernel
theorem dX6_sweep_96 : decode cX6_sweep 96 = .ok (.getfield 47, 3) := by decide +kernel
theorem dX6_sweep_99 : decode cX6_sweep 99 = .ok (.bipush 103, 2) := by decide +kernel
theorem dX6_sweep_101 : decode cX6_sweep 101 = .ok (.iload 5, 2) := by decide +kernel
theorem dX6_sweep_103 : decode cX6_sweep 103 = .ok (.imul, 1) := by decide +kernel
theorem dX6_sweep_104 : decode cX6_sweep 104 = .ok (.iload 6, 2) := by decide +kernel
theorem dX6_sweep_106 : decode cX6_sweep 106 = .ok (.iadd, 1) := by decide +kernel
theorem dX6_sweep_107 : decode cX6_sweep 107 = .ok (.iload 7, 2) := by decide +kernel
theorem dX6_sweep_109 : decode cX6_sweep 109 = .ok (.iastore, 1) := by decide +kernel
theorem dX6_sweep_110 : decode cX6_sweep 110 = .ok (.iinc 6 1, 3) := by decide +kernel
theorem dX6_sweep_113 : decode cX6_sweep 113 = .ok (.goto (-69), 3) := by decide +kernel
theorem dX6_sweep_116 : decode cX6_sweep 116 = .ok (.aload_n 0, 1) := by decide +kernel
theorem dX6_sweep_117 : decode cX6_sweep 117 = .ok (.getfield 47, 3) := by decide +kernel
theorem dX6_sweep_120 : decode cX6_sweep 120 = .ok (.bipush 103, 2) := by decide +kernel
theorem dX6_sweep_122 : decode cX6_sweep 122 = .ok (.iload_n 1, 1) := by decide +kernel
theorem dX6_sweep_123 : decode cX6_sweep 123 = .ok (.imul, 1) := by decide +kernel
theorem dX6_sweep_124 : decode cX6_sweep 124 = .ok (.iload_n 3, 1) := by decide +kernel
theorem dX6_sweep_125 : decode cX6_sweep 125 = .ok (.iadd, 1) := by decide +kernel
theorem dX6_sweep_126 : decode cX6_sweep 126 = .ok (.iaload, 1) := by decide +kernel
theorem dX6_sweep_127 : decode cX6_sweep 127 = .ok (.istore 6, 2) := by decide +kernel
theorem dX6_sweep_129 : decode cX6_sweep 129 = .ok (.iload_n 1, 1) := by decide +kernel
theorem dX6_sweep_130 : decode cX6_sweep 130 = .ok (.iconst 1, 1) := by decide +kernel
theorem dX6_sweep_131 : decode cX6_sweep 131 = .ok (.iadd, 1) := by decide +kernel
theorem dX6_sweep_132 : decode cX6_sweep 132 = .ok (.istore 7, 2) := by decide +kernel
theorem dX6_sweep_134 : decode cX6_sweep 134 = .ok (.iload 7, 2) := by decide +kernel
theorem dX6_sweep_136 : decode cX6_sweep 136 = .ok (.iload_n 2, 1) := by decide +kernel
theorem dX6_sweep_137 : decode cX6_sweep 137 = .ok (.if_icmp .ge 107, 3) := by decide +kernel
theorem dX6_sweep_140 : decode cX6_sweep 140 = .ok (.aload_n 0, 1) := by decide +kernel
theorem dX6_sweep_141 : decode cX6_sweep 141 = .ok (.getfield 47, 3) := by decide +kernel
theorem dX6_sweep_144 : decode cX6_sweep 144 = .ok (.bipush 103, 2) := by decide +kernel
theorem dX6_sweep_146 : decode cX6_sweep 146 = .ok (.iload 7, 2) := by decide +kernel
theorem dX6_sweep_148 : decode cX6_sweep 148 = .ok (.imul, 1) := by decide +kernel
theorem dX6_sweep_149 : decode cX6_sweep 149 = .ok (.iload_n 3, 1) := by decide +kernel
theorem dX6_sweep_150 : decode cX6_sweep 150 = .ok (.iadd, 1) := by decide +kernel
theorem dX6_sweep_151 : decode cX6_sweep 151 = .ok (.iaload, 1) := by decide +kernel
theorem dX6_sweep_152 : decode cX6_sweep 152 = .ok (.iload 4, 2) := by decide +kernel
theorem dX6_sweep_154 : decode cX6_sweep 154 = .ok (.irem, 1) := by decide +kernel
theorem dX6_sweep_155 : decode cX6_sweep 155 = .ok (.istore 8, 2) := by decide +kernel
theorem dX6_sweep_157 : decode cX6_sweep 157 = .ok (.iconst 0, 1) := by decide +kernel
theorem dX6_sweep_158 : decode cX6_sweep 158 = .ok (.istore 9, 2) := by decide +kernel
theorem dX6_sweep_160 : decode cX6_sweep 160 = .ok (.iload 9, 2) := by decide +kernel
theorem dX6_sweep_162 : decode cX6_sweep 162 = .ok (.aload_n 0, 1) := by decide +kernel
theorem dX6_sweep_163 : decode cX6_sweep 163 = .ok (.getfield 187, 3) := by decide +kernel
theorem dX6_sweep_166 : decode cX6_sweep 166 = .ok (.if_icmp .ge 72, 3) := by decide +kernel
theorem dX6_sweep_169 : decode cX6_sweep 169 = .ok (.iload 8, 2) := by decide +kernel
theorem dX6_sweep_171 : decode cX6_sweep 171 = .ok (.ifCond .eq 67, 3) := by decide +kernel
theorem dX6_sweep_174 : decode cX6_sweep 174 = .ok (.aload_n 0, 1) := by decide +kernel
theorem dX6_sweep_175 : decode cX6_sweep 175 = .ok (.getfield 47, 3) := by decide +kernel
theorem dX6_sweep_178 : decode cX6_sweep 178 = .ok (.bipush 103, 2) := by decide +kernel
theorem dX6_sweep_180 : decode cX6_sweep 180 = .ok (.iload 7, 2) := by decide +kernel
theorem dX6_sweep_182 : decode cX6_sweep 182 = .ok (.imul, 1) := by decide +kernel
theorem dX6_sweep_183 : decode cX6_sweep 183 = .ok (.iload 9, 2) := by decide +kernel
theorem dX6_sweep_185 : decode cX6_sweep 185 = .ok (.iadd, 1) := by decide +kernel
theorem dX6_sweep_186 : decode cX6_sweep 186 = .ok (.iaload, 1) := by decide +kernel
theorem dX6_sweep_187 : decode cX6_sweep 187 = .ok (.iload 6, 2) := by decide +kernel
theorem dX6_sweep_189 : decode cX6_sweep 189 = .ok (.imul, 1) := by decide +kernel
theorem dX6_sweep_190 : decode cX6_sweep 190 = .ok (.iload 8, 2) := by decide +kernel
theorem dX6_sweep_192 : decode cX6_sweep 192 = .ok (.aload_n 0, 1) := by decide +kernel
theorem dX6_sweep_193 : decode cX6_sweep 193 = .ok (.getfield 47, 3) := by decide +kernel
theorem dX6_sweep_196 : decode cX6_sweep 196 = .ok (.bipush 103, 2) := by decide +kernel
theorem dX6_sweep_198 : decode cX6_sweep 198 = .ok (.iload_n 1, 1) := by decide +kernel
theorem dX6_sweep_199 : decode cX6_sweep 199 = .ok (.imul, 1) := by decide +kernel
theorem dX6_sweep_200 : decode cX6_sweep 200 = .ok (.iload 9, 2) := by decide +kernel
theorem dX6_sweep_202 : decode cX6_sweep 202 = .ok (.iadd, 1) := by decide +kernel
theorem dX6_sweep_203 : decode cX6_sweep 203 = .ok (.iaload, 1) := by decide +kernel
theorem dX6_sweep_204 : decode cX6_sweep 204 = .ok (.imul, 1) := by decide +kernel
theorem dX6_sweep_205 : decode cX6_sweep 205 = .ok (.isub, 1) := by decide +kernel
theorem dX6_sweep_206 : decode cX6_sweep 206 = .ok (.istore 10, 2) := by decide +kernel
theorem dX6_sweep_208 : decode cX6_sweep 208 = .ok (.aload_n 0, 1) := by decide +kernel
theorem dX6_sweep_209 : decode cX6_sweep 209 = .ok (.getfield 47, 3) := by decide +kernel
theorem dX6_sweep_212 : decode cX6_sweep 212 = .ok (.bipush 103, 2) := by decide +kernel
theorem dX6_sweep_214 : decode cX6_sweep 214 = .ok (.iload 7, 2) := by decide +kernel
theorem dX6_sweep_216 : decode cX6_sweep 216 = .ok (.imul, 1) := by decide +kernel
theorem dX6_sweep_217 : decode cX6_sweep 217 = .ok (.iload 9, 2) := by decide +kernel
theorem dX6_sweep_219 : decode cX6_sweep 219 = .ok (.iadd, 1) := by decide +kernel
theorem dX6_sweep_220 : decode cX6_sweep 220 = .ok (.iload 10, 2) := by decide +kernel
theorem dX6_sweep_222 : decode cX6_sweep 222 = .ok (.iload 4, 2) := by decide +kernel
theorem dX6_sweep_224 : decode cX6_sweep 224 = .ok (.irem, 1) := by decide +kernel
theorem dX6_sweep_225 : decode cX6_sweep 225 = .ok (.iload 4, 2) := by decide +kernel
theorem dX6_sweep_227 : decode cX6_sweep 227 = .ok (.iadd, 1) := by decide +kernel
theorem dX6_sweep_228 : decode cX6_sweep 228 = .ok (.iload 4, 2) := by decide +kernel
theorem dX6_sweep_230 : decode cX6_sweep 230 = .ok (.irem, 1) := by decide +kernel
theorem dX6_sweep_231 : decode cX6_sweep 231 = .ok (.iastore, 1) := by decide +kernel
theorem dX6_sweep_232 : decode cX6_sweep 232 = .ok (.iinc 9 1, 3) := by decide +kernel
theorem dX6_sweep_235 : decode cX6_sweep 235 = .ok (.goto (-75), 3) := by decide +kernel
theorem dX6_sweep_238 : decode cX6_sweep 238 = .ok (.iinc 7 1, 3) := by decide +kernel
theorem dX6_sweep_241 : decode cX6_sweep 241 = .ok (.goto (-107), 3) := by decide +kernel
theorem dX6_sweep_244 : decode cX6_sweep 244 = .ok (.iconst 1, 1) := by decide +kernel
theorem dX6_sweep_245 : decode cX6_sweep 245 = .ok (.ireturn, 1) := by decide +kernel
theorem dX6_about_0 : decode cX6_about 0 = .ok (.iconst 0, 1) := by decide +kernel
theorem dX6_about_1 : decode cX6_about 1 = .ok (.istore_n 2, 1) := by decide +kernel
theorem dX6_about_2 : decode cX6_about 2 = .ok (.iconst 0, 1) := by decide +kernel
theorem dX6_about_3 : decode cX6_about 3 = .ok (.istore_n 3, 1) := by decide +kernel
theorem dX6_about_4 : decode cX6_about 4 = .ok (.iconst 0, 1) := by decide +kernel
theorem dX6_about_5 : decode cX6_about 5 = .ok (.istore 4, 2) := by decide +kernel
theorem dX6_about_7 : decode cX6_about 7 = .ok (.iconst 0, 1) := by decide +kernel
theorem dX6_about_8 : decode cX6_about 8 = .ok (.istore 5, 2) := by decide +kernel
theorem dX6_about_10 : decode cX6_about 10 = .ok (.iconst 0, 1) := by decide +kernel
theorem dX6_about_11 : decode cX6_about 11 = .ok (.istore 6, 2) := by decide +kernel
theorem dX6_about_13 : decode cX6_about 13 = .ok (.iload 6, 2) := by decide +kernel
theorem dX6_about_15 : decode cX6_about 15 = .ok (.sipush 169, 3) := by decide +kernel
theorem dX6_about_18 : decode cX6_about 18 = .ok (.if_icmp .ge 125, 3) := by decide +kernel
theorem dX6_about_21 : decode cX6_about 21 = .ok (.aload_n 0, 1) := by decide +kernel
theorem dX6_about_22 : decode cX6_about 22 = .ok (.getfield 62, 3) := by decide +kernel
theorem dX6_about_25 : decode cX6_about 25 = .ok (.aload_n 0, 1) := by decide +kernel
theorem dX6_about_26 : decode cX6_about 26 = .ok (.getfield 66, 3) := by decide +kernel
theorem dX6_about_29 : decode cX6_about 29 = .ok (.iload 6, 2) := by decide +kernel
theorem dX6_about_31 : decode cX6_about 31 = .ok (.bipush 13, 2) := by decide +kernel
theorem dX6_about_33 : decode cX6_about 33 = .ok (.idiv, 1) := by decide +kernel
theorem dX6_about_34 : decode cX6_about 34 = .ok (.iload 6, 2) := by decide +kernel
theorem dX6_about_36 : decode cX6_about 36 = .ok (.bipush 13, 2) := by decide +kernel
theorem dX6_about_38 : decode cX6_about 38 = .ok (.irem, 1) := by decide +kernel
theorem dX6_about_39 : decode cX6_about 39 = .ok (.invokestatic 96, 3) := by decide +kernel
theorem dX6_about_42 : decode cX6_about 42 = .ok (.istore 7, 2) := by decide +kernel
theorem dX6_about_44 : decode cX6_about 44 = .ok (.iload_n 2, 1) := by decide +kernel
theorem dX6_about_45 : decode cX6_about 45 = .ok (.aload_n 0, 1) := by decide +kernel
theorem dX6_about_46 : decode cX6_about 46 = .ok (.iload 6, 2) := by decide +kernel
theorem dX6_about_48 : decode cX6_about 48 = .ok (.invokevirtual 175, 3) := by decide +kernel
theorem dX6_about_51 : decode cX6_about 51 = .ok (.ifCond .eq 7, 3) := by decide +kernel
theorem dX6_about_54 : decode cX6_about 54 = .ok (.iconst 1, 1) := by decide +kernel
theorem dX6_about_55 : decode cX6_about 55 = .ok (.goto 4, 3) := by decide +kernel
theorem dX6_about_58 : decode cX6_about 58 = .ok (.iconst 0, 1) := by decide +kernel
theorem dX6_about_59 : decode cX6_about 59 = .ok (.iadd, 1) := by decide +kernel
theorem dX6_about_60 : decode cX6_about 60 = .ok (.istore_n 2, 1) := by decide +kernel
theorem dX6_about_61 : decode cX6_about 61 = .ok (.iload_n 3, 1) := by decide +kernel
theorem dX6_about_62 : decode cX6_about 62 = .ok (.iload 7, 2) := by decide +kernel
theorem dX6_about_64 : decode cX6_about 64 = .ok (.ifCond .eq 18, 3) := by decide +kernel
theorem dX6_about_67 : decode cX6_about 67 = .ok (.aload_n 0, 1) := by decide +kernel
theorem dX6_about_68 : decode cX6_about 68 = .ok (.getfield 7, 3) := by decide +kernel
theorem dX6_about_71 : decode cX6_about 71 = .ok (.iload 6, 2) := by decide +kernel
theorem dX6_about_73 : decode cX6_about 73 = .ok (.iaload, 1) := by decide +kernel
theorem dX6_about_74 : decode cX6_about 74 = .ok (.iconst 1, 1) := by decide +kernel
theorem dX6_about_75 : decode cX6_about 75 = .ok (.if_icmp .ne 7, 3) := by decide +kernel
theorem dX6_about_78 : decode cX6_about 78 = .ok (.iconst 1, 1) := by decide +kernel
theorem dX6_about_79 : decode cX6_about 79 = .ok (.goto 4, 3) := by decide +kernel
theorem dX6_about_82 : decode cX6_about 82 = .ok (.iconst 0, 1) := by decide +kernel
theorem dX6_about_83 : decode cX6_about 83 = .ok (.iadd, 1) := by decide +kernel
theorem dX6_about_84 : decode cX6_about 84 = .ok (.istore_n 3, 1) := by decide +kernel
theorem dX6_about_85 : decode cX6_about 85 = .ok (.iload 4, 2) := by decide +kernel
theorem dX6_about_87 : decode cX6_about 87 = .ok (.iload 7, 2) := by decide +kernel
theorem dX6_about_89 : decode cX6_about 89 = .ok (.ifCond .eq 18, 3) := by decide +kernel
theorem dX6_about_92 : decode cX6_about 92 = .ok (.aload_n 0, 1) := by decide +kernel
theorem dX6_about_93 : decode cX6_about 93 = .ok (.getfield 7, 3) := by decide +kernel
theorem dX6_about_96 : decode cX6_about 96 = .ok (.iload 6, 2) := by decide +kernel
theorem dX6_about_98 : decode cX6_about 98 = .ok (.iaload, 1) := by decide +kernel
theorem dX6_about_99 : decode cX6_about 99 = .ok (.iconst 2, 1) := by decide +kernel
theorem dX6_about_100 : decode cX6_about 100 = .ok (.if_icmp .ne 7, 3) := by decide +kernel
theorem dX6_about_103 : decode cX6_about 103 = .ok (.iconst 1, 1) := by decide +kernel
theorem dX6_about_104 : decode cX6_about 104 = .ok (.goto 4, 3) := by decide +kernel
theorem dX6_about_107 : decode cX6_about 107 = .ok (.iconst 0, 1) := by decide +kernel
theorem dX6_about_108 : decode cX6_about 108 = .ok (.iadd, 1) := by decide +kernel
theorem dX6_about_109 : decode cX6_about 109 = .ok (.istore 4, 2) := by decide +kernel
theorem dX6_about_111 : decode cX6_about 111 = .ok (.iload 5, 2) := by decide +kernel
theorem dX6_about_113 : decode cX6_about 113 = .ok (.iload 7, 2) := by decide +kernel
theorem dX6_about_115 : decode cX6_about 115 = .ok (.ifCond .eq 18, 3) := by decide +kernel
theorem dX6_about_118 : decode cX6_about 118 = .ok (.aload_n 0, 1) := by decide +kernel
theorem dX6_about_119 : decode cX6_about 119 = .ok (.getfield 7, 3) := by decide +kernel
theorem dX6_about_122 : decode cX6_about 122 = .ok (.iload 6, 2) := by decide +kernel
theorem dX6_about_124 : decode cX6_about 124 = .ok (.iaload, 1) := by decide +kernel
theorem dX6_about_125 : decode cX6_about 125 = .ok (.iconst 3, 1) := by decide +kernel
theorem dX6_about_126 : decode cX6_about 126 = .ok (.if_icmp .ne 7, 3) := by decide +kernel
theorem dX6_about_129 : decode cX6_about 129 = .ok (.iconst 1, 1) := by decide +kernel
theorem dX6_about_130 : decode cX6_about 130 = .ok (.goto 4, 3) := by decide +kernel
theorem dX6_about_133 : decode cX6_about 133 = .ok (.iconst 0, 1) := by decide +kernel
theorem dX6_about_134 : decode cX6_about 134 = .ok (.iadd, 1) := by decide +kernel
theorem dX6_about_135 : decode cX6_about 135 = .ok (.istore 5, 2) := by decide +kernel
theorem dX6_about_137 : decode cX6_about 137 = .ok (.iinc 6 1, 3) := by decide +kernel
theorem dX6_about_140 : decode cX6_about 140 = .ok (.goto (-127), 3) := by decide +kernel
theorem dX6_about_143 : decode cX6_about 143 = .ok (.aload_n 0, 1) := by decide +kernel
theorem dX6_about_144 : decode cX6_about 144 = .ok (.invokevirtual 193, 3) := by decide +kernel
theorem dX6_about_147 : decode cX6_about 147 = .ok (.iload_n 1, 1) := by decide +kernel
theorem dX6_about_148 : decode cX6_about 148 = .ok (.tableswitch 134 0 12 #[68, 73, 78, 90, 95, 97, 99, 102, 105, 110, 115, 124, 129], 68) := by decide +kernel
theorem dX6_about_216 : decode cX6_about 216 = .ok (.aload_n 0, 1) := by decide +kernel
theorem dX6_about_217 : decode cX6_about 217 = .ok (.getfield 62, 3) := by decide +kernel
theorem dX6_about_220 : decode cX6_about 220 = .ok (.ireturn, 1) := by decide +kernel
theorem dX6_about_221 : decode cX6_about 221 = .ok (.aload_n 0, 1) := by decide +kernel
theorem dX6_about_222 : decode cX6_about 222 = .ok (.getfield 66, 3) := by decide +kernel
theorem dX6_about_225 : decode cX6_about 225 = .ok (.ireturn, 1) := by decide +kernel
theorem dX6_about_226 : decode cX6_about 226 = .ok (.iconst 4, 1) := by decide +kernel
theorem dX6_about_227 : decode cX6_about 227 = .ok (.aload_n 0, 1) := by decide +kernel
theorem dX6_about_228 : decode cX6_about 228 = .ok (.getfield 62, 3) := by decide +kernel
theorem dX6_about_231 : decode cX6_about 231 = .ok (.imul, 1) := by decide +kernel
theorem dX6_about_232 : decode cX6_about 232 = .ok (.aload_n 0, 1) := by decide +kernel
theorem dX6_about_233 : decode cX6_about 233 = .ok (.getfield 66, 3) := by decide +kernel
theorem dX6_about_236 : decode cX6_about 236 = .ok (.imul, 1) := by decide +kernel
theorem dX6_about_237 : decode cX6_about 237 = .ok (.ireturn, 1) := by decide +kernel
theorem dX6_about_238 : decode cX6_about 238 = .ok (.aload_n 0, 1) := by decide +kernel
theorem dX6_about_239 : decode cX6_about 239 = .ok (.invokevirtual 115, 3) := by decide +kernel
theorem dX6_about_242 : decode cX6_about 242 = .ok (.ireturn, 1) := by decide +kernel
theorem dX6_about_243 : decode cX6_about 243 = .ok (.iload_n 2, 1) := by decide +kernel
theorem dX6_about_244 : decode cX6_about 244 = .ok (.ireturn, 1) := by decide +kernel
theorem dX6_about_245 : decode cX6_about 245 = .ok (.iload_n 3, 1) := by decide +kernel
theorem dX6_about_246 : decode cX6_about 246 = .ok (.ireturn, 1) := by decide +kernel
theorem dX6_about_247 : decode cX6_about 247 = .ok (.iload 4, 2) := by decide +kernel
theorem dX6_about_249 : decode cX6_about 249 = .ok (.ireturn, 1) := by decide +kernel
theorem dX6_about_250 : decode cX6_about 250 = .ok (.iload 5, 2) := by decide +kernel
theorem dX6_about_252 : decode cX6_about 252 = .ok (.ireturn, 1) := by decide +kernel
theorem dX6_about_253 : decode cX6_about 253 = .ok (.aload_n 0, 1) := by decide +kernel
theorem dX6_about_254 : decode cX6_about 254 = .ok (.getfield 153, 3) := by decide +kernel
theorem dX6_about_257 : decode cX6_about 257 = .ok (.ireturn, 1) := by decide +kernel
theorem dX6_about_258 : decode cX6_about 258 = .ok (.aload_n 0, 1) := by decide +kernel
theorem dX6_about_259 : decode cX6_about 259 = .ok (.invokevirtual 200, 3) := by decide +kernel
theorem dX6_about_262 : decode cX6_about 262 = .ok (.ireturn, 1) := by decide +kernel
theorem dX6_about_263 : decode cX6_about 263 = .ok (.iload_n 2, 1) := by decide +kernel
theorem dX6_about_264 : decode cX6_about 264 = .ok (.iconst 1, 1) := by decide +kernel
theorem dX6_about_265 : decode cX6_about 265 = .ok (.iadd, 1) := by decide +kernel
theorem dX6_about_266 : decode cX6_about 266 = .ok (.aload_n 0, 1) := by decide +kernel
theorem dX6_about_267 : decode cX6_about 267 = .ok (.invokevirtual 200, 3) := by decide +kernel
theorem dX6_about_270 : decode cX6_about 270 = .ok (.iadd, 1) := by decide +kernel
theorem dX6_about_271 : decode cX6_about 271 = .ok (.ireturn, 1) := by decide +kernel
theorem dX6_about_272 : decode cX6_about 272 = .ok (.aload_n 0, 1) := by decide +kernel
theorem dX6_about_273 : decode cX6_about 273 = .ok (.getfield 187, 3) := by decide +kernel
theorem dX6_about_276 : decode cX6_about 276 = .ok (.ireturn, 1) := by decide +kernel
theorem dX6_about_277 : decode cX6_about 277 = .ok (.aload_n 0, 1) := by decide +kernel
theorem dX6_about_278 : decode cX6_about 278 = .ok (.getfield 75, 3) := by decide +kernel
theorem dX6_about_281 : decode cX6_about 281 = .ok (.ireturn, 1) := by decide +kernel
theorem dX6_about_282 : decode cX6_about 282 = .ok (.bipush (-2), 2) := by decide +kernel
theorem dX6_about_284 : decode cX6_about 284 = .ok (.ireturn, 1) := by decide +kernel
theorem dX6_toldCell_0 : decode cX6_toldCell 0 = .ok (.bipush 100, 2) := by decide +kernel
theorem dX6_toldCell_2 : decode cX6_toldCell 2 = .ok (.iload_n 0, 1) := by decide +kernel
theorem dX6_toldCell_3 : decode cX6_toldCell 3 = .ok (.bipush 12, 2) := by decide +kernel
theorem dX6_toldCell_5 : decode cX6_toldCell 5 = .ok (.idiv, 1) := by decide +kernel
theorem dX6_toldCell_6 : decode cX6_toldCell 6 = .ok (.imul, 1) := by decide +kernel
theorem dX6_toldCell_7 : decode cX6_toldCell 7 = .ok (.iload_n 0, 1) := by decide +kernel
theorem dX6_toldCell_8 : decode cX6_toldCell 8 = .ok (.bipush 12, 2) := by decide +kernel
theorem dX6_toldCell_10 : decode cX6_toldCell 10 = .ok (.irem, 1) := by decide +kernel
theorem dX6_toldCell_11 : decode cX6_toldCell 11 = .ok (.iadd, 1) := by decide +kernel
theorem dX6_toldCell_12 : decode cX6_toldCell 12 = .ok (.ireturn, 1) := by decide +kernel
theorem dX6_loop_0 : decode cX6_loop 0 = .ok (.iload_n 1, 1) := by decide +kernel
theorem dX6_loop_1 : decode cX6_loop 1 = .ok (.ifCond .lt 29, 3) := by decide +kernel
theorem dX6_loop_4 : decode cX6_loop 4 = .ok (.iload_n 1, 1) := by decide +kernel
theorem dX6_loop_5 : decode cX6_loop 5 = .ok (.bipush 100, 2) := by decide +kernel
theorem dX6_loop_7 : decode cX6_loop 7 = .ok (.idiv, 1) := by decide +kernel
theorem dX6_loop_8 : decode cX6_loop 8 = .ok (.iconst 2, 1) := by decide +kernel
theorem dX6_loop_9 : decode cX6_loop 9 = .ok (.aload_n 0, 1) := by decide +kernel
theorem dX6_loop_10 : decode cX6_loop 10 = .ok (.getfield 62, 3) := by decide +kernel
theorem dX6_loop_13 : decode cX6_loop 13 = .ok (.imul, 1) := by decide +kernel
theorem dX6_loop_14 : decode cX6_loop 14 = .ok (.if_icmp .ge 16, 3) := by decide +kernel
theorem dX6_loop_17 : decode cX6_loop 17 = .ok (.iload_n 1, 1) := by decide +kernel
theorem dX6_loop_18 : decode cX6_loop 18 = .ok (.bipush 100, 2) := by decide +kernel
theorem dX6_loop_20 : decode cX6_loop 20 = .ok (.irem, 1) := by decide +kernel
theorem dX6_loop_21 : decode cX6_loop 21 = .ok (.iconst 2, 1) := by decide +kernel
theorem dX6_loop_22 : decode cX6_loop 22 = .ok (.aload_n 0, 1) := by decide +kernel
theorem dX6_loop_23 : decode cX6_loop 23 = .ok (.getfield 66, 3) := by decide +kernel
theorem dX6_loop_26 : decode cX6_loop 26 = .ok (.imul, 1) := by decide +kernel
theorem dX6_loop_27 : decode cX6_loop 27 = .ok (.if_icmp .lt 5, 3) := by decide +kernel
theorem dX6_loop_30 : decode cX6_loop 30 = .ok (.iconst (-1), 1) := by decide +kernel
theorem dX6_loop_31 : decode cX6_loop 31 = .ok (.ireturn, 1) := by decide +kernel
theorem dX6_loop_32 : decode cX6_loop 32 = .ok (.aload_n 0, 1) := by decide +kernel
theorem dX6_loop_33 : decode cX6_loop 33 = .ok (.invokevirtual 163, 3) := by decide +kernel
theorem dX6_loop_36 : decode cX6_loop 36 = .ok (.pop, 1) := by decide +kernel
theorem dX6_loop_37 : decode cX6_loop 37 = .ok (.aload_n 0, 1) := by decide +kernel
theorem dX6_loop_38 : decode cX6_loop 38 = .ok (.getfield 23, 3) := by decide +kernel
theorem dX6_loop_41 : decode cX6_loop 41 = .ok (.bipush 12, 2) := by decide +kernel
theorem dX6_loop_43 : decode cX6_loop 43 = .ok (.iload_n 1, 1) := by decide +kernel
theorem dX6_loop_44 : decode cX6_loop 44 = .ok (.bipush 100, 2) := by decide +kernel
theorem dX6_loop_46 : decode cX6_loop 46 = .ok (.idiv, 1) := by decide +kernel
theorem dX6_loop_47 : decode cX6_loop 47 = .ok (.imul, 1) := by decide +kernel
theorem dX6_loop_48 : decode cX6_loop 48 = .ok (.iload_n 1, 1) := by decide +kernel
theorem dX6_loop_49 : decode cX6_loop 49 = .ok (.bipush 100, 2) := by decide +kernel
theorem dX6_loop_51 : decode cX6_loop 51 = .ok (.irem, 1) := by decide +kernel
theorem dX6_loop_52 : decode cX6_loop 52 = .ok (.iadd, 1) := by decide +kernel
theorem dX6_loop_53 : decode cX6_loop 53 = .ok (.iaload, 1) := by decide +kernel
theorem dX6_loop_54 : decode cX6_loop 54 = .ok (.ireturn, 1) := by decide +kernel
theorem dX6_along_0 : decode cX6_along 0 = .ok (.aload_n 0, 1) := by decide +kernel
theorem dX6_along_1 : decode cX6_along 1 = .ok (.iload_n 1, 1) := by decide +kernel
theorem dX6_along_2 : decode cX6_along 2 = .ok (.invokevirtual 203, 3) := by decide +kernel
theorem dX6_along_5 : decode cX6_along 5 = .ok (.ifCond .ne 5, 3) := by decide +kernel
theorem dX6_along_8 : decode cX6_along 8 = .ok (.iconst (-1), 1) := by decide +kernel
theorem dX6_along_9 : decode cX6_along 9 = .ok (.ireturn, 1) := by decide +kernel
theorem dX6_along_10 : decode cX6_along 10 = .ok (.aload_n 0, 1) := by decide +kernel
theorem dX6_along_11 : decode cX6_along 11 = .ok (.getfield 32, 3) := by decide +kernel
theorem dX6_along_14 : decode cX6_along 14 = .ok (.iload_n 1, 1) := by decide +kernel
theorem dX6_along_15 : decode cX6_along 15 = .ok (.iconst 1, 1) := by decide +kernel
theorem dX6_along_16 : decode cX6_along 16 = .ok (.iadd, 1) := by decide +kernel
theorem dX6_along_17 : decode cX6_along 17 = .ok (.iaload, 1) := by decide +kernel
theorem dX6_along_18 : decode cX6_along 18 = .ok (.aload_n 0, 1) := by decide +kernel
theorem dX6_along_19 : decode cX6_along 19 = .ok (.getfield 32, 3) := by decide +kernel
theorem dX6_along_22 : decode cX6_along 22 = .ok (.iload_n 1, 1) := by decide +kernel
theorem dX6_along_23 : decode cX6_along 23 = .ok (.iaload, 1) := by decide +kernel
theorem dX6_along_24 : decode cX6_along 24 = .ok (.isub, 1) := by decide +kernel
theorem dX6_along_25 : decode cX6_along 25 = .ok (.istore_n 3, 1) := by decide +kernel
theorem dX6_along_26 : decode cX6_along 26 = .ok (.iconst 0, 1) := by decide +kernel
theorem dX6_along_27 : decode cX6_along 27 = .ok (.istore 4, 2) := by decide +kernel
theorem dX6_along_29 : decode cX6_along 29 = .ok (.iconst 0, 1) := by decide +kernel
theorem dX6_along_30 : decode cX6_along 30 = .ok (.istore 5, 2) := by decide +kernel
theorem dX6_along_32 : decode cX6_along 32 = .ok (.bipush (-9), 2) := by decide +kernel
theorem dX6_along_34 : decode cX6_along 34 = .ok (.istore 6, 2) := by decide +kernel
theorem dX6_along_36 : decode cX6_along 36 = .ok (.bipush (-9), 2) := by decide +kernel
theorem dX6_along_38 : decode cX6_along 38 = .ok (.istore 7, 2) := by decide +kernel
theorem dX6_along_40 : decode cX6_along 40 = .ok (.aload_n 0, 1) := by decide +kernel
theorem dX6_along_41 : decode cX6_along 41 = .ok (.getfield 32, 3) := by decide +kernel
theorem dX6_along_44 : decode cX6_along 44 = .ok (.iload_n 1, 1) := by decide +kernel
theorem dX6_along_45 : decode cX6_along 45 = .ok (.iaload, 1) := by decide +kernel
theorem dX6_along_46 : decode cX6_along 46 = .ok (.istore 8, 2) := by decide +kernel
theorem dX6_along_48 : decode cX6_along 48 = .ok (.iload 8, 2) := by decide +kernel
theorem dX6_along_50 : decode cX6_along 50 = .ok (.aload_n 0, 1) := by decide +kernel
theorem dX6_along_51 : decode cX6_along 51 = .ok (.getfield 32, 3) := by decide +kernel
theorem dX6_along_54 : decode cX6_along 54 = .ok (.iload_n 1, 1) := by decide +kernel
theorem dX6_along_55 : decode cX6_along 55 = .ok (.iconst 1, 1) := by decide +kernel
theorem dX6_along_56 : decode cX6_along 56 = .ok (.iadd, 1) := by decide +kernel
theorem dX6_along_57 : decode cX6_along 57 = .ok (.iaload, 1) := by decide +kernel
theorem dX6_along_58 : decode cX6_along 58 = .ok (.if_icmp .ge 101, 3) := by decide +kernel
theorem dX6_along_61 : decode cX6_along 61 = .ok (.aload_n 0, 1) := by decide +kernel
theorem dX6_along_62 : decode cX6_along 62 = .ok (.getfield 29, 3) := by decide +kernel
theorem dX6_along_65 : decode cX6_along 65 = .ok (.iload 8, 2) := by decide +kernel
theorem dX6_along_67 : decode cX6_along 67 = .ok (.iaload, 1) := by decide +kernel
theorem dX6_along_68 : decode cX6_along 68 = .ok (.aload_n 0, 1) := by decide +kernel
theorem dX6_along_69 : decode cX6_along 69 = .ok (.getfield 26, 3) := by decide +kernel
theorem dX6_along_72 : decode cX6_along 72 = .ok (.aload_n 0, 1) := by decide +kernel
theorem dX6_along_73 : decode cX6_along 73 = .ok (.getfield 29, 3) := by decide +kernel
theorem dX6_along_76 : decode cX6_along 76 = .ok (.iload 8, 2) := by decide +kernel
theorem dX6_along_78 : decode cX6_along 78 = .ok (.iaload, 1) := by decide +kernel
theorem dX6_along_79 : decode cX6_along 79 = .ok (.baload, 1) := by decide +kernel
theorem dX6_along_80 : decode cX6_along 80 = .ok (.invokestatic 135, 3) := by decide +kernel
theorem dX6_along_83 : decode cX6_along 83 = .ok (.istore 9, 2) := by decide +kernel
theorem dX6_along_85 : decode cX6_along 85 = .ok (.aload_n 0, 1) := by decide +kernel
theorem dX6_along_86 : decode cX6_along 86 = .ok (.iload 9, 2) := by decide +kernel
theorem dX6_along_88 : decode cX6_along 88 = .ok (.invokevirtual 175, 3) := by decide +kernel
theorem dX6_along_91 : decode cX6_along 91 = .ok (.ifCond .eq 62, 3) := by decide +kernel
theorem dX6_along_94 : decode cX6_along 94 = .ok (.aload_n 0, 1) := by decide +kernel
theorem dX6_along_95 : decode cX6_along 95 = .ok (.aload_n 0, 1) := by decide +kernel
theorem dX6_along_96 : decode cX6_along 96 = .ok (.getfield 29, 3) := by decide +kernel
theorem dX6_along_99 : decode cX6_along 99 = .ok (.iload 8, 2) := by decide +kernel
theorem dX6_along_101 : decode cX6_along 101 = .ok (.iaload, 1) := by decide +kernel
theorem dX6_along_102 : decode cX6_along 102 = .ok (.invokevirtual 190, 3) := by decide +kernel
theorem dX6_along_105 : decode cX6_along 105 = .ok (.ifCond .eq 7, 3) := by decide +kernel
theorem dX6_along_108 : decode cX6_along 108 = .ok (.iconst 0, 1) := by decide +kernel
theorem dX6_along_109 : decode cX6_along 109 = .ok (.goto 4, 3) := by decide +kernel
theorem dX6_along_112 : decode cX6_along 112 = .ok (.iconst 1, 1) := by decide +kernel
theorem dX6_along_113 : decode cX6_along 113 = .ok (.istore 10, 2) := by decide +kernel
theorem dX6_along_115 : decode cX6_along 115 = .ok (.iload 5, 2) := by decide +kernel
theorem dX6_along_117 : decode cX6_along 117 = .ok (.iload 10, 2) := by decide +kernel
theorem dX6_along_119 : decode cX6_along 119 = .ok (.iload 6, 2) := by decide +kernel
theorem dX6_along_121 : decode cX6_along 121 = .ok (.if_icmp .ne 7, 3) := by decide +kernel
theorem dX6_along_124 : decode cX6_along 124 = .ok (.iconst 1, 1) := by decide +kernel
theorem dX6_along_125 : decode cX6_along 125 = .ok (.goto 4, 3) := by decide +kernel
theorem dX6_along_128 : decode cX6_along 128 = .ok (.iconst 0, 1) := by decide +kernel
theorem dX6_along_129 : decode cX6_along 129 = .ok (.iadd, 1) := by decide +kernel
theorem dX6_along_130 : decode cX6_along 130 = .ok (.istore 5, 2) := by decide +kernel
theorem dX6_along_132 : decode cX6_along 132 = .ok (.iload 4, 2) := by decide +kernel
theorem dX6_along_134 : decode cX6_along 134 = .ok (.ifCond .ne 8, 3) := by decide +kernel
theorem dX6_along_137 : decode cX6_along 137 = .ok (.iload 10, 2) := by decide +kernel
theorem dX6_along_139 : decode cX6_along 139 = .ok (.goto 5, 3) := by decide +kernel
theorem dX6_along_142 : decode cX6_along 142 = .ok (.iload 7, 2) := by decide +kernel
theorem dX6_along_144 : decode cX6_along 144 = .ok (.istore 7, 2) := by decide +kernel
theorem dX6_along_146 : decode cX6_along 146 = .ok (.iload 10, 2) := by decide +kernel
theorem dX6_along_148 : decode cX6_along 148 = .ok (.istore 6, 2) := by decide +kernel
theorem dX6_along_150 : decode cX6_along 150 = .ok (.iinc 4 1, 3) := by decide +kernel
theorem dX6_along_153 : decode cX6_along 153 = .ok (.iinc 8 1, 3) := by decide +kernel
theorem dX6_along_156 : decode cX6_along 156 = .ok (.goto (-108), 3) := by decide +kernel
theorem dX6_along_159 : decode cX6_along 159 = .ok (.iload 5, 2) := by decide +kernel
theorem dX6_along_161 : decode cX6_along 161 = .ok (.iload 4, 2) := by decide +kernel
theorem dX6_along_163 : decode cX6_along 163 = .ok (.ifCond .le 14, 3) := by decide +kernel
theorem dX6_along_166 : decode cX6_along 166 = .ok (.iload 7, 2) := by decide +kernel
theorem dX6_along_168 : decode cX6_along 168 = .ok (.iload 6, 2) := by decide +kernel
theorem dX6_along_170 : decode cX6_along 170 = .ok (.if_icmp .ne 7, 3) := by decide +kernel
theorem dX6_along_173 : decode cX6_along 173 = .ok (.iconst 1, 1) := by decide +kernel
theorem dX6_along_174 : decode cX6_along 174 = .ok (.goto 4, 3) := by decide +kernel
theorem dX6_along_177 : decode cX6_along 177 = .ok (.iconst 0, 1) := by decide +kernel
theorem dX6_along_178 : decode cX6_along 178 = .ok (.iadd, 1) := by decide +kernel
theorem dX6_along_179 : decode cX6_along 179 = .ok (.istore 5, 2) := by decide +kernel
theorem dX6_along_181 : decode cX6_along 181 = .ok (.iload_n 2, 1) := by decide +kernel
theorem dX6_along_182 : decode cX6_along 182 = .ok (.tableswitch 73 0 5 #[38, 53, 55, 60, 63, 70], 38) := by decide +kernel
theorem dX6_along_220 : decode cX6_along 220 = .ok (.aload_n 0, 1) := by decide +kernel
theorem dX6_along_221 : decode cX6_along 221 = .ok (.getfield 29, 3) := by decide +kernel
theorem dX6_along_224 : decode cX6_along 224 = .ok (.aload_n 0, 1) := by decide +kernel
theorem dX6_along_225 : decode cX6_along 225 = .ok (.getfield 32, 3) := by decide +kernel
theorem dX6_along_228 : decode cX6_along 228 = .ok (.iload_n 1, 1) := by decide +kernel
theorem dX6_along_229 : decode cX6_along 229 = .ok (.iaload, 1) := by decide +kernel
theorem dX6_along_230 : decode cX6_along 230 = .ok (.iaload, 1) := by decide +kernel
theorem dX6_along_231 : decode cX6_along 231 = .ok (.invokestatic 206, 3) := by decide +kernel
theorem dX6_along_234 : decode cX6_along 234 = .ok (.ireturn, 1) := by decide +kernel
theorem dX6_along_235 : decode cX6_along 235 = .ok (.iload_n 3, 1) := by decide +kernel
theorem dX6_along_236 : decode cX6_along 236 = .ok (.ireturn, 1) := by decide +kernel
theorem dX6_along_237 : decode cX6_along 237 = .ok (.iload_n 3, 1) := by decide +kernel
theorem dX6_along_238 : decode cX6_along 238 = .ok (.iload 4, 2) := by decide +kernel
theorem dX6_along_240 : decode cX6_along 240 = .ok (.isub, 1) := by decide +kernel
theorem dX6_along_241 : decode cX6_along 241 = .ok (.ireturn, 1) := by decide +kernel
theorem dX6_along_242 : decode cX6_along 242 = .ok (.iload 4, 2) := by decide +kernel
theorem dX6_along_244 : decode cX6_along 244 = .ok (.ireturn, 1) := by decide +kernel
theorem dX6_along_245 : decode cX6_along 245 = .ok (.aload_n 0, 1) := by decide +kernel
theorem dX6_along_246 : decode cX6_along 246 = .ok (.iload_n 1, 1) := by decide +kernel
theorem dX6_along_247 : decode cX6_along 247 = .ok (.iload_n 1, 1) := by decide +kernel
theorem dX6_along_248 : decode cX6_along 248 = .ok (.invokevirtual 209, 3) := by decide +kernel
theorem dX6_along_251 : decode cX6_along 251 = .ok (.ireturn, 1) := by decide +kernel
theorem dX6_along_252 : decode cX6_along 252 = .ok (.iload 5, 2) := by decide +kernel
theorem dX6_along_254 : decode cX6_along 254 = .ok (.ireturn, 1) := by decide +kernel
theorem dX6_along_255 : decode cX6_along 255 = .ok (.bipush (-2), 2) := by decide +kernel
theorem dX6_along_257 : decode cX6_along 257 = .ok (.ireturn, 1) := by decide +kernel
theorem dX6_cellBehind_0 : decode cX6_cellBehind 0 = .ok (.aload_n 0, 1) := by decide +kernel
theorem dX6_cellBehind_1 : decode cX6_cellBehind 1 = .ok (.getfield 29, 3) := by decide +kernel
theorem dX6_cellBehind_4 : decode cX6_cellBehind 4 = .ok (.aload_n 0, 1) := by decide +kernel
theorem dX6_cellBehind_5 : decode cX6_cellBehind 5 = .ok (.getfield 32, 3) := by decide +kernel
theorem dX6_cellBehind_8 : decode cX6_cellBehind 8 = .ok (.iload_n 1, 1) := by decide +kernel
theorem dX6_cellBehind_9 : decode cX6_cellBehind 9 = .ok (.iaload, 1) := by decide +kernel
theorem dX6_cellBehind_10 : decode cX6_cellBehind 10 = .ok (.iload_n 2, 1) := by decide +kernel
theorem dX6_cellBehind_11 : decode cX6_cellBehind 11 = .ok (.aload_n 0, 1) := by decide +kernel
theorem dX6_cellBehind_12 : decode cX6_cellBehind 12 = .ok (.getfield 32, 3) := by decide +kernel
theorem dX6_cellBehind_15 : decode cX6_cellBehind 15 = .ok (.iload_n 1, 1) := by decide +kernel
theorem dX6_cellBehind_16 : decode cX6_cellBehind 16 = .ok (.iconst 1, 1) := by decide +kernel
theorem dX6_cellBehind_17 : decode cX6_cellBehind 17 = .ok (.iadd, 1) := by decide +kernel
theorem dX6_cellBehind_18 : decode cX6_cellBehind 18 = .ok (.iaload, 1) := by decide +kernel
theorem dX6_cellBehind_19 : decode cX6_cellBehind 19 = .ok (.aload_n 0, 1) := by decide +kernel
theorem dX6_cellBehind_20 : decode cX6_cellBehind 20 = .ok (.getfield 32, 3) := by decide +kernel
theorem dX6_cellBehind_23 : decode cX6_cellBehind 23 = .ok (.iload_n 1, 1) := by decide +kernel
theorem dX6_cellBehind_24 : decode cX6_cellBehind 24 = .ok (.iaload, 1) := by decide +kernel
theorem dX6_cellBehind_25 : decode cX6_cellBehind 25 = .ok (.isub, 1) := by decide +kernel
theorem dX6_cellBehind_26 : decode cX6_cellBehind 26 = .ok (.irem, 1) := by decide +kernel
theorem dX6_cellBehind_27 : decode cX6_cellBehind 27 = .ok (.iadd, 1) := by decide +kernel
theorem dX6_cellBehind_28 : decode cX6_cellBehind 28 = .ok (.iaload, 1) := by decide +kernel
theorem dX6_cellBehind_29 : decode cX6_cellBehind 29 = .ok (.ireturn, 1) := by decide +kernel
theorem dX6_step_0 : decode cX6_step 0 = .ok (.aload_n 0, 1) := by decide +kernel
theorem dX6_step_1 : decode cX6_step 1 = .ok (.iload_n 1, 1) := by decide +kernel
theorem dX6_step_2 : decode cX6_step 2 = .ok (.invokevirtual 203, 3) := by decide +kernel
theorem dX6_step_5 : decode cX6_step 5 = .ok (.ifCond .ne 5, 3) := by decide +kernel
theorem dX6_step_8 : decode cX6_step 8 = .ok (.iconst (-1), 1) := by decide +kernel
theorem dX6_step_9 : decode cX6_step 9 = .ok (.ireturn, 1) := by decide +kernel
theorem dX6_step_10 : decode cX6_step 10 = .ok (.iload_n 2, 1) := by decide +kernel
theorem dX6_step_11 : decode cX6_step 11 = .ok (.i2l, 1) := by decide +kernel
theorem dX6_step_12 : decode cX6_step 12 = .ok (.lconst 0, 1) := by decide +kernel
theorem dX6_step_13 : decode cX6_step 13 = .ok (.ldc2_w 212, 3) := by decide +kernel
theorem dX6_step_16 : decode cX6_step 16 = .ok (.invokestatic 71, 3) := by decide +kernel
theorem dX6_step_19 : decode cX6_step 19 = .ok (.ifCond .eq 15, 3) := by decide +kernel
theorem dX6_step_22 : decode cX6_step 22 = .ok (.aload_n 0, 1) := by decide +kernel
theorem dX6_step_23 : decode cX6_step 23 = .ok (.iload_n 1, 1) := by decide +kernel
theorem dX6_step_24 : decode cX6_step 24 = .ok (.iload_n 2, 1) := by decide +kernel
theorem dX6_step_25 : decode cX6_step 25 = .ok (.invokevirtual 214, 3) := by decide +kernel
theorem dX6_step_28 : decode cX6_step 28 = .ok (.invokestatic 206, 3) := by decide +kernel
theorem dX6_step_31 : decode cX6_step 31 = .ok (.goto 5, 3) := by decide +kernel
theorem dX6_step_34 : decode cX6_step 34 = .ok (.bipush (-2), 2) := by decide +kernel
theorem dX6_step_36 : decode cX6_step 36 = .ok (.ireturn, 1) := by decide +kernel
theorem dX6_end_0 : decode cX6_end 0 = .ok (.aload_n 0, 1) := by decide +kernel
theorem dX6_end_1 : decode cX6_end 1 = .ok (.iload_n 1, 1) := by decide +kernel
theorem dX6_end_2 : decode cX6_end 2 = .ok (.invokevirtual 203, 3) := by decide +kernel
theorem dX6_end_5 : decode cX6_end 5 = .ok (.ifCond .ne 5, 3) := by decide +kernel
theorem dX6_end_8 : decode cX6_end 8 = .ok (.iconst (-1), 1) := by decide +kernel
theorem dX6_end_9 : decode cX6_end 9 = .ok (.ireturn, 1) := by decide +kernel
theorem dX6_end_10 : decode cX6_end 10 = .ok (.iload_n 2, 1) := by decide +kernel
theorem dX6_end_11 : decode cX6_end 11 = .ok (.i2l, 1) := by decide +kernel
theorem dX6_end_12 : decode cX6_end 12 = .ok (.lconst 0, 1) := by decide +kernel
theorem dX6_end_13 : decode cX6_end 13 = .ok (.ldc2_w 212, 3) := by decide +kernel
theorem dX6_end_16 : decode cX6_end 16 = .ok (.invokestatic 71, 3) := by decide +kernel
theorem dX6_end_19 : decode cX6_end 19 = .ok (.ifCond .ne 6, 3) := by decide +kernel
theorem dX6_end_22 : decode cX6_end 22 = .ok (.bipush (-2), 2) := by decide +kernel
theorem dX6_end_24 : decode cX6_end 24 = .ok (.ireturn, 1) := by decide +kernel
theorem dX6_end_25 : decode cX6_end 25 = .ok (.aload_n 0, 1) := by decide +kernel
theorem dX6_end_26 : decode cX6_end 26 = .ok (.iload_n 1, 1) := by decide +kernel
theorem dX6_end_27 : decode cX6_end 27 = .ok (.iload_n 2, 1) := by decide +kernel
theorem dX6_end_28 : decode cX6_end 28 = .ok (.invokevirtual 214, 3) := by decide +kernel
theorem dX6_end_31 : decode cX6_end 31 = .ok (.istore_n 3, 1) := by decide +kernel
theorem dX6_end_32 : decode cX6_end 32 = .ok (.iload_n 3, 1) := by decide +kernel
theorem dX6_end_33 : decode cX6_end 33 = .ok (.aload_n 0, 1) := by decide +kernel
theorem dX6_end_34 : decode cX6_end 34 = .ok (.getfield 26, 3) := by decide +kernel
theorem dX6_end_37 : decode cX6_end 37 = .ok (.iload_n 3, 1) := by decide +kernel
theorem dX6_end_38 : decode cX6_end 38 = .ok (.baload, 1) := by decide +kernel
theorem dX6_end_39 : decode cX6_end 39 = .ok (.invokestatic 135, 3) := by decide +kernel
theorem dX6_end_42 : decode cX6_end 42 = .ok (.invokestatic 217, 3) := by decide +kernel
theorem dX6_end_45 : decode cX6_end 45 = .ok (.ireturn, 1) := by decide +kernel
theorem dX6_between_0 : decode cX6_between 0 = .ok (.aload_n 0, 1) := by decide +kernel
theorem dX6_between_1 : decode cX6_between 1 = .ok (.iload_n 1, 1) := by decide +kernel
theorem dX6_between_2 : decode cX6_between 2 = .ok (.invokevirtual 203, 3) := by decide +kernel
theorem dX6_between_5 : decode cX6_between 5 = .ok (.ifCond .eq 20, 3) := by decide +kernel
theorem dX6_between_8 : decode cX6_between 8 = .ok (.aload_n 0, 1) := by decide +kernel
theorem dX6_between_9 : decode cX6_between 9 = .ok (.iload_n 2, 1) := by decide +kernel
theorem dX6_between_10 : decode cX6_between 10 = .ok (.invokevirtual 203, 3) := by decide +kernel
theorem dX6_between_13 : decode cX6_between 13 = .ok (.ifCond .eq 12, 3) := by decide +kernel
theorem dX6_between_16 : decode cX6_between 16 = .ok (.aload_n 0, 1) := by decide +kernel
theorem dX6_between_17 : decode cX6_between 17 = .ok (.iload_n 1, 1) := by decide +kernel
theorem dX6_between_18 : decode cX6_between 18 = .ok (.iload_n 2, 1) := by decide +kernel
theorem dX6_between_19 : decode cX6_between 19 = .ok (.invokevirtual 209, 3) := by decide +kernel
theorem dX6_between_22 : decode cX6_between 22 = .ok (.goto 4, 3) := by decide +kernel
theorem dX6_between_25 : decode cX6_between 25 = .ok (.iconst (-1), 1) := by decide +kernel
theorem dX6_between_26 : decode cX6_between 26 = .ok (.ireturn, 1) := by decide +kernel
theorem dX6_which_0 : decode cX6_which 0 = .ok (.aload_n 0, 1) := by decide +kernel
theorem dX6_which_1 : decode cX6_which 1 = .ok (.iload_n 1, 1) := by decide +kernel
theorem dX6_which_2 : decode cX6_which 2 = .ok (.invokevirtual 126, 3) := by decide +kernel
theorem dX6_which_5 : decode cX6_which 5 = .ok (.istore_n 3, 1) := by decide +kernel
theorem dX6_which_6 : decode cX6_which 6 = .ok (.iload_n 3, 1) := by decide +kernel
theorem dX6_which_7 : decode cX6_which 7 = .ok (.bipush (-9), 2) := by decide +kernel
theorem dX6_which_9 : decode cX6_which 9 = .ok (.if_icmp .ne 5, 3) := by decide +kernel
theorem dX6_which_12 : decode cX6_which 12 = .ok (.iconst (-1), 1) := by decide +kernel
theorem dX6_which_13 : decode cX6_which 13 = .ok (.ireturn, 1) := by decide +kernel
theorem dX6_which_14 : decode cX6_which 14 = .ok (.aload_n 0, 1) := by decide +kernel
theorem dX6_which_15 : decode cX6_which 15 = .ok (.invokevirtual 163, 3) := by decide +kernel
theorem dX6_which_18 : decode cX6_which 18 = .ok (.pop, 1) := by decide +kernel
theorem dX6_which_19 : decode cX6_which 19 = .ok (.aload_n 0, 1) := by decide +kernel
theorem dX6_which_20 : decode cX6_which 20 = .ok (.iload_n 3, 1) := by decide +kernel
theorem dX6_which_21 : decode cX6_which 21 = .ok (.invokevirtual 175, 3) := by decide +kernel
theorem dX6_which_24 : decode cX6_which 24 = .ok (.ifCond .eq 17, 3) := by decide +kernel
theorem dX6_which_27 : decode cX6_which 27 = .ok (.aload_n 0, 1) := by decide +kernel
theorem dX6_which_28 : decode cX6_which 28 = .ok (.getfield 23, 3) := by decide +kernel
theorem dX6_which_31 : decode cX6_which 31 = .ok (.aload_n 0, 1) := by decide +kernel
theorem dX6_which_32 : decode cX6_which 32 = .ok (.iload_n 3, 1) := by decide +kernel
theorem dX6_which_33 : decode cX6_which 33 = .ok (.iload_n 2, 1) := by decide +kernel
theorem dX6_which_34 : decode cX6_which 34 = .ok (.invokevirtual 178, 3) := by decide +kernel
theorem dX6_which_37 : decode cX6_which 37 = .ok (.iaload, 1) := by decide +kernel
theorem dX6_which_38 : decode cX6_which 38 = .ok (.goto 5, 3) := by decide +kernel
theorem dX6_which_41 : decode cX6_which 41 = .ok (.bipush (-3), 2) := by decide +kernel
theorem dX6_which_43 : decode cX6_which 43 = .ok (.ireturn, 1) := by decide +kernel
theorem dX6_sign_0 : decode cX6_sign 0 = .ok (.aload_n 0, 1) := by decide +kernel
theorem dX6_sign_1 : decode cX6_sign 1 = .ok (.iload_n 1, 1) := by decide +kernel
theorem dX6_sign_2 : decode cX6_sign 2 = .ok (.invokevirtual 126, 3) := by decide +kernel
theorem dX6_sign_5 : decode cX6_sign 5 = .ok (.istore_n 2, 1) := by decide +kernel
theorem dX6_sign_6 : decode cX6_sign 6 = .ok (.iload_n 2, 1) := by decide +kernel
theorem dX6_sign_7 : decode cX6_sign 7 = .ok (.bipush (-9), 2) := by decide +kernel
theorem dX6_sign_9 : decode cX6_sign 9 = .ok (.if_icmp .ne 5, 3) := by decide +kernel
theorem dX6_sign_12 : decode cX6_sign 12 = .ok (.iconst (-1), 1) := by decide +kernel
theorem dX6_sign_13 : decode cX6_sign 13 = .ok (.ireturn, 1) := by decide +kernel
theorem dX6_sign_14 : decode cX6_sign 14 = .ok (.aload_n 0, 1) := by decide +kernel
theorem dX6_sign_15 : decode cX6_sign 15 = .ok (.invokevirtual 163, 3) := by decide +kernel
theorem dX6_sign_18 : decode cX6_sign 18 = .ok (.pop, 1) := by decide +kernel
theorem dX6_sign_19 : decode cX6_sign 19 = .ok (.aload_n 0, 1) := by decide +kernel
theorem dX6_sign_20 : decode cX6_sign 20 = .ok (.iload_n 2, 1) := by decide +kernel
theorem dX6_sign_21 : decode cX6_sign 21 = .ok (.invokevirtual 175, 3) := by decide +kernel
theorem dX6_sign_24 : decode cX6_sign 24 = .ok (.ifCond .eq 11, 3) := by decide +kernel
theorem dX6_sign_27 : decode cX6_sign 27 = .ok (.aload_n 0, 1) := by decide +kernel
theorem dX6_sign_28 : decode cX6_sign 28 = .ok (.iload_n 2, 1) := by decide +kernel
theorem dX6_sign_29 : decode cX6_sign 29 = .ok (.invokevirtual 181, 3) := by decide +kernel
theorem dX6_sign_32 : decode cX6_sign 32 = .ok (.goto 5, 3) := by decide +kernel
theorem dX6_sign_35 : decode cX6_sign 35 = .ok (.bipush (-3), 2) := by decide +kernel
theorem dX6_sign_37 : decode cX6_sign 37 = .ok (.ireturn, 1) := by decide +kernel
theorem dX6_writhe_0 : decode cX6_writhe 0 = .ok (.aload_n 0, 1) := by decide +kernel
theorem dX6_writhe_1 : decode cX6_writhe 1 = .ok (.invokevirtual 163, 3) := by decide +kernel
theorem dX6_writhe_4 : decode cX6_writhe 4 = .ok (.pop, 1) := by decide +kernel
theorem dX6_writhe_5 : decode cX6_writhe 5 = .ok (.sipush 1000, 3) := by decide +kernel
theorem dX6_writhe_8 : decode cX6_writhe 8 = .ok (.istore_n 1, 1) := by decide +kernel
theorem dX6_writhe_9 : decode cX6_writhe 9 = .ok (.iconst 0, 1) := by decide +kernel
theorem dX6_writhe_10 : decode cX6_writhe 10 = .ok (.istore_n 2, 1) := by decide +kernel
theorem dX6_writhe_11 : decode cX6_writhe 11 = .ok (.iload_n 2, 1) := by decide +kernel
theorem dX6_writhe_12 : decode cX6_writhe 12 = .ok (.sipush 169, 3) := by decide +kernel
theorem dX6_writhe_15 : decode cX6_writhe 15 = .ok (.if_icmp .ge 29, 3) := by decide +kernel
theorem dX6_writhe_18 : decode cX6_writhe 18 = .ok (.iload_n 1, 1) := by decide +kernel
theorem dX6_writhe_19 : decode cX6_writhe 19 = .ok (.aload_n 0, 1) := by decide +kernel
theorem dX6_writhe_20 : decode cX6_writhe 20 = .ok (.iload_n 2, 1) := by decide +kernel
theorem dX6_writhe_21 : decode cX6_writhe 21 = .ok (.invokevirtual 175, 3) := by decide +kernel
theorem dX6_writhe_24 : decode cX6_writhe 24 = .ok (.ifCond .eq 11, 3) := by decide +kernel
theorem dX6_writhe_27 : decode cX6_writhe 27 = .ok (.aload_n 0, 1) := by decide +kernel
theorem dX6_writhe_28 : decode cX6_writhe 28 = .ok (.iload_n 2, 1) := by decide +kernel
theorem dX6_writhe_29 : decode cX6_writhe 29 = .ok (.invokevirtual 181, 3) := by decide +kernel
theorem dX6_writhe_32 : decode cX6_writhe 32 = .ok (.goto 4, 3) := by decide +kernel
theorem dX6_writhe_35 : decode cX6_writhe 35 = .ok (.iconst 0, 1) := by decide +kernel
theorem dX6_writhe_36 : decode cX6_writhe 36 = .ok (.iadd, 1) := by decide +kernel
theorem dX6_writhe_37 : decode cX6_writhe 37 = .ok (.istore_n 1, 1) := by decide +kernel
theorem dX6_writhe_38 : decode cX6_writhe 38 = .ok (.iinc 2 1, 3) := by decide +kernel
theorem dX6_writhe_41 : decode cX6_writhe 41 = .ok (.goto (-30), 3) := by decide +kernel
theorem dX6_writhe_44 : decode cX6_writhe 44 = .ok (.iload_n 1, 1) := by decide +kernel
theorem dX6_writhe_45 : decode cX6_writhe 45 = .ok (.ireturn, 1) := by decide +kernel
theorem dX6_linked_0 : decode cX6_linked 0 = .ok (.aload_n 0, 1) := by decide +kernel
theorem dX6_linked_1 : decode cX6_linked 1 = .ok (.iload_n 1, 1) := by decide +kernel
theorem dX6_linked_2 : decode cX6_linked 2 = .ok (.invokevirtual 203, 3) := by decide +kernel
theorem dX6_linked_5 : decode cX6_linked 5 = .ok (.ifCond .eq 11, 3) := by decide +kernel
theorem dX6_linked_8 : decode cX6_linked 8 = .ok (.aload_n 0, 1) := by decide +kernel
theorem dX6_linked_9 : decode cX6_linked 9 = .ok (.iload_n 2, 1) := by decide +kernel
theorem dX6_linked_10 : decode cX6_linked 10 = .ok (.invokevirtual 203, 3) := by decide +kernel
theorem dX6_linked_13 : decode cX6_linked 13 = .ok (.ifCond .ne 5, 3) := by decide +kernel
theorem dX6_linked_16 : decode cX6_linked 16 = .ok (.iconst (-1), 1) := by decide +kernel
theorem dX6_linked_17 : decode cX6_linked 17 = .ok (.ireturn, 1) := by decide +kernel
theorem dX6_linked_18 : decode cX6_linked 18 = .ok (.iload_n 1, 1) := by decide +kernel
theorem dX6_linked_19 : decode cX6_linked 19 = .ok (.iload_n 2, 1) := by decide +kernel
theorem dX6_linked_20 : decode cX6_linked 20 = .ok (.if_icmp .ne 6, 3) := by decide +kernel
theorem dX6_linked_23 : decode cX6_linked 23 = .ok (.bipush (-3), 2) := by decide +kernel
theorem dX6_linked_25 : decode cX6_linked 25 = .ok (.ireturn, 1) := by decide +kernel
theorem dX6_linked_26 : decode cX6_linked 26 = .ok (.aload_n 0, 1) := by decide +kernel
theorem dX6_linked_27 : decode cX6_linked 27 = .ok (.iload_n 1, 1) := by decide +kernel
theorem dX6_linked_28 : decode cX6_linked 28 = .ok (.iload_n 2, 1) := by decide +kernel
theorem dX6_linked_29 : decode cX6_linked 29 = .ok (.invokevirtual 209, 3) := by decide +kernel
theorem dX6_linked_32 : decode cX6_linked 32 = .ok (.pop, 1) := by decide +kernel
theorem dX6_linked_33 : decode cX6_linked 33 = .ok (.sipush 1000, 3) := by decide +kernel
theorem dX6_linked_36 : decode cX6_linked 36 = .ok (.aload_n 0, 1) := by decide +kernel
theorem dX6_linked_37 : decode cX6_linked 37 = .ok (.getfield 172, 3) := by decide +kernel
theorem dX6_linked_40 : decode cX6_linked 40 = .ok (.iconst 2, 1) := by decide +kernel
theorem dX6_linked_41 : decode cX6_linked 41 = .ok (.idiv, 1) := by decide +kernel
theorem dX6_linked_42 : decode cX6_linked 42 = .ok (.iadd, 1) := by decide +kernel
theorem dX6_linked_43 : decode cX6_linked 43 = .ok (.ireturn, 1) := by decide +kernel
theorem dX6_loopsBy_0 : decode cX6_loopsBy 0 = .ok (.aload_n 0, 1) := by decide +kernel
theorem dX6_loopsBy_1 : decode cX6_loopsBy 1 = .ok (.getfield 7, 3) := by decide +kernel
theorem dX6_loopsBy_4 : decode cX6_loopsBy 4 = .ok (.iload_n 1, 1) := by decide +kernel
theorem dX6_loopsBy_5 : decode cX6_loopsBy 5 = .ok (.iaload, 1) := by decide +kernel
theorem dX6_loopsBy_6 : decode cX6_loopsBy 6 = .ok (.istore_n 3, 1) := by decide +kernel
theorem dX6_loopsBy_7 : decode cX6_loopsBy 7 = .ok (.aload_n 0, 1) := by decide +kernel
theorem dX6_loopsBy_8 : decode cX6_loopsBy 8 = .ok (.getfield 7, 3) := by decide +kernel
theorem dX6_loopsBy_11 : decode cX6_loopsBy 11 = .ok (.iload_n 1, 1) := by decide +kernel
theorem dX6_loopsBy_12 : decode cX6_loopsBy 12 = .ok (.iload_n 2, 1) := by decide +kernel
theorem dX6_loopsBy_13 : decode cX6_loopsBy 13 = .ok (.iastore, 1) := by decide +kernel
theorem dX6_loopsBy_14 : decode cX6_loopsBy 14 = .ok (.aload_n 0, 1) := by decide +kernel
theorem dX6_loopsBy_15 : decode cX6_loopsBy 15 = .ok (.invokevirtual 163, 3) := by decide +kernel
theorem dX6_loopsBy_18 : decode cX6_loopsBy 18 = .ok (.istore 4, 2) := by decide +kernel
theorem dX6_loopsBy_20 : decode cX6_loopsBy 20 = .ok (.aload_n 0, 1) := by decide +kernel
theorem dX6_loopsBy_21 : decode cX6_loopsBy 21 = .ok (.getfield 7, 3) := by decide +kernel
theorem dX6_loopsBy_24 : decode cX6_loopsBy 24 = .ok (.iload_n 1, 1) := by decide +kernel
theorem dX6_loopsBy_25 : decode cX6_loopsBy 25 = .ok (.iload_n 3, 1) := by decide +kernel
theorem dX6_loopsBy_26 : decode cX6_loopsBy 26 = .ok (.iastore, 1) := by decide +kernel
theorem dX6_loopsBy_27 : decode cX6_loopsBy 27 = .ok (.iload 4, 2) := by decide +kernel
theorem dX6_loopsBy_29 : decode cX6_loopsBy 29 = .ok (.ireturn, 1) := by decide +kernel
theorem dX6_by_0 : decode cX6_by 0 = .ok (.aload_n 0, 1) := by decide +kernel
theorem dX6_by_1 : decode cX6_by 1 = .ok (.iload_n 1, 1) := by decide +kernel
theorem dX6_by_2 : decode cX6_by 2 = .ok (.invokevirtual 126, 3) := by decide +kernel
theorem dX6_by_5 : decode cX6_by 5 = .ok (.istore_n 3, 1) := by decide +kernel
theorem dX6_by_6 : decode cX6_by 6 = .ok (.iload_n 3, 1) := by decide +kernel
theorem dX6_by_7 : decode cX6_by 7 = .ok (.bipush (-9), 2) := by decide +kernel
theorem dX6_by_9 : decode cX6_by 9 = .ok (.if_icmp .ne 5, 3) := by decide +kernel
theorem dX6_by_12 : decode cX6_by 12 = .ok (.iconst (-1), 1) := by decide +kernel
theorem dX6_by_13 : decode cX6_by 13 = .ok (.ireturn, 1) := by decide +kernel
theorem dX6_by_14 : decode cX6_by 14 = .ok (.iload_n 2, 1) := by decide +kernel
theorem dX6_by_15 : decode cX6_by 15 = .ok (.i2l, 1) := by decide +kernel
theorem dX6_by_16 : decode cX6_by 16 = .ok (.lconst 0, 1) := by decide +kernel
theorem dX6_by_17 : decode cX6_by 17 = .ok (.ldc2_w 220, 3) := by decide +kernel
theorem dX6_by_20 : decode cX6_by 20 = .ok (.invokestatic 71, 3) := by decide +kernel
theorem dX6_by_23 : decode cX6_by 23 = .ok (.ifCond .eq 12, 3) := by decide +kernel
theorem dX6_by_26 : decode cX6_by 26 = .ok (.aload_n 0, 1) := by decide +kernel
theorem dX6_by_27 : decode cX6_by 27 = .ok (.iload_n 3, 1) := by decide +kernel
theorem dX6_by_28 : decode cX6_by 28 = .ok (.iload_n 2, 1) := by decide +kernel
theorem dX6_by_29 : decode cX6_by 29 = .ok (.invokevirtual 222, 3) := by decide +kernel
theorem dX6_by_32 : decode cX6_by 32 = .ok (.goto 5, 3) := by decide +kernel
theorem dX6_by_35 : decode cX6_by 35 = .ok (.bipush (-2), 2) := by decide +kernel
theorem dX6_by_37 : decode cX6_by 37 = .ok (.ireturn, 1) := by decide +kernel
theorem dX6_most_0 : decode cX6_most 0 = .ok (.iload_n 1, 1) := by decide +kernel
theorem dX6_most_1 : decode cX6_most 1 = .ok (.i2l, 1) := by decide +kernel
theorem dX6_most_2 : decode cX6_most 2 = .ok (.lconst 1, 1) := by decide +kernel
theorem dX6_most_3 : decode cX6_most 3 = .ok (.ldc2_w 220, 3) := by decide +kernel
theorem dX6_most_6 : decode cX6_most 6 = .ok (.invokestatic 71, 3) := by decide +kernel
theorem dX6_most_9 : decode cX6_most 9 = .ok (.ifCond .ne 6, 3) := by decide +kernel
theorem dX6_most_12 : decode cX6_most 12 = .ok (.bipush (-2), 2) := by decide +kernel
theorem dX6_most_14 : decode cX6_most 14 = .ok (.ireturn, 1) := by decide +kernel
theorem dX6_most_15 : decode cX6_most 15 = .ok (.bipush (-9), 2) := by decide +kernel
theorem dX6_most_17 : decode cX6_most 17 = .ok (.istore_n 2, 1) := by decide +kernel
theorem dX6_most_18 : decode cX6_most 18 = .ok (.iconst 0, 1) := by decide +kernel
theorem dX6_most_19 : decode cX6_most 19 = .ok (.istore_n 3, 1) := by decide +kernel
theorem dX6_most_20 : decode cX6_most 20 = .ok (.iconst 0, 1) := by decide +kernel
theorem dX6_most_21 : decode cX6_most 21 = .ok (.istore 4, 2) := by decide +kernel
theorem dX6_most_23 : decode cX6_most 23 = .ok (.iload 4, 2) := by decide +kernel
theorem dX6_most_25 : decode cX6_most 25 = .ok (.sipush 169, 3) := by decide +kernel
theorem dX6_most_28 : decode cX6_most 28 = .ok (.if_icmp .ge 60, 3) := by decide +kernel
theorem dX6_most_31 : decode cX6_most 31 = .ok (.aload_n 0, 1) := by decide +kernel
theorem dX6_most_32 : decode cX6_most 32 = .ok (.iload 4, 2) := by decide +kernel
theorem dX6_most_34 : decode cX6_most 34 = .ok (.invokevirtual 175, 3) := by decide +kernel
theorem dX6_most_37 : decode cX6_most 37 = .ok (.ifCond .eq 13, 3) := by decide +kernel
theorem dX6_most_40 : decode cX6_most 40 = .ok (.aload_n 0, 1) := by decide +kernel
theorem dX6_most_41 : decode cX6_most 41 = .ok (.iload 4, 2) := by decide +kernel
theorem dX6_most_43 : decode cX6_most 43 = .ok (.iload_n 1, 1) := by decide +kernel
theorem dX6_most_44 : decode cX6_most 44 = .ok (.invokevirtual 222, 3) := by decide +kernel
theorem dX6_most_47 : decode cX6_most 47 = .ok (.goto 4, 3) := by decide +kernel
theorem dX6_most_50 : decode cX6_most 50 = .ok (.iconst 0, 1) := by decide +kernel
theorem dX6_most_51 : decode cX6_most 51 = .ok (.istore 5, 2) := by decide +kernel
theorem dX6_most_53 : decode cX6_most 53 = .ok (.iload 5, 2) := by decide +kernel
theorem dX6_most_55 : decode cX6_most 55 = .ok (.iload_n 3, 1) := by decide +kernel
theorem dX6_most_56 : decode cX6_most 56 = .ok (.if_icmp .le 11, 3) := by decide +kernel
theorem dX6_most_59 : decode cX6_most 59 = .ok (.iload 4, 2) := by decide +kernel
theorem dX6_most_61 : decode cX6_most 61 = .ok (.invokestatic 217, 3) := by decide +kernel
theorem dX6_most_64 : decode cX6_most 64 = .ok (.goto 4, 3) := by decide +kernel
theorem dX6_most_67 : decode cX6_most 67 = .ok (.iload_n 2, 1) := by decide +kernel
theorem dX6_most_68 : decode cX6_most 68 = .ok (.istore_n 2, 1) := by decide +kernel
theorem dX6_most_69 : decode cX6_most 69 = .ok (.iload 5, 2) := by decide +kernel
theorem dX6_most_71 : decode cX6_most 71 = .ok (.iload_n 3, 1) := by decide +kernel
theorem dX6_most_72 : decode cX6_most 72 = .ok (.if_icmp .le 8, 3) := by decide +kernel
theorem dX6_most_75 : decode cX6_most 75 = .ok (.iload 5, 2) := by decide +kernel
theorem dX6_most_77 : decode cX6_most 77 = .ok (.goto 4, 3) := by decide +kernel
theorem dX6_most_80 : decode cX6_most 80 = .ok (.iload_n 3, 1) := by decide +kernel
theorem dX6_most_81 : decode cX6_most 81 = .ok (.istore_n 3, 1) := by decide +kernel
theorem dX6_most_82 : decode cX6_most 82 = .ok (.iinc 4 1, 3) := by decide +kernel
theorem dX6_most_85 : decode cX6_most 85 = .ok (.goto (-62), 3) := by decide +kernel
theorem dX6_most_88 : decode cX6_most 88 = .ok (.iload_n 2, 1) := by decide +kernel
theorem dX6_most_89 : decode cX6_most 89 = .ok (.ireturn, 1) := by decide +kernel
theorem dX6_layOne_0 : decode cX6_layOne 0 = .ok (.aload_n 0, 1) := by decide +kernel
theorem dX6_layOne_1 : decode cX6_layOne 1 = .ok (.invokevirtual 163, 3) := by decide +kernel
theorem dX6_layOne_4 : decode cX6_layOne 4 = .ok (.pop, 1) := by decide +kernel
theorem dX6_layOne_5 : decode cX6_layOne 5 = .ok (.iconst 0, 1) := by decide +kernel
theorem dX6_layOne_6 : decode cX6_layOne 6 = .ok (.istore_n 1, 1) := by decide +kernel
theorem dX6_layOne_7 : decode cX6_layOne 7 = .ok (.iload_n 1, 1) := by decide +kernel
theorem dX6_layOne_8 : decode cX6_layOne 8 = .ok (.aload_n 0, 1) := by decide +kernel
theorem dX6_layOne_9 : decode cX6_layOne 9 = .ok (.getfield 153, 3) := by decide +kernel
theorem dX6_layOne_12 : decode cX6_layOne 12 = .ok (.if_icmp .ge 16, 3) := by decide +kernel
theorem dX6_layOne_15 : decode cX6_layOne 15 = .ok (.aload_n 0, 1) := by decide +kernel
theorem dX6_layOne_16 : decode cX6_layOne 16 = .ok (.getfield 35, 3) := by decide +kernel
theorem dX6_layOne_19 : decode cX6_layOne 19 = .ok (.iload_n 1, 1) := by decide +kernel
theorem dX6_layOne_20 : decode cX6_layOne 20 = .ok (.iload_n 1, 1) := by decide +kernel
theorem dX6_layOne_21 : decode cX6_layOne 21 = .ok (.iastore, 1) := by decide +kernel
theorem dX6_layOne_22 : decode cX6_layOne 22 = .ok (.iinc 1 1, 3) := by decide +kernel
theorem dX6_layOne_25 : decode cX6_layOne 25 = .ok (.goto (-18), 3) := by decide +kernel
theorem dX6_layOne_28 : decode cX6_layOne 28 = .ok (.iconst 0, 1) := by decide +kernel
theorem dX6_layOne_29 : decode cX6_layOne 29 = .ok (.istore_n 1, 1) := by decide +kernel
theorem dX6_layOne_30 : decode cX6_layOne 30 = .ok (.iconst 0, 1) := by decide +kernel
theorem dX6_layOne_31 : decode cX6_layOne 31 = .ok (.istore_n 2, 1) := by decide +kernel
theorem dX6_layOne_32 : decode cX6_layOne 32 = .ok (.iload_n 2, 1) := by decide +kernel
theorem dX6_layOne_33 : decode cX6_layOne 33 = .ok (.sipush 169, 3) := by decide +kernel
theorem dX6_layOne_36 : decode cX6_layOne 36 = .ok (.if_icmp .ge 60, 3) := by decide +kernel
theorem dX6_layOne_39 : decode cX6_layOne 39 = .ok (.aload_n 0, 1) := by decide +kernel
theorem dX6_layOne_40 : decode cX6_layOne 40 = .ok (.iload_n 2, 1) := by decide +kernel
theorem dX6_layOne_41 : decode cX6_layOne 41 = .ok (.invokevirtual 175, 3) := by decide +kernel
theorem dX6_layOne_44 : decode cX6_layOne 44 = .ok (.ifCond .eq 46, 3) := by decide +kernel
theorem dX6_layOne_47 : decode cX6_layOne 47 = .ok (.aload_n 0, 1) := by decide +kernel
theorem dX6_layOne_48 : decode cX6_layOne 48 = .ok (.aload_n 0, 1) := by decide +kernel
theorem dX6_layOne_49 : decode cX6_layOne 49 = .ok (.getfield 23, 3) := by decide +kernel
theorem dX6_layOne_52 : decode cX6_layOne 52 = .ok (.aload_n 0, 1) := by decide +kernel
theorem dX6_layOne_53 : decode cX6_layOne 53 = .ok (.iload_n 2, 1) := by decide +kernel
theorem dX6_layOne_54 : decode cX6_layOne 54 = .ok (.iconst 1, 1) := by decide +kernel
theorem dX6_layOne_55 : decode cX6_layOne 55 = .ok (.invokevirtual 178, 3) := by decide +kernel
theorem dX6_layOne_58 : decode cX6_layOne 58 = .ok (.iaload, 1) := by decide +kernel
theorem dX6_layOne_59 : decode cX6_layOne 59 = .ok (.aload_n 0, 1) := by decide +kernel
theorem dX6_layOne_60 : decode cX6_layOne 60 = .ok (.getfield 23, 3) := by decide +kernel
theorem dX6_layOne_63 : decode cX6_layOne 63 = .ok (.aload_n 0, 1) := by decide +kernel
theorem dX6_layOne_64 : decode cX6_layOne 64 = .ok (.iload_n 2, 1) := by decide +kernel
theorem dX6_layOne_65 : decode cX6_layOne 65 = .ok (.iconst 0, 1) := by decide +kernel
theorem dX6_layOne_66 : decode cX6_layOne 66 = .ok (.invokevirtual 178, 3) := by decide +kernel
theorem dX6_layOne_69 : decode cX6_layOne 69 = .ok (.iaload, 1) := by decide +kernel
theorem dX6_layOne_70 : decode cX6_layOne 70 = .ok (.invokevirtual 184, 3) := by decide +kernel
theorem dX6_layOne_73 : decode cX6_layOne 73 = .ok (.iconst 1, 1) := by decide +kernel
theorem dX6_layOne_74 : decode cX6_layOne 74 = .ok (.if_icmp .ne 16, 3) := by decide +kernel
theorem dX6_layOne_77 : decode cX6_layOne 77 = .ok (.aload_n 0, 1) := by decide +kernel
theorem dX6_layOne_78 : decode cX6_layOne 78 = .ok (.getfield 50, 3) := by decide +kernel
theorem dX6_layOne_81 : decode cX6_layOne 81 = .ok (.iload_n 1, 1) := by decide +kernel
theorem dX6_layOne_82 : decode cX6_layOne 82 = .ok (.iload_n 2, 1) := by decide +kernel
theorem dX6_layOne_83 : decode cX6_layOne 83 = .ok (.invokestatic 217, 3) := by decide +kernel
theorem dX6_layOne_86 : decode cX6_layOne 86 = .ok (.iastore, 1) := by decide +kernel
theorem dX6_layOne_87 : decode cX6_layOne 87 = .ok (.iinc 1 1, 3) := by decide +kernel
theorem dX6_layOne_90 : decode cX6_layOne 90 = .ok (.iinc 2 1, 3) := by decide +kernel
theorem dX6_layOne_93 : decode cX6_layOne 93 = .ok (.goto (-61), 3) := by decide +kernel
theorem dX6_layOne_96 : decode cX6_layOne 96 = .ok (.iload_n 1, 1) := by decide +kernel
theorem dX6_layOne_97 : decode cX6_layOne 97 = .ok (.aload_n 0, 1) := by decide +kernel
theorem dX6_layOne_98 : decode cX6_layOne 98 = .ok (.getfield 153, 3) := by decide +kernel
theorem dX6_layOne_101 : decode cX6_layOne 101 = .ok (.iconst 1, 1) := by decide +kernel
theorem dX6_layOne_102 : decode cX6_layOne 102 = .ok (.isub, 1) := by decide +kernel
theorem dX6_layOne_103 : decode cX6_layOne 103 = .ok (.if_icmp .ne 7, 3) := by decide +kernel
theorem dX6_layOne_106 : decode cX6_layOne 106 = .ok (.iload_n 1, 1) := by decide +kernel
theorem dX6_layOne_107 : decode cX6_layOne 107 = .ok (.goto 5, 3) := by decide +kernel
theorem dX6_layOne_110 : decode cX6_layOne 110 = .ok (.bipush (-9), 2) := by decide +kernel
theorem dX6_layOne_112 : decode cX6_layOne 112 = .ok (.ireturn, 1) := by decide +kernel
theorem dX6_one_0 : decode cX6_one 0 = .ok (.aload_n 0, 1) := by decide +kernel
theorem dX6_one_1 : decode cX6_one 1 = .ok (.invokevirtual 225, 3) := by decide +kernel
theorem dX6_one_4 : decode cX6_one 4 = .ok (.ireturn, 1) := by decide +kernel
theorem dX6_oneAt_0 : decode cX6_oneAt 0 = .ok (.iload_n 1, 1) := by decide +kernel
theorem dX6_oneAt_1 : decode cX6_oneAt 1 = .ok (.i2l, 1) := by decide +kernel
theorem dX6_oneAt_2 : decode cX6_oneAt 2 = .ok (.lconst 0, 1) := by decide +kernel
theorem dX6_oneAt_3 : decode cX6_oneAt 3 = .ok (.aload_n 0, 1) := by decide +kernel
theorem dX6_oneAt_4 : decode cX6_oneAt 4 = .ok (.invokevirtual 225, 3) := by decide +kernel
theorem dX6_oneAt_7 : decode cX6_oneAt 7 = .ok (.iconst 1, 1) := by decide +kernel
theorem dX6_oneAt_8 : decode cX6_oneAt 8 = .ok (.isub, 1) := by decide +kernel
theorem dX6_oneAt_9 : decode cX6_oneAt 9 = .ok (.i2l, 1) := by decide +kernel
theorem dX6_oneAt_10 : decode cX6_oneAt 10 = .ok (.invokestatic 71, 3) := by decide +kernel
theorem dX6_oneAt_13 : decode cX6_oneAt 13 = .ok (.ifCond .eq 12, 3) := by decide +kernel
theorem dX6_oneAt_16 : decode cX6_oneAt 16 = .ok (.aload_n 0, 1) := by decide +kernel
theorem dX6_oneAt_17 : decode cX6_oneAt 17 = .ok (.getfield 50, 3) := by decide +kernel
theorem dX6_oneAt_20 : decode cX6_oneAt 20 = .ok (.iload_n 1, 1) := by decide +kernel
theorem dX6_oneAt_21 : decode cX6_oneAt 21 = .ok (.iaload, 1) := by decide +kernel
theorem dX6_oneAt_22 : decode cX6_oneAt 22 = .ok (.goto 5, 3) := by decide +kernel
theorem dX6_oneAt_25 : decode cX6_oneAt 25 = .ok (.bipush (-9), 2) := by decide +kernel
theorem dX6_oneAt_27 : decode cX6_oneAt 27 = .ok (.ireturn, 1) := by decide +kernel
theorem dX6_same_0 : decode cX6_same 0 = .ok (.iload_n 1, 1) := by decide +kernel
theorem dX6_same_1 : decode cX6_same 1 = .ok (.i2l, 1) := by decide +kernel
theorem dX6_same_2 : decode cX6_same 2 = .ok (.lconst 0, 1) := by decide +kernel
theorem dX6_same_3 : decode cX6_same 3 = .ok (.ldc2_w 228, 3) := by decide +kernel
theorem dX6_same_6 : decode cX6_same 6 = .ok (.invokestatic 71, 3) := by decide +kernel
theorem dX6_same_9 : decode cX6_same 9 = .ok (.ifCond .ne 6, 3) := by decide +kernel
theorem dX6_same_12 : decode cX6_same 12 = .ok (.bipush (-2), 2) := by decide +kernel
theorem dX6_same_14 : decode cX6_same 14 = .ok (.ireturn, 1) := by decide +kernel
theorem dX6_same_15 : decode cX6_same 15 = .ok (.iload_n 1, 1) := by decide +kernel
theorem dX6_same_16 : decode cX6_same 16 = .ok (.iconst 2, 1) := by decide +kernel
theorem dX6_same_17 : decode cX6_same 17 = .ok (.irem, 1) := by decide +kernel
theorem dX6_same_18 : decode cX6_same 18 = .ok (.iconst 1, 1) := by decide +kernel
theorem dX6_same_19 : decode cX6_same 19 = .ok (.if_icmp .ne 7, 3) := by decide +kernel
theorem dX6_same_22 : decode cX6_same 22 = .ok (.iconst 1, 1) := by decide +kernel
theorem dX6_same_23 : decode cX6_same 23 = .ok (.goto 4, 3) := by decide +kernel
theorem dX6_same_26 : decode cX6_same 26 = .ok (.iconst 0, 1) := by decide +kernel
theorem dX6_same_27 : decode cX6_same 27 = .ok (.istore_n 2, 1) := by decide +kernel
theorem dX6_same_28 : decode cX6_same 28 = .ok (.iload_n 2, 1) := by decide +kernel
theorem dX6_same_29 : decode cX6_same 29 = .ok (.ifCond .eq 14, 3) := by decide +kernel
theorem dX6_same_32 : decode cX6_same 32 = .ok (.aload_n 0, 1) := by decide +kernel
theorem dX6_same_33 : decode cX6_same 33 = .ok (.getfield 62, 3) := by decide +kernel
theorem dX6_same_36 : decode cX6_same 36 = .ok (.aload_n 0, 1) := by decide +kernel
theorem dX6_same_37 : decode cX6_same 37 = .ok (.getfield 66, 3) := by decide +kernel
theorem dX6_same_40 : decode cX6_same 40 = .ok (.if_icmp .ne 7, 3) := by decide +kernel
theorem dX6_same_43 : decode cX6_same 43 = .ok (.iconst 1, 1) := by decide +kernel
theorem dX6_same_44 : decode cX6_same 44 = .ok (.goto 4, 3) := by decide +kernel
theorem dX6_same_47 : decode cX6_same 47 = .ok (.iconst 0, 1) := by decide +kernel
theorem dX6_same_48 : decode cX6_same 48 = .ok (.istore_n 3, 1) := by decide +kernel
theorem dX6_same_49 : decode cX6_same 49 = .ok (.iconst 0, 1) := by decide +kernel
theorem dX6_same_50 : decode cX6_same 50 = .ok (.istore 4, 2) := by decide +kernel
theorem dX6_same_52 : decode cX6_same 52 = .ok (.iload 4, 2) := by decide +kernel
theorem dX6_same_54 : decode cX6_same 54 = .ok (.sipush 169, 3) := by decide +kernel
theorem dX6_same_57 : decode cX6_same 57 = .ok (.if_icmp .ge 188, 3) := by decide +kernel
theorem dX6_same_60 : decode cX6_same 60 = .ok (.iload_n 3, 1) := by decide +kernel
theorem dX6_same_61 : decode cX6_same 61 = .ok (.ifCond .eq 184, 3) := by decide +kernel
theorem dX6_same_64 : decode cX6_same 64 = .ok (.aload_n 0, 1) := by decide +kernel
theorem dX6_same_65 : decode cX6_same 65 = .ok (.getfield 62, 3) := by decide +kernel
theorem dX6_same_68 : decode cX6_same 68 = .ok (.aload_n 0, 1) := by decide +kernel
theorem dX6_same_69 : decode cX6_same 69 = .ok (.getfield 66, 3) := by decide +kernel
theorem dX6_same_72 : decode cX6_same 72 = .ok (.iload 4, 2) := by decide +kernel
theorem dX6_same_74 : decode cX6_same 74 = .ok (.bipush 13, 2) := by decide +kernel
theorem dX6_same_76 : decode cX6_same 76 = .ok (.idiv, 1) := by decide +kernel
theorem dX6_same_77 : decode cX6_same 77 = .ok (.iload 4, 2) := by decide +kernel
theorem dX6_same_79 : decode cX6_same 79 = .ok (.bipush 13, 2) := by decide +kernel
theorem dX6_same_81 : decode cX6_same 81 = .ok (.irem, 1) := by decide +kernel
theorem dX6_same_82 : decode cX6_same 82 = .ok (.invokestatic 96, 3) := by decide +kernel
theorem dX6_same_85 : decode cX6_same 85 = .ok (.ifCond .eq 154, 3) := by decide +kernel
theorem dX6_same_88 : decode cX6_same 88 = .ok (.iload 4, 2) := by decide +kernel
theorem dX6_same_90 : decode cX6_same 90 = .ok (.bipush 13, 2) := by decide +kernel
theorem dX6_same_92 : decode cX6_same 92 = .ok (.idiv, 1) := by decide +kernel
theorem dX6_same_93 : decode cX6_same 93 = .ok (.istore 5, 2) := by decide +kernel
theorem dX6_same_95 : decode cX6_same 95 = .ok (.iload_n 1, 1) := by decide +kernel
theorem dX6_same_96 : decode cX6_same 96 = .ok (.iconst 4, 1) := by decide +kernel
theorem dX6_same_97 : decode cX6_same 97 = .ok (.if_icmp .ge 11, 3) := by decide +kernel
theorem dX6_same_100 : decode cX6_same 100 = .ok (.iload 4, 2) := by decide +kernel
theorem dX6_same_102 : decode cX6_same 102 = .ok (.bipush 13, 2) := by decide +kernel
theorem dX6_same_104 : decode cX6_same 104 = .ok (.irem, 1) := by decide +kernel
theorem dX6_same_105 : decode cX6_same 105 = .ok (.goto 15, 3) := by decide +kernel
theorem dX6_same_108 : decode cX6_same 108 = .ok (.iconst 2, 1) := by decide +kernel
theorem dX6_same_109 : decode cX6_same 109 = .ok (.aload_n 0, 1) := by decide +kernel
theorem dX6_same_110 : decode cX6_same 110 = .ok (.getfield 66, 3) := by decide +kernel
theorem dX6_same_113 : decode cX6_same 113 = .ok (.imul, 1) := by decide +kernel
theorem dX6_same_114 : decode cX6_same 114 = .ok (.iload 4, 2) := by decide +kernel
theorem dX6_same_116 : decode cX6_same 116 = .ok (.bipush 13, 2) := by decide +kernel
theorem dX6_same_118 : decode cX6_same 118 = .ok (.irem, 1) := by decide +kernel
theorem dX6_same_119 : decode cX6_same 119 = .ok (.isub, 1) := by decide +kernel
theorem dX6_same_120 : decode cX6_same 120 = .ok (.istore 6, 2) := by decide +kernel
theorem dX6_same_122 : decode cX6_same 122 = .ok (.iconst 2, 1) := by decide +kernel
theorem dX6_same_123 : decode cX6_same 123 = .ok (.aload_n 0, 1) := by decide +kernel
theorem dX6_same_124 : decode cX6_same 124 = .ok (.getfield 62, 3) := by decide +kernel
theorem dX6_same_127 : decode cX6_same 127 = .ok (.imul, 1) := by decide +kernel
theorem dX6_same_128 : decode cX6_same 128 = .ok (.istore 7, 2) := by decide +kernel
theorem dX6_same_130 : decode cX6_same 130 = .ok (.iconst 2, 1) := by decide +kernel
theorem dX6_same_131 : decode cX6_same 131 = .ok (.aload_n 0, 1) := by decide +kernel
theorem dX6_same_132 : decode cX6_same 132 = .ok (.getfield 66, 3) := by decide +kernel
theorem dX6_same_135 : decode cX6_same 135 = .ok (.imul, 1) := by decide +kernel
theorem dX6_same_136 : decode cX6_same 136 = .ok (.istore 8, 2) := by decide +kernel
theorem dX6_same_138 : decode cX6_same 138 = .ok (.iconst 0, 1) := by decide +kernel
theorem dX6_same_139 : decode cX6_same 139 = .ok (.istore 9, 2) := by decide +kernel
theorem dX6_same_141 : decode cX6_same 141 = .ok (.iload 9, 2) := by decide +kernel
theorem dX6_same_143 : decode cX6_same 143 = .ok (.iload_n 1, 1) := by decide +kernel
theorem dX6_same_144 : decode cX6_same 144 = .ok (.iconst 4, 1) := by decide +kernel
theorem dX6_same_145 : decode cX6_same 145 = .ok (.irem, 1) := by decide +kernel
theorem dX6_same_146 : decode cX6_same 146 = .ok (.if_icmp .ge 36, 3) := by decide +kernel
theorem dX6_same_149 : decode cX6_same 149 = .ok (.iload 5, 2) := by decide +kernel
theorem dX6_same_151 : decode cX6_same 151 = .ok (.istore 10, 2) := by decide +kernel
theorem dX6_same_153 : decode cX6_same 153 = .ok (.iload 6, 2) := by decide +kernel
theorem dX6_same_155 : decode cX6_same 155 = .ok (.istore 5, 2) := by decide +kernel
theorem dX6_same_157 : decode cX6_same 157 = .ok (.iload 7, 2) := by decide +kernel
theorem dX6_same_159 : decode cX6_same 159 = .ok (.iload 10, 2) := by decide +kernel
theorem dX6_same_161 : decode cX6_same 161 = .ok (.isub, 1) := by decide +kernel
theorem dX6_same_162 : decode cX6_same 162 = .ok (.istore 6, 2) := by decide +kernel
theorem dX6_same_164 : decode cX6_same 164 = .ok (.iload 7, 2) := by decide +kernel
theorem dX6_same_166 : decode cX6_same 166 = .ok (.istore 11, 2) := by decide +kernel
theorem dX6_same_168 : decode cX6_same 168 = .ok (.iload 8, 2) := by decide +kernel
theorem dX6_same_170 : decode cX6_same 170 = .ok (.istore 7, 2) := by decide +kernel
theorem dX6_same_172 : decode cX6_same 172 = .ok (.iload 11, 2) := by decide +kernel
theorem dX6_same_174 : decode cX6_same 174 = .ok (.istore 8, 2) := by decide +kernel
theorem dX6_same_176 : decode cX6_same 176 = .ok (.iinc 9 1, 3) := by decide +kernel
theorem dX6_same_179 : decode cX6_same 179 = .ok (.goto (-38), 3) := by decide +kernel
theorem dX6_same_182 : decode cX6_same 182 = .ok (.aload_n 0, 1) := by decide +kernel
theorem dX6_same_183 : decode cX6_same 183 = .ok (.getfield 7, 3) := by decide +kernel
theorem dX6_same_186 : decode cX6_same 186 = .ok (.iload 4, 2) := by decide +kernel
theorem dX6_same_188 : decode cX6_same 188 = .ok (.iaload, 1) := by decide +kernel
theorem dX6_same_189 : decode cX6_same 189 = .ok (.iconst 3, 1) := by decide +kernel
theorem dX6_same_190 : decode cX6_same 190 = .ok (.irem, 1) := by decide +kernel
theorem dX6_same_191 : decode cX6_same 191 = .ok (.istore 9, 2) := by decide +kernel
theorem dX6_same_193 : decode cX6_same 193 = .ok (.iload_n 2, 1) := by decide +kernel
theorem dX6_same_194 : decode cX6_same 194 = .ok (.ifCond .eq 15, 3) := by decide +kernel
theorem dX6_same_197 : decode cX6_same 197 = .ok (.iload 9, 2) := by decide +kernel
theorem dX6_same_199 : decode cX6_same 199 = .ok (.ifCond .le 10, 3) := by decide +kernel
theorem dX6_same_202 : decode cX6_same 202 = .ok (.iconst 3, 1) := by decide +kernel
theorem dX6_same_203 : decode cX6_same 203 = .ok (.iload 9, 2) := by decide +kernel
theorem dX6_same_205 : decode cX6_same 205 = .ok (.isub, 1) := by decide +kernel
theorem dX6_same_206 : decode cX6_same 206 = .ok (.goto 5, 3) := by decide +kernel
theorem dX6_same_209 : decode cX6_same 209 = .ok (.iload 9, 2) := by decide +kernel
theorem dX6_same_211 : decode cX6_same 211 = .ok (.istore 10, 2) := by decide +kernel
theorem dX6_same_213 : decode cX6_same 213 = .ok (.aload_n 0, 1) := by decide +kernel
theorem dX6_same_214 : decode cX6_same 214 = .ok (.getfield 7, 3) := by decide +kernel
theorem dX6_same_217 : decode cX6_same 217 = .ok (.bipush 13, 2) := by decide +kernel
theorem dX6_same_219 : decode cX6_same 219 = .ok (.iload 5, 2) := by decide +kernel
theorem dX6_same_221 : decode cX6_same 221 = .ok (.imul, 1) := by decide +kernel
theorem dX6_same_222 : decode cX6_same 222 = .ok (.iload 6, 2) := by decide +kernel
theorem dX6_same_224 : decode cX6_same 224 = .ok (.iadd, 1) := by decide +kernel
theorem dX6_same_225 : decode cX6_same 225 = .ok (.iaload, 1) := by decide +kernel
theorem dX6_same_226 : decode cX6_same 226 = .ok (.iconst 3, 1) := by decide +kernel
theorem dX6_same_227 : decode cX6_same 227 = .ok (.irem, 1) := by decide +kernel
theorem dX6_same_228 : decode cX6_same 228 = .ok (.iload 10, 2) := by decide +kernel
theorem dX6_same_230 : decode cX6_same 230 = .ok (.if_icmp .ne 7, 3) := by decide +kernel
theorem dX6_same_233 : decode cX6_same 233 = .ok (.iconst 1, 1) := by decide +kernel
theorem dX6_same_234 : decode cX6_same 234 = .ok (.goto 4, 3) := by decide +kernel
theorem dX6_same_237 : decode cX6_same 237 = .ok (.iconst 0, 1) := by decide +kernel
theorem dX6_same_238 : decode cX6_same 238 = .ok (.istore_n 3, 1) := by decide +kernel
theorem dX6_same_239 : decode cX6_same 239 = .ok (.iinc 4 1, 3) := by decide +kernel
theorem dX6_same_242 : decode cX6_same 242 = .ok (.goto (-190), 3) := by decide +kernel
theorem dX6_same_245 : decode cX6_same 245 = .ok (.iload_n 3, 1) := by decide +kernel
theorem dX6_same_246 : decode cX6_same 246 = .ok (.ifCond .eq 7, 3) := by decide +kernel
theorem dX6_same_249 : decode cX6_same 249 = .ok (.iconst 1, 1) := by decide +kernel
theorem dX6_same_250 : decode cX6_same 250 = .ok (.goto 4, 3) := by decide +kernel
theorem dX6_same_253 : decode cX6_same 253 = .ok (.iconst 0, 1) := by decide +kernel
theorem dX6_same_254 : decode cX6_same 254 = .ok (.ireturn, 1) := by decide +kernel
theorem dX6_keep_0 : decode cX6_keep 0 = .ok (.iload_n 1, 1) := by decide +kernel
theorem dX6_keep_1 : decode cX6_keep 1 = .ok (.i2l, 1) := by decide +kernel
theorem dX6_keep_2 : decode cX6_keep 2 = .ok (.lconst 0, 1) := by decide +kernel
theorem dX6_keep_3 : decode cX6_keep 3 = .ok (.lconst 1, 1) := by decide +kernel
theorem dX6_keep_4 : decode cX6_keep 4 = .ok (.invokestatic 71, 3) := by decide +kernel
theorem dX6_keep_7 : decode cX6_keep 7 = .ok (.ifCond .ne 5, 3) := by decide +kernel
theorem dX6_keep_10 : decode cX6_keep 10 = .ok (.iconst (-1), 1) := by decide +kernel
theorem dX6_keep_11 : decode cX6_keep 11 = .ok (.ireturn, 1) := by decide +kernel
theorem dX6_keep_12 : decode cX6_keep 12 = .ok (.aload_n 0, 1) := by decide +kernel
theorem dX6_keep_13 : decode cX6_keep 13 = .ok (.getfield 53, 3) := by decide +kernel
theorem dX6_keep_16 : decode cX6_keep 16 = .ok (.iload_n 1, 1) := by decide +kernel
theorem dX6_keep_17 : decode cX6_keep 17 = .ok (.iconst 1, 1) := by decide +kernel
theorem dX6_keep_18 : decode cX6_keep 18 = .ok (.bastore, 1) := by decide +kernel
theorem dX6_keep_19 : decode cX6_keep 19 = .ok (.iconst 0, 1) := by decide +kernel
theorem dX6_keep_20 : decode cX6_keep 20 = .ok (.istore_n 2, 1) := by decide +kernel
theorem dX6_keep_21 : decode cX6_keep 21 = .ok (.iload_n 2, 1) := by decide +kernel
theorem dX6_keep_22 : decode cX6_keep 22 = .ok (.sipush 169, 3) := by decide +kernel
theorem dX6_keep_25 : decode cX6_keep 25 = .ok (.if_icmp .ge 27, 3) := by decide +kernel
theorem dX6_keep_28 : decode cX6_keep 28 = .ok (.aload_n 0, 1) := by decide +kernel
theorem dX6_keep_29 : decode cX6_keep 29 = .ok (.getfield 56, 3) := by decide +kernel
theorem dX6_keep_32 : decode cX6_keep 32 = .ok (.sipush 169, 3) := by decide +kernel
theorem dX6_keep_35 : decode cX6_keep 35 = .ok (.iload_n 1, 1) := by decide +kernel
theorem dX6_keep_36 : decode cX6_keep 36 = .ok (.imul, 1) := by decide +kernel
theorem dX6_keep_37 : decode cX6_keep 37 = .ok (.iload_n 2, 1) := by decide +kernel
theorem dX6_keep_38 : decode cX6_keep 38 = .ok (.iadd, 1) := by decide +kernel
theorem dX6_keep_39 : decode cX6_keep 39 = .ok (.aload_n 0, 1) := by decide +kernel
theorem dX6_keep_40 : decode cX6_keep 40 = .ok (.getfield 7, 3) := by decide +kernel
theorem dX6_keep_43 : decode cX6_keep 43 = .ok (.iload_n 2, 1) := by decide +kernel
theorem dX6_keep_44 : decode cX6_keep 44 = .ok (.iaload, 1) := by decide +kernel
theorem dX6_keep_45 : decode cX6_keep 45 = .ok (.iastore, 1) := by decide +kernel
theorem dX6_keep_46 : decode cX6_keep 46 = .ok (.iinc 2 1, 3) := by decide +kernel
theorem dX6_keep_49 : decode cX6_keep 49 = .ok (.goto (-28), 3) := by decide +kernel
theorem dX6_keep_52 : decode cX6_keep 52 = .ok (.aload_n 0, 1) := by decide +kernel
theorem dX6_keep_53 : decode cX6_keep 53 = .ok (.getfield 59, 3) := by decide +kernel
theorem dX6_keep_56 : decode cX6_keep 56 = .ok (.iconst 2, 1) := by decide +kernel
theorem dX6_keep_57 : decode cX6_keep 57 = .ok (.iload_n 1, 1) := by decide +kernel
theorem dX6_keep_58 : decode cX6_keep 58 = .ok (.imul, 1) := by decide +kernel
theorem dX6_keep_59 : decode cX6_keep 59 = .ok (.aload_n 0, 1) := by decide +kernel
theorem dX6_keep_60 : decode cX6_keep 60 = .ok (.getfield 62, 3) := by decide +kernel
theorem dX6_keep_63 : decode cX6_keep 63 = .ok (.iastore, 1) := by decide +kernel
theorem dX6_keep_64 : decode cX6_keep 64 = .ok (.aload_n 0, 1) := by decide +kernel
theorem dX6_keep_65 : decode cX6_keep 65 = .ok (.getfield 59, 3) := by decide +kernel
theorem dX6_keep_68 : decode cX6_keep 68 = .ok (.iconst 2, 1) := by decide +kernel
theorem dX6_keep_69 : decode cX6_keep 69 = .ok (.iload_n 1, 1) := by decide +kernel
theorem dX6_keep_70 : decode cX6_keep 70 = .ok (.imul, 1) := by decide +kernel
theorem dX6_keep_71 : decode cX6_keep 71 = .ok (.iconst 1, 1) := by decide +kernel
theorem dX6_keep_72 : decode cX6_keep 72 = .ok (.iadd, 1) := by decide +kernel
theorem dX6_keep_73 : decode cX6_keep 73 = .ok (.aload_n 0, 1) := by decide +kernel
theorem dX6_keep_74 : decode cX6_keep 74 = .ok (.getfield 66, 3) := by decide +kernel
theorem dX6_keep_77 : decode cX6_keep 77 = .ok (.iastore, 1) := by decide +kernel
theorem dX6_keep_78 : decode cX6_keep 78 = .ok (.aload_n 0, 1) := by decide +kernel
theorem dX6_keep_79 : decode cX6_keep 79 = .ok (.invokevirtual 115, 3) := by decide +kernel
theorem dX6_keep_82 : decode cX6_keep 82 = .ok (.ireturn, 1) := by decide +kernel
theorem dX6_again_0 : decode cX6_again 0 = .ok (.iload_n 1, 1) := by decide +kernel
theorem dX6_again_1 : decode cX6_again 1 = .ok (.i2l, 1) := by decide +kernel
theorem dX6_again_2 : decode cX6_again 2 = .ok (.lconst 0, 1) := by decide +kernel
theorem dX6_again_3 : decode cX6_again 3 = .ok (.lconst 1, 1) := by decide +kernel
theorem dX6_again_4 : decode cX6_again 4 = .ok (.invokestatic 71, 3) := by decide +kernel
theorem dX6_again_7 : decode cX6_again 7 = .ok (.ifCond .ne 5, 3) := by decide +kernel
theorem dX6_again_10 : decode cX6_again 10 = .ok (.iconst (-1), 1) := by decide +kernel
theorem dX6_again_11 : decode cX6_again 11 = .ok (.ireturn, 1) := by decide +kernel
theorem dX6_again_12 : decode cX6_again 12 = .ok (.aload_n 0, 1) := by decide +kernel
theorem dX6_again_13 : decode cX6_again 13 = .ok (.getfield 53, 3) := by decide +kernel
theorem dX6_again_16 : decode cX6_again 16 = .ok (.iload_n 1, 1) := by decide +kernel
theorem dX6_again_17 : decode cX6_again 17 = .ok (.baload, 1) := by decide +kernel
theorem dX6_again_18 : decode cX6_again 18 = .ok (.ifCond .ne 6, 3) := by decide +kernel
theorem dX6_again_21 : decode cX6_again 21 = .ok (.bipush (-3), 2) := by decide +kernel
theorem dX6_again_23 : decode cX6_again 23 = .ok (.ireturn, 1) := by decide +kernel
theorem dX6_again_24 : decode cX6_again 24 = .ok (.iconst 0, 1) := by decide +kernel
theorem dX6_again_25 : decode cX6_again 25 = .ok (.istore_n 2, 1) := by decide +kernel
theorem dX6_again_26 : decode cX6_again 26 = .ok (.iload_n 2, 1) := by decide +kernel
theorem dX6_again_27 : decode cX6_again 27 = .ok (.sipush 169, 3) := by decide +kernel
theorem dX6_again_30 : decode cX6_again 30 = .ok (.if_icmp .ge 27, 3) := by decide +kernel
theorem dX6_again_33 : decode cX6_again 33 = .ok (.aload_n 0, 1) := by decide +kernel
theorem dX6_again_34 : decode cX6_again 34 = .ok (.getfield 7, 3) := by decide +kernel
theorem dX6_again_37 : decode cX6_again 37 = .ok (.iload_n 2, 1) := by decide +kernel
theorem dX6_again_38 : decode cX6_again 38 = .ok (.aload_n 0, 1) := by decide +kernel
theorem dX6_again_39 : decode cX6_again 39 = .ok (.getfield 56, 3) := by decide +kernel
theorem dX6_again_42 : decode cX6_again 42 = .ok (.sipush 169, 3) := by decide +kernel
theorem dX6_again_45 : decode cX6_again 45 = .ok (.iload_n 1, 1) := by decide +kernel
theorem dX6_again_46 : decode cX6_again 46 = .ok (.imul, 1) := by decide +kernel
theorem dX6_again_47 : decode cX6_again 47 = .ok (.iload_n 2, 1) := by decide +kernel
theorem dX6_again_48 : decode cX6_again 48 = .ok (.iadd, 1) := by decide +kernel
theorem dX6_again_49 : decode cX6_again 49 = .ok (.iaload, 1) := by decide +kernel
theorem dX6_again_50 : decode cX6_again 50 = .ok (.iastore, 1) := by decide +kernel
theorem dX6_again_51 : decode cX6_again 51 = .ok (.iinc 2 1, 3) := by decide +kernel
theorem dX6_again_54 : decode cX6_again 54 = .ok (.goto (-28), 3) := by decide +kernel
theorem dX6_again_57 : decode cX6_again 57 = .ok (.aload_n 0, 1) := by decide +kernel
theorem dX6_again_58 : decode cX6_again 58 = .ok (.aload_n 0, 1) := by decide +kernel
theorem dX6_again_59 : decode cX6_again 59 = .ok (.getfield 59, 3) := by decide +kernel
theorem dX6_again_62 : decode cX6_again 62 = .ok (.iconst 2, 1) := by decide +kernel
theorem dX6_again_63 : decode cX6_again 63 = .ok (.iload_n 1, 1) := by decide +kernel
theorem dX6_again_64 : decode cX6_again 64 = .ok (.imul, 1) := by decide +kernel
theorem dX6_again_65 : decode cX6_again 65 = .ok (.iaload, 1) := by decide +kernel
theorem dX6_again_66 : decode cX6_again 66 = .ok (.putfield 62, 3) := by decide +kernel
theorem dX6_again_69 : decode cX6_again 69 = .ok (.aload_n 0, 1) := by decide +kernel
theorem dX6_again_70 : decode cX6_again 70 = .ok (.aload_n 0, 1) := by decide +kernel
theorem dX6_again_71 : decode cX6_again 71 = .ok (.getfield 59, 3) := by decide +kernel
theorem dX6_again_74 : decode cX6_again 74 = .ok (.iconst 2, 1) := by decide +kernel
theorem dX6_again_75 : decode cX6_again 75 = .ok (.iload_n 1, 1) := by decide +kernel
theorem dX6_again_76 : decode cX6_again 76 = .ok (.imul, 1) := by decide +kernel
theorem dX6_again_77 : decode cX6_again 77 = .ok (.iconst 1, 1) := by decide +kernel
theorem dX6_again_78 : decode cX6_again 78 = .ok (.iadd, 1) := by decide +kernel
theorem dX6_again_79 : decode cX6_again 79 = .ok (.iaload, 1) := by decide +kernel
theorem dX6_again_80 : decode cX6_again 80 = .ok (.putfield 66, 3) := by decide +kernel
theorem dX6_again_83 : decode cX6_again 83 = .ok (.aload_n 0, 1) := by decide +kernel
theorem dX6_again_84 : decode cX6_again 84 = .ok (.invokevirtual 115, 3) := by decide +kernel
theorem dX6_again_87 : decode cX6_again 87 = .ok (.ireturn, 1) := by decide +kernel
theorem dJ9_max_7cf53_0 : decode cJ9_max_7cf53 0 = .ok (.iload_n 0, 1) := by decide +kernel
theorem dJ9_max_7cf53_1 : decode cJ9_max_7cf53 1 = .ok (.iload_n 1, 1) := by decide +kernel
theorem dJ9_max_7cf53_2 : decode cJ9_max_7cf53 2 = .ok (.if_icmp .lt 7, 3) := by decide +kernel
theorem dJ9_max_7cf53_5 : decode cJ9_max_7cf53 5 = .ok (.iload_n 0, 1) := by decide +kernel
theorem dJ9_max_7cf53_6 : decode cJ9_max_7cf53 6 = .ok (.goto 4, 3) := by decide +kernel
theorem dJ9_max_7cf53_9 : decode cJ9_max_7cf53 9 = .ok (.iload_n 1, 1) := by decide +kernel
theorem dJ9_max_7cf53_10 : decode cJ9_max_7cf53 10 = .ok (.ireturn, 1) := by decide +kernel
theorem dJ9_min_7cf53_0 : decode cJ9_min_7cf53 0 = .ok (.iload_n 0, 1) := by decide +kernel
theorem dJ9_min_7cf53_1 : decode cJ9_min_7cf53 1 = .ok (.iload_n 1, 1) := by decide +kernel
theorem dJ9_min_7cf53_2 : decode cJ9_min_7cf53 2 = .ok (.if_icmp .gt 7, 3) := by decide +kernel
theorem dJ9_min_7cf53_5 : decode cJ9_min_7cf53 5 = .ok (.iload_n 0, 1) := by decide +kernel
theorem dJ9_min_7cf53_6 : decode cJ9_min_7cf53 6 = .ok (.goto 4, 3) := by decide +kernel
theorem dJ9_min_7cf53_9 : decode cJ9_min_7cf53 9 = .ok (.iload_n 1, 1) := by decide +kernel
theorem dJ9_min_7cf53_10 : decode cJ9_min_7cf53 10 = .ok (.ireturn, 1) := by decide +kernel
theorem dJ7_fill_53178_0 : decode cJ7_fill_53178 0 = .ok (.iconst 0, 1) := by decide +kernel
theorem dJ7_fill_53178_1 : decode cJ7_fill_53178 1 = .ok (.istore_n 2, 1) := by decide +kernel
theorem dJ7_fill_53178_2 : decode cJ7_fill_53178 2 = .ok (.aload_n 0, 1) := by decide +kernel
theorem dJ7_fill_53178_3 : decode cJ7_fill_53178 3 = .ok (.arraylength, 1) := by decide +kernel
theorem dJ7_fill_53178_4 : decode cJ7_fill_53178 4 = .ok (.istore_n 3, 1) := by decide +kernel
theorem dJ7_fill_53178_5 : decode cJ7_fill_53178 5 = .ok (.iload_n 2, 1) := by decide +kernel
theorem dJ7_fill_53178_6 : decode cJ7_fill_53178 6 = .ok (.iload_n 3, 1) := by decide +kernel
theorem dJ7_fill_53178_7 : decode cJ7_fill_53178 7 = .ok (.if_icmp .ge 13, 3) := by decide +kernel
theorem dJ7_fill_53178_10 : decode cJ7_fill_53178 10 = .ok (.aload_n 0, 1) := by decide +kernel
theorem dJ7_fill_53178_11 : decode cJ7_fill_53178 11 = .ok (.iload_n 2, 1) := by decide +kernel
theorem dJ7_fill_53178_12 : decode cJ7_fill_53178 12 = .ok (.iload_n 1, 1) := by decide +kernel
theorem dJ7_fill_53178_13 : decode cJ7_fill_53178 13 = .ok (.iastore, 1) := by decide +kernel
theorem dJ7_fill_53178_14 : decode cJ7_fill_53178 14 = .ok (.iinc 2 1, 3) := by decide +kernel
theorem dJ7_fill_53178_17 : decode cJ7_fill_53178 17 = .ok (.goto (-12), 3) := by decide +kernel
theorem dJ7_fill_53178_20 : decode cJ7_fill_53178 20 = .ok (.return_, 1) := by decide +kernel
