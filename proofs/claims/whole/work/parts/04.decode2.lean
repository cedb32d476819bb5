theorem dX4_readPart_57 : decode cX4_readPart 57 = .ok (.invokevirtual 55, 3) := by decide +kernel
theorem dX4_readPart_60 : decode cX4_readPart 60 = .ok (.ireturn, 1) := by decide +kernel
theorem dX4_readPart_61 : decode cX4_readPart 61 = .ok (.aload_n 1, 1) := by decide +kernel
theorem dX4_readPart_62 : decode cX4_readPart 62 = .ok (.aload_n 0, 1) := by decide +kernel
theorem dX4_readPart_63 : decode cX4_readPart 63 = .ok (.getfield 52, 3) := by decide +kernel
theorem dX4_readPart_66 : decode cX4_readPart 66 = .ok (.iload_n 3, 1) := by decide +kernel
theorem dX4_readPart_67 : decode cX4_readPart 67 = .ok (.invokestatic 26, 3) := by decide +kernel
theorem dX4_readPart_70 : decode cX4_readPart 70 = .ok (.invokevirtual 58, 3) := by decide +kernel
theorem dX4_readPart_73 : decode cX4_readPart 73 = .ok (.istore 4, 2) := by decide +kernel
theorem dX4_readPart_75 : decode cX4_readPart 75 = .ok (.iload 4, 2) := by decide +kernel
theorem dX4_readPart_77 : decode cX4_readPart 77 = .ok (.ifCond .lt 12, 3) := by decide +kernel
theorem dX4_readPart_80 : decode cX4_readPart 80 = .ok (.aload_n 1, 1) := by decide +kernel
theorem dX4_readPart_81 : decode cX4_readPart 81 = .ok (.iload 4, 2) := by decide +kernel
theorem dX4_readPart_83 : decode cX4_readPart 83 = .ok (.invokevirtual 62, 3) := by decide +kernel
theorem dX4_readPart_86 : decode cX4_readPart 86 = .ok (.ifCond .eq 5, 3) := by decide +kernel
theorem dX4_readPart_89 : decode cX4_readPart 89 = .ok (.iconst 0, 1) := by decide +kernel
theorem dX4_readPart_90 : decode cX4_readPart 90 = .ok (.ireturn, 1) := by decide +kernel
theorem dX4_readPart_91 : decode cX4_readPart 91 = .ok (.aload_n 1, 1) := by decide +kernel
theorem dX4_readPart_92 : decode cX4_readPart 92 = .ok (.iload 4, 2) := by decide +kernel
theorem dX4_readPart_94 : decode cX4_readPart 94 = .ok (.aload_n 0, 1) := by decide +kernel
theorem dX4_readPart_95 : decode cX4_readPart 95 = .ok (.getfield 46, 3) := by decide +kernel
theorem dX4_readPart_98 : decode cX4_readPart 98 = .ok (.invokevirtual 65, 3) := by decide +kernel
theorem dX4_readPart_101 : decode cX4_readPart 101 = .ok (.iconst 1, 1) := by decide +kernel
theorem dX4_readPart_102 : decode cX4_readPart 102 = .ok (.ireturn, 1) := by decide +kernel
theorem dX4_kindBy_0 : decode cX4_kindBy 0 = .ok (.iload_n 0, 1) := by decide +kernel
theorem dX4_kindBy_1 : decode cX4_kindBy 1 = .ok (.lookupswitch 41 #[(72, 35), (79, 39), (86, 37)], 35) := by decide +kernel
theorem dX4_kindBy_36 : decode cX4_kindBy 36 = .ok (.iconst 1, 1) := by decide +kernel
theorem dX4_kindBy_37 : decode cX4_kindBy 37 = .ok (.ireturn, 1) := by decide +kernel
theorem dX4_kindBy_38 : decode cX4_kindBy 38 = .ok (.iconst 2, 1) := by decide +kernel
theorem dX4_kindBy_39 : decode cX4_kindBy 39 = .ok (.ireturn, 1) := by decide +kernel
theorem dX4_kindBy_40 : decode cX4_kindBy 40 = .ok (.iconst 3, 1) := by decide +kernel
theorem dX4_kindBy_41 : decode cX4_kindBy 41 = .ok (.ireturn, 1) := by decide +kernel
theorem dX4_kindBy_42 : decode cX4_kindBy 42 = .ok (.bipush (-9), 2) := by decide +kernel
theorem dX4_kindBy_44 : decode cX4_kindBy 44 = .ok (.ireturn, 1) := by decide +kernel
theorem dX4_digit_0 : decode cX4_digit 0 = .ok (.iload_n 0, 1) := by decide +kernel
theorem dX4_digit_1 : decode cX4_digit 1 = .ok (.bipush 48, 2) := by decide +kernel
theorem dX4_digit_3 : decode cX4_digit 3 = .ok (.if_icmp .lt 14, 3) := by decide +kernel
theorem dX4_digit_6 : decode cX4_digit 6 = .ok (.iload_n 0, 1) := by decide +kernel
theorem dX4_digit_7 : decode cX4_digit 7 = .ok (.bipush 57, 2) := by decide +kernel
theorem dX4_digit_9 : decode cX4_digit 9 = .ok (.if_icmp .gt 8, 3) := by decide +kernel
theorem dX4_digit_12 : decode cX4_digit 12 = .ok (.iload_n 0, 1) := by decide +kernel
theorem dX4_digit_13 : decode cX4_digit 13 = .ok (.bipush 48, 2) := by decide +kernel
theorem dX4_digit_15 : decode cX4_digit 15 = .ok (.isub, 1) := by decide +kernel
theorem dX4_digit_16 : decode cX4_digit 16 = .ok (.ireturn, 1) := by decide +kernel
theorem dX4_digit_17 : decode cX4_digit 17 = .ok (.iload_n 0, 1) := by decide +kernel
theorem dX4_digit_18 : decode cX4_digit 18 = .ok (.bipush 97, 2) := by decide +kernel
theorem dX4_digit_20 : decode cX4_digit 20 = .ok (.if_icmp .ne 8, 3) := by decide +kernel
theorem dX4_digit_23 : decode cX4_digit 23 = .ok (.bipush 10, 2) := by decide +kernel
theorem dX4_digit_25 : decode cX4_digit 25 = .ok (.goto 16, 3) := by decide +kernel
theorem dX4_digit_28 : decode cX4_digit 28 = .ok (.iload_n 0, 1) := by decide +kernel
theorem dX4_digit_29 : decode cX4_digit 29 = .ok (.bipush 98, 2) := by decide +kernel
theorem dX4_digit_31 : decode cX4_digit 31 = .ok (.if_icmp .ne 8, 3) := by decide +kernel
theorem dX4_digit_34 : decode cX4_digit 34 = .ok (.bipush 11, 2) := by decide +kernel
theorem dX4_digit_36 : decode cX4_digit 36 = .ok (.goto 5, 3) := by decide +kernel
theorem dX4_digit_39 : decode cX4_digit 39 = .ok (.bipush (-9), 2) := by decide +kernel
theorem dX4_digit_41 : decode cX4_digit 41 = .ok (.ireturn, 1) := by decide +kernel
theorem dX5_init_0 : decode cX5_init 0 = .ok (.aload_n 0, 1) := by decide +kernel
theorem dX5_init_1 : decode cX5_init 1 = .ok (.invokespecial 3, 3) := by decide +kernel
theorem dX5_init_4 : decode cX5_init 4 = .ok (.aload_n 0, 1) := by decide +kernel
theorem dX5_init_5 : decode cX5_init 5 = .ok (.new 9, 3) := by decide +kernel
theorem dX5_init_8 : decode cX5_init 8 = .ok (.dup, 1) := by decide +kernel
theorem dX5_init_9 : decode cX5_init 9 = .ok (.invokespecial 11, 3) := by decide +kernel
theorem dX5_init_12 : decode cX5_init 12 = .ok (.putfield 12, 3) := by decide +kernel
theorem dX5_init_15 : decode cX5_init 15 = .ok (.aload_n 0, 1) := by decide +kernel
theorem dX5_init_16 : decode cX5_init 16 = .ok (.new 16, 3) := by decide +kernel
theorem dX5_init_19 : decode cX5_init 19 = .ok (.dup, 1) := by decide +kernel
theorem dX5_init_20 : decode cX5_init 20 = .ok (.invokespecial 18, 3) := by decide +kernel
theorem dX5_init_23 : decode cX5_init 23 = .ok (.putfield 19, 3) := by decide +kernel
theorem dX5_init_26 : decode cX5_init 26 = .ok (.aload_n 0, 1) := by decide +kernel
theorem dX5_init_27 : decode cX5_init 27 = .ok (.new 23, 3) := by decide +kernel
theorem dX5_init_30 : decode cX5_init 30 = .ok (.dup, 1) := by decide +kernel
theorem dX5_init_31 : decode cX5_init 31 = .ok (.invokespecial 25, 3) := by decide +kernel
theorem dX5_init_34 : decode cX5_init 34 = .ok (.putfield 26, 3) := by decide +kernel
theorem dX5_init_37 : decode cX5_init 37 = .ok (.aload_n 0, 1) := by decide +kernel
theorem dX5_init_38 : decode cX5_init 38 = .ok (.new 30, 3) := by decide +kernel
theorem dX5_init_41 : decode cX5_init 41 = .ok (.dup, 1) := by decide +kernel
theorem dX5_init_42 : decode cX5_init 42 = .ok (.invokespecial 32, 3) := by decide +kernel
theorem dX5_init_45 : decode cX5_init 45 = .ok (.putfield 33, 3) := by decide +kernel
theorem dX5_init_48 : decode cX5_init 48 = .ok (.aload_n 0, 1) := by decide +kernel
theorem dX5_init_49 : decode cX5_init 49 = .ok (.new 37, 3) := by decide +kernel
theorem dX5_init_52 : decode cX5_init 52 = .ok (.dup, 1) := by decide +kernel
theorem dX5_init_53 : decode cX5_init 53 = .ok (.invokespecial 39, 3) := by decide +kernel
theorem dX5_init_56 : decode cX5_init 56 = .ok (.putfield 40, 3) := by decide +kernel
theorem dX5_init_59 : decode cX5_init 59 = .ok (.aload_n 0, 1) := by decide +kernel
theorem dX5_init_60 : decode cX5_init 60 = .ok (.new 16, 3) := by decide +kernel
theorem dX5_init_63 : decode cX5_init 63 = .ok (.dup, 1) := by decide +kernel
theorem dX5_init_64 : decode cX5_init 64 = .ok (.invokespecial 18, 3) := by decide +kernel
theorem dX5_init_67 : decode cX5_init 67 = .ok (.putfield 44, 3) := by decide +kernel
theorem dX5_init_70 : decode cX5_init 70 = .ok (.aload_n 0, 1) := by decide +kernel
theorem dX5_init_71 : decode cX5_init 71 = .ok (.new 16, 3) := by decide +kernel
theorem dX5_init_74 : decode cX5_init 74 = .ok (.dup, 1) := by decide +kernel
theorem dX5_init_75 : decode cX5_init 75 = .ok (.invokespecial 18, 3) := by decide +kernel
theorem dX5_init_78 : decode cX5_init 78 = .ok (.putfield 47, 3) := by decide +kernel
theorem dX5_init_81 : decode cX5_init 81 = .ok (.aload_n 0, 1) := by decide +kernel
theorem dX5_init_82 : decode cX5_init 82 = .ok (.new 23, 3) := by decide +kernel
theorem dX5_init_85 : decode cX5_init 85 = .ok (.dup, 1) := by decide +kernel
theorem dX5_init_86 : decode cX5_init 86 = .ok (.invokespecial 25, 3) := by decide +kernel
theorem dX5_init_89 : decode cX5_init 89 = .ok (.putfield 50, 3) := by decide +kernel
theorem dX5_init_92 : decode cX5_init 92 = .ok (.aload_n 0, 1) := by decide +kernel
theorem dX5_init_93 : decode cX5_init 93 = .ok (.iconst 2, 1) := by decide +kernel
theorem dX5_init_94 : decode cX5_init 94 = .ok (.anewarray 16, 3) := by decide +kernel
theorem dX5_init_97 : decode cX5_init 97 = .ok (.putfield 53, 3) := by decide +kernel
theorem dX5_init_100 : decode cX5_init 100 = .ok (.aload_n 0, 1) := by decide +kernel
theorem dX5_init_101 : decode cX5_init 101 = .ok (.getfield 19, 3) := by decide +kernel
theorem dX5_init_104 : decode cX5_init 104 = .ok (.iconst 1, 1) := by decide +kernel
theorem dX5_init_105 : decode cX5_init 105 = .ok (.iconst 1, 1) := by decide +kernel
theorem dX5_init_106 : decode cX5_init 106 = .ok (.invokevirtual 57, 3) := by decide +kernel
theorem dX5_init_109 : decode cX5_init 109 = .ok (.aload_n 0, 1) := by decide +kernel
theorem dX5_init_110 : decode cX5_init 110 = .ok (.invokevirtual 61, 3) := by decide +kernel
theorem dX5_init_113 : decode cX5_init 113 = .ok (.return_, 1) := by decide +kernel
theorem dX5_write_0 : decode cX5_write 0 = .ok (.iload_n 1, 1) := by decide +kernel
theorem dX5_write_1 : decode cX5_write 1 = .ok (.iconst 1, 1) := by decide +kernel
theorem dX5_write_2 : decode cX5_write 2 = .ok (.if_icmp .lt 9, 3) := by decide +kernel
theorem dX5_write_5 : decode cX5_write 5 = .ok (.iload_n 1, 1) := by decide +kernel
theorem dX5_write_6 : decode cX5_write 6 = .ok (.bipush 8, 2) := by decide +kernel
theorem dX5_write_8 : decode cX5_write 8 = .ok (.if_icmp .le 6, 3) := by decide +kernel
theorem dX5_write_11 : decode cX5_write 11 = .ok (.bipush (-2), 2) := by decide +kernel
theorem dX5_write_13 : decode cX5_write 13 = .ok (.ireturn, 1) := by decide +kernel
theorem dX5_write_14 : decode cX5_write 14 = .ok (.aload_n 0, 1) := by decide +kernel
theorem dX5_write_15 : decode cX5_write 15 = .ok (.getfield 12, 3) := by decide +kernel
theorem dX5_write_18 : decode cX5_write 18 = .ok (.iload_n 1, 1) := by decide +kernel
theorem dX5_write_19 : decode cX5_write 19 = .ok (.invokevirtual 64, 3) := by decide +kernel
theorem dX5_write_22 : decode cX5_write 22 = .ok (.ifCond .ne 6, 3) := by decide +kernel
theorem dX5_write_25 : decode cX5_write 25 = .ok (.bipush (-4), 2) := by decide +kernel
theorem dX5_write_27 : decode cX5_write 27 = .ok (.ireturn, 1) := by decide +kernel
theorem dX5_write_28 : decode cX5_write 28 = .ok (.aload_n 0, 1) := by decide +kernel
theorem dX5_write_29 : decode cX5_write 29 = .ok (.getfield 12, 3) := by decide +kernel
theorem dX5_write_32 : decode cX5_write 32 = .ok (.iload_n 1, 1) := by decide +kernel
theorem dX5_write_33 : decode cX5_write 33 = .ok (.lload_n 2, 1) := by decide +kernel
theorem dX5_write_34 : decode cX5_write 34 = .ok (.invokevirtual 68, 3) := by decide +kernel
theorem dX5_write_37 : decode cX5_write 37 = .ok (.aload_n 0, 1) := by decide +kernel
theorem dX5_write_38 : decode cX5_write 38 = .ok (.getfield 12, 3) := by decide +kernel
theorem dX5_write_41 : decode cX5_write 41 = .ok (.getfield 72, 3) := by decide +kernel
theorem dX5_write_44 : decode cX5_write 44 = .ok (.ireturn, 1) := by decide +kernel
theorem dX5_wipe_0 : decode cX5_wipe 0 = .ok (.aload_n 0, 1) := by decide +kernel
theorem dX5_wipe_1 : decode cX5_wipe 1 = .ok (.getfield 12, 3) := by decide +kernel
theorem dX5_wipe_4 : decode cX5_wipe 4 = .ok (.getfield 72, 3) := by decide +kernel
theorem dX5_wipe_7 : decode cX5_wipe 7 = .ok (.istore_n 1, 1) := by decide +kernel
theorem dX5_wipe_8 : decode cX5_wipe 8 = .ok (.aload_n 0, 1) := by decide +kernel
theorem dX5_wipe_9 : decode cX5_wipe 9 = .ok (.getfield 12, 3) := by decide +kernel
theorem dX5_wipe_12 : decode cX5_wipe 12 = .ok (.iconst 0, 1) := by decide +kernel
theorem dX5_wipe_13 : decode cX5_wipe 13 = .ok (.putfield 72, 3) := by decide +kernel
theorem dX5_wipe_16 : decode cX5_wipe 16 = .ok (.iload_n 1, 1) := by decide +kernel
theorem dX5_wipe_17 : decode cX5_wipe 17 = .ok (.ireturn, 1) := by decide +kernel
theorem dX5_fault_0 : decode cX5_fault 0 = .ok (.aload_n 0, 1) := by decide +kernel
theorem dX5_fault_1 : decode cX5_fault 1 = .ok (.getfield 12, 3) := by decide +kernel
theorem dX5_fault_4 : decode cX5_fault 4 = .ok (.aload_n 0, 1) := by decide +kernel
theorem dX5_fault_5 : decode cX5_fault 5 = .ok (.getfield 44, 3) := by decide +kernel
theorem dX5_fault_8 : decode cX5_fault 8 = .ok (.invokevirtual 76, 3) := by decide +kernel
theorem dX5_fault_11 : decode cX5_fault 11 = .ok (.ireturn, 1) := by decide +kernel
theorem dX5_plait_0 : decode cX5_plait 0 = .ok (.aload_n 0, 1) := by decide +kernel
theorem dX5_plait_1 : decode cX5_plait 1 = .ok (.getfield 12, 3) := by decide +kernel
theorem dX5_plait_4 : decode cX5_plait 4 = .ok (.aload_n 0, 1) := by decide +kernel
theorem dX5_plait_5 : decode cX5_plait 5 = .ok (.getfield 44, 3) := by decide +kernel
theorem dX5_plait_8 : decode cX5_plait 8 = .ok (.invokevirtual 76, 3) := by decide +kernel
theorem dX5_plait_11 : decode cX5_plait 11 = .ok (.bipush (-9), 2) := by decide +kernel
theorem dX5_plait_13 : decode cX5_plait 13 = .ok (.if_icmp .eq 6, 3) := by decide +kernel
theorem dX5_plait_16 : decode cX5_plait 16 = .ok (.bipush (-3), 2) := by decide +kernel
theorem dX5_plait_18 : decode cX5_plait 18 = .ok (.ireturn, 1) := by decide +kernel
theorem dX5_plait_19 : decode cX5_plait 19 = .ok (.aload_n 0, 1) := by decide +kernel
theorem dX5_plait_20 : decode cX5_plait 20 = .ok (.getfield 19, 3) := by decide +kernel
theorem dX5_plait_23 : decode cX5_plait 23 = .ok (.aload_n 0, 1) := by decide +kernel
theorem dX5_plait_24 : decode cX5_plait 24 = .ok (.getfield 44, 3) := by decide +kernel
theorem dX5_plait_27 : decode cX5_plait 27 = .ok (.invokevirtual 80, 3) := by decide +kernel
theorem dX5_plait_30 : decode cX5_plait 30 = .ok (.aload_n 0, 1) := by decide +kernel
theorem dX5_plait_31 : decode cX5_plait 31 = .ok (.invokevirtual 61, 3) := by decide +kernel
theorem dX5_plait_34 : decode cX5_plait 34 = .ok (.aload_n 0, 1) := by decide +kernel
theorem dX5_plait_35 : decode cX5_plait 35 = .ok (.getfield 19, 3) := by decide +kernel
theorem dX5_plait_38 : decode cX5_plait 38 = .ok (.getfield 84, 3) := by decide +kernel
theorem dX5_plait_41 : decode cX5_plait 41 = .ok (.ireturn, 1) := by decide +kernel
theorem dX5_make_0 : decode cX5_make 0 = .ok (.iload_n 1, 1) := by decide +kernel
theorem dX5_make_1 : decode cX5_make 1 = .ok (.invokestatic 87, 3) := by decide +kernel
theorem dX5_make_4 : decode cX5_make 4 = .ok (.ifCond .eq 10, 3) := by decide +kernel
theorem dX5_make_7 : decode cX5_make 7 = .ok (.iload_n 2, 1) := by decide +kernel
theorem dX5_make_8 : decode cX5_make 8 = .ok (.invokestatic 87, 3) := by decide +kernel
theorem dX5_make_11 : decode cX5_make 11 = .ok (.ifCond .ne 6, 3) := by decide +kernel
theorem dX5_make_14 : decode cX5_make 14 = .ok (.bipush (-2), 2) := by decide +kernel
theorem dX5_make_16 : decode cX5_make 16 = .ok (.ireturn, 1) := by decide +kernel
theorem dX5_make_17 : decode cX5_make 17 = .ok (.iload 5, 2) := by decide +kernel
theorem dX5_make_19 : decode cX5_make 19 = .ok (.ifCond .lt 32, 3) := by decide +kernel
theorem dX5_make_22 : decode cX5_make 22 = .ok (.iload 5, 2) := by decide +kernel
theorem dX5_make_24 : decode cX5_make 24 = .ok (.bipush 10, 2) := by decide +kernel
theorem dX5_make_26 : decode cX5_make 26 = .ok (.if_icmp .gt 25, 3) := by decide +kernel
theorem dX5_make_29 : decode cX5_make 29 = .ok (.iload 6, 2) := by decide +kernel
theorem dX5_make_31 : decode cX5_make 31 = .ok (.ifCond .lt 20, 3) := by decide +kernel
theorem dX5_make_34 : decode cX5_make 34 = .ok (.iload 6, 2) := by decide +kernel
theorem dX5_make_36 : decode cX5_make 36 = .ok (.bipush 10, 2) := by decide +kernel
theorem dX5_make_38 : decode cX5_make 38 = .ok (.if_icmp .gt 13, 3) := by decide +kernel
theorem dX5_make_41 : decode cX5_make 41 = .ok (.iload 5, 2) := by decide +kernel
theorem dX5_make_43 : decode cX5_make 43 = .ok (.iload 6, 2) := by decide +kernel
theorem dX5_make_45 : decode cX5_make 45 = .ok (.iadd, 1) := by decide +kernel
theorem dX5_make_46 : decode cX5_make 46 = .ok (.bipush 10, 2) := by decide +kernel
theorem dX5_make_48 : decode cX5_make 48 = .ok (.if_icmp .le 6, 3) := by decide +kernel
theorem dX5_make_51 : decode cX5_make 51 = .ok (.bipush (-2), 2) := by decide +kernel
theorem dX5_make_53 : decode cX5_make 53 = .ok (.ireturn, 1) := by decide +kernel
theorem dX5_make_54 : decode cX5_make 54 = .ok (.aload_n 0, 1) := by decide +kernel
theorem dX5_make_55 : decode cX5_make 55 = .ok (.getfield 19, 3) := by decide +kernel
theorem dX5_make_58 : decode cX5_make 58 = .ok (.iload_n 1, 1) := by decide +kernel
theorem dX5_make_59 : decode cX5_make 59 = .ok (.iload_n 2, 1) := by decide +kernel
theorem dX5_make_60 : decode cX5_make 60 = .ok (.invokevirtual 57, 3) := by decide +kernel
theorem dX5_make_63 : decode cX5_make 63 = .ok (.aload_n 0, 1) := by decide +kernel
theorem dX5_make_64 : decode cX5_make 64 = .ok (.getfield 19, 3) := by decide +kernel
theorem dX5_make_67 : decode cX5_make 67 = .ok (.lload_n 3, 1) := by decide +kernel
theorem dX5_make_68 : decode cX5_make 68 = .ok (.iload 5, 2) := by decide +kernel
theorem dX5_make_70 : decode cX5_make 70 = .ok (.iload 6, 2) := by decide +kernel
theorem dX5_make_72 : decode cX5_make 72 = .ok (.invokevirtual 90, 3) := by decide +kernel
theorem dX5_make_75 : decode cX5_make 75 = .ok (.aload_n 0, 1) := by decide +kernel
theorem dX5_make_76 : decode cX5_make 76 = .ok (.invokevirtual 61, 3) := by decide +kernel
theorem dX5_make_79 : decode cX5_make 79 = .ok (.aload_n 0, 1) := by decide +kernel
theorem dX5_make_80 : decode cX5_make 80 = .ok (.getfield 19, 3) := by decide +kernel
theorem dX5_make_83 : decode cX5_make 83 = .ok (.getfield 84, 3) := by decide +kernel
theorem dX5_make_86 : decode cX5_make 86 = .ok (.ireturn, 1) := by decide +kernel
theorem dX5_point_0 : decode cX5_point 0 = .ok (.aload_n 0, 1) := by decide +kernel
theorem dX5_point_1 : decode cX5_point 1 = .ok (.getfield 19, 3) := by decide +kernel
theorem dX5_point_4 : decode cX5_point 4 = .ok (.iload_n 1, 1) := by decide +kernel
theorem dX5_point_5 : decode cX5_point 5 = .ok (.invokevirtual 94, 3) := by decide +kernel
theorem dX5_point_8 : decode cX5_point 8 = .ok (.istore_n 2, 1) := by decide +kernel
theorem dX5_point_9 : decode cX5_point 9 = .ok (.iload_n 2, 1) := by decide +kernel
theorem dX5_point_10 : decode cX5_point 10 = .ok (.ifCond .ge 7, 3) := by decide +kernel
theorem dX5_point_13 : decode cX5_point 13 = .ok (.iconst (-1), 1) := by decide +kernel
theorem dX5_point_14 : decode cX5_point 14 = .ok (.goto 11, 3) := by decide +kernel
theorem dX5_point_17 : decode cX5_point 17 = .ok (.aload_n 0, 1) := by decide +kernel
theorem dX5_point_18 : decode cX5_point 18 = .ok (.getfield 19, 3) := by decide +kernel
theorem dX5_point_21 : decode cX5_point 21 = .ok (.iload_n 2, 1) := by decide +kernel
theorem dX5_point_22 : decode cX5_point 22 = .ok (.invokevirtual 98, 3) := by decide +kernel
theorem dX5_point_25 : decode cX5_point 25 = .ok (.ireturn, 1) := by decide +kernel
theorem dX5_set_0 : decode cX5_set 0 = .ok (.aload_n 0, 1) := by decide +kernel
theorem dX5_set_1 : decode cX5_set 1 = .ok (.getfield 19, 3) := by decide +kernel
theorem dX5_set_4 : decode cX5_set 4 = .ok (.iload_n 1, 1) := by decide +kernel
theorem dX5_set_5 : decode cX5_set 5 = .ok (.invokevirtual 94, 3) := by decide +kernel
theorem dX5_set_8 : decode cX5_set 8 = .ok (.istore_n 3, 1) := by decide +kernel
theorem dX5_set_9 : decode cX5_set 9 = .ok (.iload_n 3, 1) := by decide +kernel
theorem dX5_set_10 : decode cX5_set 10 = .ok (.ifCond .ge 5, 3) := by decide +kernel
theorem dX5_set_13 : decode cX5_set 13 = .ok (.iconst (-1), 1) := by decide +kernel
theorem dX5_set_14 : decode cX5_set 14 = .ok (.ireturn, 1) := by decide +kernel
theorem dX5_set_15 : decode cX5_set 15 = .ok (.iload_n 2, 1) := by decide +kernel
theorem dX5_set_16 : decode cX5_set 16 = .ok (.ifCond .lt 8, 3) := by decide +kernel
theorem dX5_set_19 : decode cX5_set 19 = .ok (.iload_n 2, 1) := by decide +kernel
theorem dX5_set_20 : decode cX5_set 20 = .ok (.iconst 3, 1) := by decide +kernel
theorem dX5_set_21 : decode cX5_set 21 = .ok (.if_icmp .le 6, 3) := by decide +kernel
theorem dX5_set_24 : decode cX5_set 24 = .ok (.bipush (-2), 2) := by decide +kernel
theorem dX5_set_26 : decode cX5_set 26 = .ok (.ireturn, 1) := by decide +kernel
theorem dX5_set_27 : decode cX5_set 27 = .ok (.aload_n 0, 1) := by decide +kernel
theorem dX5_set_28 : decode cX5_set 28 = .ok (.getfield 19, 3) := by decide +kernel
theorem dX5_set_31 : decode cX5_set 31 = .ok (.iload_n 3, 1) := by decide +kernel
theorem dX5_set_32 : decode cX5_set 32 = .ok (.invokevirtual 98, 3) := by decide +kernel
theorem dX5_set_35 : decode cX5_set 35 = .ok (.istore 4, 2) := by decide +kernel
theorem dX5_set_37 : decode cX5_set 37 = .ok (.aload_n 0, 1) := by decide +kernel
theorem dX5_set_38 : decode cX5_set 38 = .ok (.getfield 19, 3) := by decide +kernel
theorem dX5_set_41 : decode cX5_set 41 = .ok (.iload_n 3, 1) := by decide +kernel
theorem dX5_set_42 : decode cX5_set 42 = .ok (.iload_n 2, 1) := by decide +kernel
theorem dX5_set_43 : decode cX5_set 43 = .ok (.invokevirtual 101, 3) := by decide +kernel
theorem dX5_set_46 : decode cX5_set 46 = .ok (.aload_n 0, 1) := by decide +kernel
theorem dX5_set_47 : decode cX5_set 47 = .ok (.invokevirtual 61, 3) := by decide +kernel
theorem dX5_set_50 : decode cX5_set 50 = .ok (.iload 4, 2) := by decide +kernel
theorem dX5_set_52 : decode cX5_set 52 = .ok (.ireturn, 1) := by decide +kernel
theorem dX5_about_0 : decode cX5_about 0 = .ok (.iload_n 1, 1) := by decide +kernel
theorem dX5_about_1 : decode cX5_about 1 = .ok (.tableswitch 188 0 12 #[67, 75, 83, 101, 109, 117, 126, 135, 144, 152, 157, 172, 180], 67) := by decide +kernel
theorem dX5_about_68 : decode cX5_about 68 = .ok (.aload_n 0, 1) := by decide +kernel
theorem dX5_about_69 : decode cX5_about 69 = .ok (.getfield 19, 3) := by decide +kernel
theorem dX5_about_72 : decode cX5_about 72 = .ok (.getfield 104, 3) := by decide +kernel
theorem dX5_about_75 : decode cX5_about 75 = .ok (.ireturn, 1) := by decide +kernel
theorem dX5_about_76 : decode cX5_about 76 = .ok (.aload_n 0, 1) := by decide +kernel
theorem dX5_about_77 : decode cX5_about 77 = .ok (.getfield 19, 3) := by decide +kernel
theorem dX5_about_80 : decode cX5_about 80 = .ok (.getfield 107, 3) := by decide +kernel
theorem dX5_about_83 : decode cX5_about 83 = .ok (.ireturn, 1) := by decide +kernel
theorem dX5_about_84 : decode cX5_about 84 = .ok (.iconst 4, 1) := by decide +kernel
theorem dX5_about_85 : decode cX5_about 85 = .ok (.aload_n 0, 1) := by decide +kernel
theorem dX5_about_86 : decode cX5_about 86 = .ok (.getfield 19, 3) := by decide +kernel
theorem dX5_about_89 : decode cX5_about 89 = .ok (.getfield 104, 3) := by decide +kernel
theorem dX5_about_92 : decode cX5_about 92 = .ok (.imul, 1) := by decide +kernel
theorem dX5_about_93 : decode cX5_about 93 = .ok (.aload_n 0, 1) := by decide +kernel
theorem dX5_about_94 : decode cX5_about 94 = .ok (.getfield 19, 3) := by decide +kernel
theorem dX5_about_97 : decode cX5_about 97 = .ok (.getfield 107, 3) := by decide +kernel
theorem dX5_about_100 : decode cX5_about 100 = .ok (.imul, 1) := by decide +kernel
theorem dX5_about_101 : decode cX5_about 101 = .ok (.ireturn, 1) := by decide +kernel
theorem dX5_about_102 : decode cX5_about 102 = .ok (.aload_n 0, 1) := by decide +kernel
theorem dX5_about_103 : decode cX5_about 103 = .ok (.getfield 19, 3) := by decide +kernel
theorem dX5_about_106 : decode cX5_about 106 = .ok (.getfield 84, 3) := by decide +kernel
theorem dX5_about_109 : decode cX5_about 109 = .ok (.ireturn, 1) := by decide +kernel
theorem dX5_about_110 : decode cX5_about 110 = .ok (.aload_n 0, 1) := by decide +kernel
theorem dX5_about_111 : decode cX5_about 111 = .ok (.getfield 19, 3) := by decide +kernel
theorem dX5_about_114 : decode cX5_about 114 = .ok (.invokevirtual 110, 3) := by decide +kernel
theorem dX5_about_117 : decode cX5_about 117 = .ok (.ireturn, 1) := by decide +kernel
theorem dX5_about_118 : decode cX5_about 118 = .ok (.aload_n 0, 1) := by decide +kernel
theorem dX5_about_119 : decode cX5_about 119 = .ok (.getfield 19, 3) := by decide +kernel
theorem dX5_about_122 : decode cX5_about 122 = .ok (.iconst 1, 1) := by decide +kernel
theorem dX5_about_123 : decode cX5_about 123 = .ok (.invokevirtual 114, 3) := by decide +kernel
theorem dX5_about_126 : decode cX5_about 126 = .ok (.ireturn, 1) := by decide +kernel
theorem dX5_about_127 : decode cX5_about 127 = .ok (.aload_n 0, 1) := by decide +kernel
theorem dX5_about_128 : decode cX5_about 128 = .ok (.getfield 19, 3) := by decide +kernel
theorem dX5_about_131 : decode cX5_about 131 = .ok (.iconst 2, 1) := by decide +kernel
theorem dX5_about_132 : decode cX5_about 132 = .ok (.invokevirtual 114, 3) := by decide +kernel
theorem dX5_about_135 : decode cX5_about 135 = .ok (.ireturn, 1) := by decide +kernel
theorem dX5_about_136 : decode cX5_about 136 = .ok (.aload_n 0, 1) := by decide +kernel
theorem dX5_about_137 : decode cX5_about 137 = .ok (.getfield 19, 3) := by decide +kernel
theorem dX5_about_140 : decode cX5_about 140 = .ok (.iconst 3, 1) := by decide +kernel
theorem dX5_about_141 : decode cX5_about 141 = .ok (.invokevirtual 114, 3) := by decide +kernel
theorem dX5_about_144 : decode cX5_about 144 = .ok (.ireturn, 1) := by decide +kernel
theorem dX5_about_145 : decode cX5_about 145 = .ok (.aload_n 0, 1) := by decide +kernel
theorem dX5_about_146 : decode cX5_about 146 = .ok (.getfield 26, 3) := by decide +kernel
theorem dX5_about_149 : decode cX5_about 149 = .ok (.getfield 117, 3) := by decide +kernel
theorem dX5_about_152 : decode cX5_about 152 = .ok (.ireturn, 1) := by decide +kernel
theorem dX5_about_153 : decode cX5_about 153 = .ok (.aload_n 0, 1) := by decide +kernel
theorem dX5_about_154 : decode cX5_about 154 = .ok (.invokevirtual 120, 3) := by decide +kernel
theorem dX5_about_157 : decode cX5_about 157 = .ok (.ireturn, 1) := by decide +kernel
theorem dX5_about_158 : decode cX5_about 158 = .ok (.aload_n 0, 1) := by decide +kernel
theorem dX5_about_159 : decode cX5_about 159 = .ok (.getfield 19, 3) := by decide +kernel
theorem dX5_about_162 : decode cX5_about 162 = .ok (.invokevirtual 110, 3) := by decide +kernel
theorem dX5_about_165 : decode cX5_about 165 = .ok (.iconst 1, 1) := by decide +kernel
theorem dX5_about_166 : decode cX5_about 166 = .ok (.iadd, 1) := by decide +kernel
theorem dX5_about_167 : decode cX5_about 167 = .ok (.aload_n 0, 1) := by decide +kernel
theorem dX5_about_168 : decode cX5_about 168 = .ok (.invokevirtual 120, 3) := by decide +kernel
theorem dX5_about_171 : decode cX5_about 171 = .ok (.iadd, 1) := by decide +kernel
theorem dX5_about_172 : decode cX5_about 172 = .ok (.ireturn, 1) := by decide +kernel
theorem dX5_about_173 : decode cX5_about 173 = .ok (.aload_n 0, 1) := by decide +kernel
theorem dX5_about_174 : decode cX5_about 174 = .ok (.getfield 33, 3) := by decide +kernel
theorem dX5_about_177 : decode cX5_about 177 = .ok (.getfield 123, 3) := by decide +kernel
theorem dX5_about_180 : decode cX5_about 180 = .ok (.ireturn, 1) := by decide +kernel
theorem dX5_about_181 : decode cX5_about 181 = .ok (.aload_n 0, 1) := by decide +kernel
theorem dX5_about_182 : decode cX5_about 182 = .ok (.getfield 12, 3) := by decide +kernel
theorem dX5_about_185 : decode cX5_about 185 = .ok (.getfield 72, 3) := by decide +kernel
theorem dX5_about_188 : decode cX5_about 188 = .ok (.ireturn, 1) := by decide +kernel
theorem dX5_about_189 : decode cX5_about 189 = .ok (.bipush (-2), 2) := by decide +kernel
theorem dX5_about_191 : decode cX5_about 191 = .ok (.ireturn, 1) := by decide +kernel
theorem dX5_loop_0 : decode cX5_loop 0 = .ok (.aload_n 0, 1) := by decide +kernel
theorem dX5_loop_1 : decode cX5_loop 1 = .ok (.getfield 26, 3) := by decide +kernel
theorem dX5_loop_4 : decode cX5_loop 4 = .ok (.iload_n 1, 1) := by decide +kernel
theorem dX5_loop_5 : decode cX5_loop 5 = .ok (.invokevirtual 126, 3) := by decide +kernel
theorem dX5_loop_8 : decode cX5_loop 8 = .ok (.istore_n 2, 1) := by decide +kernel
theorem dX5_loop_9 : decode cX5_loop 9 = .ok (.iload_n 2, 1) := by decide +kernel
theorem dX5_loop_10 : decode cX5_loop 10 = .ok (.ifCond .ge 7, 3) := by decide +kernel
theorem dX5_loop_13 : decode cX5_loop 13 = .ok (.iconst (-1), 1) := by decide +kernel
theorem dX5_loop_14 : decode cX5_loop 14 = .ok (.goto 4, 3) := by decide +kernel
theorem dX5_loop_17 : decode cX5_loop 17 = .ok (.iload_n 2, 1) := by decide +kernel
theorem dX5_loop_18 : decode cX5_loop 18 = .ok (.ireturn, 1) := by decide +kernel
theorem dX5_along_0 : decode cX5_along 0 = .ok (.aload_n 0, 1) := by decide +kernel
theorem dX5_along_1 : decode cX5_along 1 = .ok (.getfield 26, 3) := by decide +kernel
theorem dX5_along_4 : decode cX5_along 4 = .ok (.iload_n 1, 1) := by decide +kernel
theorem dX5_along_5 : decode cX5_along 5 = .ok (.invokevirtual 129, 3) := by decide +kernel
theorem dX5_along_8 : decode cX5_along 8 = .ok (.ifCond .ne 5, 3) := by decide +kernel
theorem dX5_along_11 : decode cX5_along 11 = .ok (.iconst (-1), 1) := by decide +kernel
theorem dX5_along_12 : decode cX5_along 12 = .ok (.ireturn, 1) := by decide +kernel
theorem dX5_along_13 : decode cX5_along 13 = .ok (.iload_n 2, 1) := by decide +kernel
theorem dX5_along_14 : decode cX5_along 14 = .ok (.tableswitch 125 0 5 #[38, 54, 63, 76, 98, 112], 38) := by decide +kernel
theorem dX5_along_52 : decode cX5_along 52 = .ok (.aload_n 0, 1) := by decide +kernel
theorem dX5_along_53 : decode cX5_along 53 = .ok (.getfield 26, 3) := by decide +kernel
theorem dX5_along_56 : decode cX5_along 56 = .ok (.aload_n 0, 1) := by decide +kernel
theorem dX5_along_57 : decode cX5_along 57 = .ok (.getfield 26, 3) := by decide +kernel
theorem dX5_along_60 : decode cX5_along 60 = .ok (.iload_n 1, 1) := by decide +kernel
theorem dX5_along_61 : decode cX5_along 61 = .ok (.invokevirtual 132, 3) := by decide +kernel
theorem dX5_along_64 : decode cX5_along 64 = .ok (.invokevirtual 135, 3) := by decide +kernel
theorem dX5_along_67 : decode cX5_along 67 = .ok (.ireturn, 1) := by decide +kernel
theorem dX5_along_68 : decode cX5_along 68 = .ok (.aload_n 0, 1) := by decide +kernel
theorem dX5_along_69 : decode cX5_along 69 = .ok (.getfield 26, 3) := by decide +kernel
theorem dX5_along_72 : decode cX5_along 72 = .ok (.iload_n 1, 1) := by decide +kernel
theorem dX5_along_73 : decode cX5_along 73 = .ok (.invokevirtual 138, 3) := by decide +kernel
theorem dX5_along_76 : decode cX5_along 76 = .ok (.ireturn, 1) := by decide +kernel
theorem dX5_along_77 : decode cX5_along 77 = .ok (.aload_n 0, 1) := by decide +kernel
theorem dX5_along_78 : decode cX5_along 78 = .ok (.getfield 33, 3) := by decide +kernel
theorem dX5_along_81 : decode cX5_along 81 = .ok (.aload_n 0, 1) := by decide +kernel
theorem dX5_along_82 : decode cX5_along 82 = .ok (.getfield 26, 3) := by decide +kernel
theorem dX5_along_85 : decode cX5_along 85 = .ok (.iload_n 1, 1) := by decide +kernel
theorem dX5_along_86 : decode cX5_along 86 = .ok (.invokevirtual 141, 3) := by decide +kernel
theorem dX5_along_89 : decode cX5_along 89 = .ok (.ireturn, 1) := by decide +kernel
theorem dX5_along_90 : decode cX5_along 90 = .ok (.aload_n 0, 1) := by decide +kernel
theorem dX5_along_91 : decode cX5_along 91 = .ok (.getfield 26, 3) := by decide +kernel
theorem dX5_along_94 : decode cX5_along 94 = .ok (.iload_n 1, 1) := by decide +kernel
theorem dX5_along_95 : decode cX5_along 95 = .ok (.invokevirtual 138, 3) := by decide +kernel
theorem dX5_along_98 : decode cX5_along 98 = .ok (.aload_n 0, 1) := by decide +kernel
theorem dX5_along_99 : decode cX5_along 99 = .ok (.getfield 33, 3) := by decide +kernel
theorem dX5_along_102 : decode cX5_along 102 = .ok (.aload_n 0, 1) := by decide +kernel
theorem dX5_along_103 : decode cX5_along 103 = .ok (.getfield 26, 3) := by decide +kernel
theorem dX5_along_106 : decode cX5_along 106 = .ok (.iload_n 1, 1) := by decide +kernel
theorem dX5_along_107 : decode cX5_along 107 = .ok (.invokevirtual 141, 3) := by decide +kernel
theorem dX5_along_110 : decode cX5_along 110 = .ok (.isub, 1) := by decide +kernel
theorem dX5_along_111 : decode cX5_along 111 = .ok (.ireturn, 1) := by decide +kernel
theorem dX5_along_112 : decode cX5_along 112 = .ok (.aload_n 0, 1) := by decide +kernel
theorem dX5_along_113 : decode cX5_along 113 = .ok (.getfield 33, 3) := by decide +kernel
theorem dX5_along_116 : decode cX5_along 116 = .ok (.aload_n 0, 1) := by decide +kernel
theorem dX5_along_117 : decode cX5_along 117 = .ok (.getfield 26, 3) := by decide +kernel
theorem dX5_along_120 : decode cX5_along 120 = .ok (.iload_n 1, 1) := by decide +kernel
theorem dX5_along_121 : decode cX5_along 121 = .ok (.iload_n 1, 1) := by decide +kernel
theorem dX5_along_122 : decode cX5_along 122 = .ok (.invokevirtual 145, 3) := by decide +kernel
theorem dX5_along_125 : decode cX5_along 125 = .ok (.ireturn, 1) := by decide +kernel
theorem dX5_along_126 : decode cX5_along 126 = .ok (.aload_n 0, 1) := by decide +kernel
theorem dX5_along_127 : decode cX5_along 127 = .ok (.getfield 33, 3) := by decide +kernel
theorem dX5_along_130 : decode cX5_along 130 = .ok (.aload_n 0, 1) := by decide +kernel
theorem dX5_along_131 : decode cX5_along 131 = .ok (.getfield 26, 3) := by decide +kernel
theorem dX5_along_134 : decode cX5_along 134 = .ok (.iload_n 1, 1) := by decide +kernel
theorem dX5_along_135 : decode cX5_along 135 = .ok (.invokevirtual 149, 3) := by decide +kernel
theorem dX5_along_138 : decode cX5_along 138 = .ok (.ireturn, 1) := by decide +kernel
theorem dX5_along_139 : decode cX5_along 139 = .ok (.bipush (-2), 2) := by decide +kernel
theorem dX5_along_141 : decode cX5_along 141 = .ok (.ireturn, 1) := by decide +kernel
theorem dX5_step_0 : decode cX5_step 0 = .ok (.aload_n 0, 1) := by decide +kernel
theorem dX5_step_1 : decode cX5_step 1 = .ok (.getfield 26, 3) := by decide +kernel
theorem dX5_step_4 : decode cX5_step 4 = .ok (.iload_n 1, 1) := by decide +kernel
theorem dX5_step_5 : decode cX5_step 5 = .ok (.invokevirtual 129, 3) := by decide +kernel
theorem dX5_step_8 : decode cX5_step 8 = .ok (.ifCond .ne 5, 3) := by decide +kernel
theorem dX5_step_11 : decode cX5_step 11 = .ok (.iconst (-1), 1) := by decide +kernel
theorem dX5_step_12 : decode cX5_step 12 = .ok (.ireturn, 1) := by decide +kernel
theorem dX5_step_13 : decode cX5_step 13 = .ok (.iload_n 2, 1) := by decide +kernel
theorem dX5_step_14 : decode cX5_step 14 = .ok (.ifCond .lt 10, 3) := by decide +kernel
theorem dX5_step_17 : decode cX5_step 17 = .ok (.iload_n 2, 1) := by decide +kernel
theorem dX5_step_18 : decode cX5_step 18 = .ok (.sipush 9999, 3) := by decide +kernel
theorem dX5_step_21 : decode cX5_step 21 = .ok (.if_icmp .le 6, 3) := by decide +kernel
theorem dX5_step_24 : decode cX5_step 24 = .ok (.bipush (-2), 2) := by decide +kernel
theorem dX5_step_26 : decode cX5_step 26 = .ok (.ireturn, 1) := by decide +kernel
theorem dX5_step_27 : decode cX5_step 27 = .ok (.aload_n 0, 1) := by decide +kernel
theorem dX5_step_28 : decode cX5_step 28 = .ok (.getfield 26, 3) := by decide +kernel
theorem dX5_step_31 : decode cX5_step 31 = .ok (.aload_n 0, 1) := by decide +kernel
theorem dX5_step_32 : decode cX5_step 32 = .ok (.getfield 26, 3) := by decide +kernel
theorem dX5_step_35 : decode cX5_step 35 = .ok (.iload_n 1, 1) := by decide +kernel
theorem dX5_step_36 : decode cX5_step 36 = .ok (.iload_n 2, 1) := by decide +kernel
theorem dX5_step_37 : decode cX5_step 37 = .ok (.invokevirtual 152, 3) := by decide +kernel
theorem dX5_step_40 : decode cX5_step 40 = .ok (.invokevirtual 135, 3) := by decide +kernel
theorem dX5_step_43 : decode cX5_step 43 = .ok (.ireturn, 1) := by decide +kernel
theorem dX5_end_0 : decode cX5_end 0 = .ok (.aload_n 0, 1) := by decide +kernel
theorem dX5_end_1 : decode cX5_end 1 = .ok (.getfield 26, 3) := by decide +kernel
theorem dX5_end_4 : decode cX5_end 4 = .ok (.iload_n 1, 1) := by decide +kernel
theorem dX5_end_5 : decode cX5_end 5 = .ok (.invokevirtual 129, 3) := by decide +kernel
theorem dX5_end_8 : decode cX5_end 8 = .ok (.ifCond .ne 5, 3) := by decide +kernel
theorem dX5_end_11 : decode cX5_end 11 = .ok (.iconst (-1), 1) := by decide +kernel
theorem dX5_end_12 : decode cX5_end 12 = .ok (.ireturn, 1) := by decide +kernel
theorem dX5_end_13 : decode cX5_end 13 = .ok (.iload_n 2, 1) := by decide +kernel
theorem dX5_end_14 : decode cX5_end 14 = .ok (.ifCond .lt 10, 3) := by decide +kernel
theorem dX5_end_17 : decode cX5_end 17 = .ok (.iload_n 2, 1) := by decide +kernel
theorem dX5_end_18 : decode cX5_end 18 = .ok (.sipush 9999, 3) := by decide +kernel
theorem dX5_end_21 : decode cX5_end 21 = .ok (.if_icmp .le 6, 3) := by decide +kernel
theorem dX5_end_24 : decode cX5_end 24 = .ok (.bipush (-2), 2) := by decide +kernel
theorem dX5_end_26 : decode cX5_end 26 = .ok (.ireturn, 1) := by decide +kernel
theorem dX5_end_27 : decode cX5_end 27 = .ok (.aload_n 0, 1) := by decide +kernel
theorem dX5_end_28 : decode cX5_end 28 = .ok (.getfield 26, 3) := by decide +kernel
theorem dX5_end_31 : decode cX5_end 31 = .ok (.aload_n 0, 1) := by decide +kernel
theorem dX5_end_32 : decode cX5_end 32 = .ok (.getfield 26, 3) := by decide +kernel
theorem dX5_end_35 : decode cX5_end 35 = .ok (.iload_n 1, 1) := by decide +kernel
theorem dX5_end_36 : decode cX5_end 36 = .ok (.iload_n 2, 1) := by decide +kernel
theorem dX5_end_37 : decode cX5_end 37 = .ok (.invokevirtual 152, 3) := by decide +kernel
theorem dX5_end_40 : decode cX5_end 40 = .ok (.invokevirtual 156, 3) := by decide +kernel
theorem dX5_end_43 : decode cX5_end 43 = .ok (.ireturn, 1) := by decide +kernel
theorem dX5_between_0 : decode cX5_between 0 = .ok (.aload_n 0, 1) := by decide +kernel
theorem dX5_between_1 : decode cX5_between 1 = .ok (.getfield 26, 3) := by decide +kernel
theorem dX5_between_4 : decode cX5_between 4 = .ok (.iload_n 1, 1) := by decide +kernel
theorem dX5_between_5 : decode cX5_between 5 = .ok (.invokevirtual 129, 3) := by decide +kernel
theorem dX5_between_8 : decode cX5_between 8 = .ok (.ifCond .eq 14, 3) := by decide +kernel
theorem dX5_between_11 : decode cX5_between 11 = .ok (.aload_n 0, 1) := by decide +kernel
theorem dX5_between_12 : decode cX5_between 12 = .ok (.getfield 26, 3) := by decide +kernel
theorem dX5_between_15 : decode cX5_between 15 = .ok (.iload_n 2, 1) := by decide +kernel
theorem dX5_between_16 : decode cX5_between 16 = .ok (.invokevirtual 129, 3) := by decide +kernel
theorem dX5_between_19 : decode cX5_between 19 = .ok (.ifCond .ne 5, 3) := by decide +kernel
theorem dX5_between_22 : decode cX5_between 22 = .ok (.iconst (-1), 1) := by decide +kernel
theorem dX5_between_23 : decode cX5_between 23 = .ok (.ireturn, 1) := by decide +kernel
theorem dX5_between_24 : decode cX5_between 24 = .ok (.aload_n 0, 1) := by decide +kernel
theorem dX5_between_25 : decode cX5_between 25 = .ok (.getfield 33, 3) := by decide +kernel
theorem dX5_between_28 : decode cX5_between 28 = .ok (.aload_n 0, 1) := by decide +kernel
theorem dX5_between_29 : decode cX5_between 29 = .ok (.getfield 26, 3) := by decide +kernel
theorem dX5_between_32 : decode cX5_between 32 = .ok (.iload_n 1, 1) := by decide +kernel
theorem dX5_between_33 : decode cX5_between 33 = .ok (.iload_n 2, 1) := by decide +kernel
theorem dX5_between_34 : decode cX5_between 34 = .ok (.invokevirtual 145, 3) := by decide +kernel
theorem dX5_between_37 : decode cX5_between 37 = .ok (.ireturn, 1) := by decide +kernel
theorem dX5_which_0 : decode cX5_which 0 = .ok (.aload_n 0, 1) := by decide +kernel
theorem dX5_which_1 : decode cX5_which 1 = .ok (.getfield 19, 3) := by decide +kernel
theorem dX5_which_4 : decode cX5_which 4 = .ok (.iload_n 1, 1) := by decide +kernel
theorem dX5_which_5 : decode cX5_which 5 = .ok (.invokevirtual 94, 3) := by decide +kernel
theorem dX5_which_8 : decode cX5_which 8 = .ok (.istore_n 3, 1) := by decide +kernel
theorem dX5_which_9 : decode cX5_which 9 = .ok (.iload_n 3, 1) := by decide +kernel
theorem dX5_which_10 : decode cX5_which 10 = .ok (.ifCond .ge 5, 3) := by decide +kernel
theorem dX5_which_13 : decode cX5_which 13 = .ok (.iconst (-1), 1) := by decide +kernel
theorem dX5_which_14 : decode cX5_which 14 = .ok (.ireturn, 1) := by decide +kernel
theorem dX5_which_15 : decode cX5_which 15 = .ok (.aload_n 0, 1) := by decide +kernel
theorem dX5_which_16 : decode cX5_which 16 = .ok (.getfield 19, 3) := by decide +kernel
theorem dX5_which_19 : decode cX5_which 19 = .ok (.iload_n 3, 1) := by decide +kernel
theorem dX5_which_20 : decode cX5_which 20 = .ok (.invokevirtual 159, 3) := by decide +kernel
theorem dX5_which_23 : decode cX5_which 23 = .ok (.ifCond .ne 6, 3) := by decide +kernel
theorem dX5_which_26 : decode cX5_which 26 = .ok (.bipush (-3), 2) := by decide +kernel
theorem dX5_which_28 : decode cX5_which 28 = .ok (.ireturn, 1) := by decide +kernel
theorem dX5_which_29 : decode cX5_which 29 = .ok (.iload_n 2, 1) := by decide +kernel
theorem dX5_which_30 : decode cX5_which 30 = .ok (.ifCond .eq 18, 3) := by decide +kernel
theorem dX5_which_33 : decode cX5_which 33 = .ok (.aload_n 0, 1) := by decide +kernel
theorem dX5_which_34 : decode cX5_which 34 = .ok (.getfield 33, 3) := by decide +kernel
theorem dX5_which_37 : decode cX5_which 37 = .ok (.aload_n 0, 1) := by decide +kernel
theorem dX5_which_38 : decode cX5_which 38 = .ok (.getfield 26, 3) := by decide +kernel
theorem dX5_which_41 : decode cX5_which 41 = .ok (.iload_n 3, 1) := by decide +kernel
theorem dX5_which_42 : decode cX5_which 42 = .ok (.invokevirtual 162, 3) := by decide +kernel
theorem dX5_which_45 : decode cX5_which 45 = .ok (.goto 15, 3) := by decide +kernel
theorem dX5_which_48 : decode cX5_which 48 = .ok (.aload_n 0, 1) := by decide +kernel
theorem dX5_which_49 : decode cX5_which 49 = .ok (.getfield 33, 3) := by decide +kernel
theorem dX5_which_52 : decode cX5_which 52 = .ok (.aload_n 0, 1) := by decide +kernel
theorem dX5_which_53 : decode cX5_which 53 = .ok (.getfield 26, 3) := by decide +kernel
theorem dX5_which_56 : decode cX5_which 56 = .ok (.iload_n 3, 1) := by decide +kernel
theorem dX5_which_57 : decode cX5_which 57 = .ok (.invokevirtual 165, 3) := by decide +kernel
theorem dX5_which_60 : decode cX5_which 60 = .ok (.ireturn, 1) := by decide +kernel
theorem dX5_sign_0 : decode cX5_sign 0 = .ok (.aload_n 0, 1) := by decide +kernel
theorem dX5_sign_1 : decode cX5_sign 1 = .ok (.getfield 19, 3) := by decide +kernel
theorem dX5_sign_4 : decode cX5_sign 4 = .ok (.iload_n 1, 1) := by decide +kernel
theorem dX5_sign_5 : decode cX5_sign 5 = .ok (.invokevirtual 94, 3) := by decide +kernel
theorem dX5_sign_8 : decode cX5_sign 8 = .ok (.istore_n 2, 1) := by decide +kernel
theorem dX5_sign_9 : decode cX5_sign 9 = .ok (.iload_n 2, 1) := by decide +kernel
theorem dX5_sign_10 : decode cX5_sign 10 = .ok (.ifCond .ge 5, 3) := by decide +kernel
theorem dX5_sign_13 : decode cX5_sign 13 = .ok (.iconst (-1), 1) := by decide +kernel
theorem dX5_sign_14 : decode cX5_sign 14 = .ok (.ireturn, 1) := by decide +kernel
theorem dX5_sign_15 : decode cX5_sign 15 = .ok (.aload_n 0, 1) := by decide +kernel
theorem dX5_sign_16 : decode cX5_sign 16 = .ok (.getfield 19, 3) := by decide +kernel
theorem dX5_sign_19 : decode cX5_sign 19 = .ok (.iload_n 2, 1) := by decide +kernel
theorem dX5_sign_20 : decode cX5_sign 20 = .ok (.invokevirtual 159, 3) := by decide +kernel
theorem dX5_sign_23 : decode cX5_sign 23 = .ok (.ifCond .ne 6, 3) := by decide +kernel
theorem dX5_sign_26 : decode cX5_sign 26 = .ok (.bipush (-3), 2) := by decide +kernel
theorem dX5_sign_28 : decode cX5_sign 28 = .ok (.ireturn, 1) := by decide +kernel
theorem dX5_sign_29 : decode cX5_sign 29 = .ok (.aload_n 0, 1) := by decide +kernel
theorem dX5_sign_30 : decode cX5_sign 30 = .ok (.getfield 33, 3) := by decide +kernel
theorem dX5_sign_33 : decode cX5_sign 33 = .ok (.aload_n 0, 1) := by decide +kernel
theorem dX5_sign_34 : decode cX5_sign 34 = .ok (.getfield 26, 3) := by decide +kernel
theorem dX5_sign_37 : decode cX5_sign 37 = .ok (.iload_n 2, 1) := by decide +kernel
theorem dX5_sign_38 : decode cX5_sign 38 = .ok (.invokevirtual 168, 3) := by decide +kernel
theorem dX5_sign_41 : decode cX5_sign 41 = .ok (.ireturn, 1) := by decide +kernel
theorem dX5_writhe_0 : decode cX5_writhe 0 = .ok (.sipush 1000, 3) := by decide +kernel
theorem dX5_writhe_3 : decode cX5_writhe 3 = .ok (.aload_n 0, 1) := by decide +kernel
theorem dX5_writhe_4 : decode cX5_writhe 4 = .ok (.getfield 33, 3) := by decide +kernel
theorem dX5_writhe_7 : decode cX5_writhe 7 = .ok (.aload_n 0, 1) := by decide +kernel
theorem dX5_writhe_8 : decode cX5_writhe 8 = .ok (.getfield 26, 3) := by decide +kernel
theorem dX5_writhe_11 : decode cX5_writhe 11 = .ok (.invokevirtual 171, 3) := by decide +kernel
theorem dX5_writhe_14 : decode cX5_writhe 14 = .ok (.iadd, 1) := by decide +kernel
theorem dX5_writhe_15 : decode cX5_writhe 15 = .ok (.ireturn, 1) := by decide +kernel
theorem dX5_linked_0 : decode cX5_linked 0 = .ok (.aload_n 0, 1) := by decide +kernel
theorem dX5_linked_1 : decode cX5_linked 1 = .ok (.getfield 26, 3) := by decide +kernel
theorem dX5_linked_4 : decode cX5_linked 4 = .ok (.iload_n 1, 1) := by decide +kernel
theorem dX5_linked_5 : decode cX5_linked 5 = .ok (.invokevirtual 129, 3) := by decide +kernel
theorem dX5_linked_8 : decode cX5_linked 8 = .ok (.ifCond .eq 14, 3) := by decide +kernel
theorem dX5_linked_11 : decode cX5_linked 11 = .ok (.aload_n 0, 1) := by decide +kernel
theorem dX5_linked_12 : decode cX5_linked 12 = .ok (.getfield 26, 3) := by decide +kernel
theorem dX5_linked_15 : decode cX5_linked 15 = .ok (.iload_n 2, 1) := by decide +kernel
theorem dX5_linked_16 : decode cX5_linked 16 = .ok (.invokevirtual 129, 3) := by decide +kernel
theorem dX5_linked_19 : decode cX5_linked 19 = .ok (.ifCond .ne 5, 3) := by decide +kernel
theorem dX5_linked_22 : decode cX5_linked 22 = .ok (.iconst (-1), 1) := by decide +kernel
theorem dX5_linked_23 : decode cX5_linked 23 = .ok (.ireturn, 1) := by decide +kernel
theorem dX5_linked_24 : decode cX5_linked 24 = .ok (.iload_n 1, 1) := by decide +kernel
theorem dX5_linked_25 : decode cX5_linked 25 = .ok (.iload_n 2, 1) := by decide +kernel
theorem dX5_linked_26 : decode cX5_linked 26 = .ok (.if_icmp .ne 6, 3) := by decide +kernel
theorem dX5_linked_29 : decode cX5_linked 29 = .ok (.bipush (-3), 2) := by decide +kernel
theorem dX5_linked_31 : decode cX5_linked 31 = .ok (.ireturn, 1) := by decide +kernel
theorem dX5_linked_32 : decode cX5_linked 32 = .ok (.sipush 1000, 3) := by decide +kernel
theorem dX5_linked_35 : decode cX5_linked 35 = .ok (.aload_n 0, 1) := by decide +kernel
theorem dX5_linked_36 : decode cX5_linked 36 = .ok (.getfield 33, 3) := by decide +kernel
theorem dX5_linked_39 : decode cX5_linked 39 = .ok (.aload_n 0, 1) := by decide +kernel
theorem dX5_linked_40 : decode cX5_linked 40 = .ok (.getfield 26, 3) := by decide +kernel
theorem dX5_linked_43 : decode cX5_linked 43 = .ok (.iload_n 1, 1) := by decide +kernel
theorem dX5_linked_44 : decode cX5_linked 44 = .ok (.iload_n 2, 1) := by decide +kernel
theorem dX5_linked_45 : decode cX5_linked 45 = .ok (.invokevirtual 175, 3) := by decide +kernel
theorem dX5_linked_48 : decode cX5_linked 48 = .ok (.iconst 2, 1) := by decide +kernel
theorem dX5_linked_49 : decode cX5_linked 49 = .ok (.idiv, 1) := by decide +kernel
theorem dX5_linked_50 : decode cX5_linked 50 = .ok (.iadd, 1) := by decide +kernel
theorem dX5_linked_51 : decode cX5_linked 51 = .ok (.ireturn, 1) := by decide +kernel
theorem dX5_colours_0 : decode cX5_colours 0 = .ok (.iload_n 1, 1) := by decide +kernel
theorem dX5_colours_1 : decode cX5_colours 1 = .ok (.iconst 3, 1) := by decide +kernel
theorem dX5_colours_2 : decode cX5_colours 2 = .ok (.if_icmp .eq 17, 3) := by decide +kernel
theorem dX5_colours_5 : decode cX5_colours 5 = .ok (.iload_n 1, 1) := by decide +kernel
theorem dX5_colours_6 : decode cX5_colours 6 = .ok (.iconst 5, 1) := by decide +kernel
theorem dX5_colours_7 : decode cX5_colours 7 = .ok (.if_icmp .eq 12, 3) := by decide +kernel
theorem dX5_colours_10 : decode cX5_colours 10 = .ok (.iload_n 1, 1) := by decide +kernel
theorem dX5_colours_11 : decode cX5_colours 11 = .ok (.bipush 7, 2) := by decide +kernel
theorem dX5_colours_13 : decode cX5_colours 13 = .ok (.if_icmp .eq 6, 3) := by decide +kernel
theorem dX5_colours_16 : decode cX5_colours 16 = .ok (.bipush (-2), 2) := by decide +kernel
theorem dX5_colours_18 : decode cX5_colours 18 = .ok (.ireturn, 1) := by decide +kernel
theorem dX5_colours_19 : decode cX5_colours 19 = .ok (.aload_n 0, 1) := by decide +kernel
theorem dX5_colours_20 : decode cX5_colours 20 = .ok (.getfield 40, 3) := by decide +kernel
theorem dX5_colours_23 : decode cX5_colours 23 = .ok (.aload_n 0, 1) := by decide +kernel
theorem dX5_colours_24 : decode cX5_colours 24 = .ok (.getfield 26, 3) := by decide +kernel
theorem dX5_colours_27 : decode cX5_colours 27 = .ok (.aload_n 0, 1) := by decide +kernel
theorem dX5_colours_28 : decode cX5_colours 28 = .ok (.getfield 33, 3) := by decide +kernel
theorem dX5_colours_31 : decode cX5_colours 31 = .ok (.iload_n 1, 1) := by decide +kernel
theorem dX5_colours_32 : decode cX5_colours 32 = .ok (.invokevirtual 178, 3) := by decide +kernel
theorem dX5_colours_35 : decode cX5_colours 35 = .ok (.ireturn, 1) := by decide +kernel
theorem dX5_by_0 : decode cX5_by 0 = .ok (.aload_n 0, 1) := by decide +kernel
theorem dX5_by_1 : decode cX5_by 1 = .ok (.getfield 19, 3) := by decide +kernel
theorem dX5_by_4 : decode cX5_by 4 = .ok (.iload_n 1, 1) := by decide +kernel
theorem dX5_by_5 : decode cX5_by 5 = .ok (.invokevirtual 94, 3) := by decide +kernel
theorem dX5_by_8 : decode cX5_by 8 = .ok (.istore_n 3, 1) := by decide +kernel
theorem dX5_by_9 : decode cX5_by 9 = .ok (.iload_n 3, 1) := by decide +kernel
theorem dX5_by_10 : decode cX5_by 10 = .ok (.ifCond .ge 5, 3) := by decide +kernel
theorem dX5_by_13 : decode cX5_by 13 = .ok (.iconst (-1), 1) := by decide +kernel
theorem dX5_by_14 : decode cX5_by 14 = .ok (.ireturn, 1) := by decide +kernel
theorem dX5_by_15 : decode cX5_by 15 = .ok (.iload_n 2, 1) := by decide +kernel
theorem dX5_by_16 : decode cX5_by 16 = .ok (.ifCond .lt 8, 3) := by decide +kernel
theorem dX5_by_19 : decode cX5_by 19 = .ok (.iload_n 2, 1) := by decide +kernel
theorem dX5_by_20 : decode cX5_by 20 = .ok (.iconst 2, 1) := by decide +kernel
theorem dX5_by_21 : decode cX5_by 21 = .ok (.if_icmp .le 6, 3) := by decide +kernel
theorem dX5_by_24 : decode cX5_by 24 = .ok (.bipush (-2), 2) := by decide +kernel
theorem dX5_by_26 : decode cX5_by 26 = .ok (.ireturn, 1) := by decide +kernel
theorem dX5_by_27 : decode cX5_by 27 = .ok (.aload_n 0, 1) := by decide +kernel
theorem dX5_by_28 : decode cX5_by 28 = .ok (.iload_n 3, 1) := by decide +kernel
theorem dX5_by_29 : decode cX5_by 29 = .ok (.iload_n 2, 1) := by decide +kernel
theorem dX5_by_30 : decode cX5_by 30 = .ok (.invokevirtual 182, 3) := by decide +kernel
theorem dX5_by_33 : decode cX5_by 33 = .ok (.ireturn, 1) := by decide +kernel
theorem dX5_most_0 : decode cX5_most 0 = .ok (.iload_n 1, 1) := by decide +kernel
theorem dX5_most_1 : decode cX5_most 1 = .ok (.iconst 1, 1) := by decide +kernel
theorem dX5_most_2 : decode cX5_most 2 = .ok (.if_icmp .eq 11, 3) := by decide +kernel
theorem dX5_most_5 : decode cX5_most 5 = .ok (.iload_n 1, 1) := by decide +kernel
theorem dX5_most_6 : decode cX5_most 6 = .ok (.iconst 2, 1) := by decide +kernel
theorem dX5_most_7 : decode cX5_most 7 = .ok (.if_icmp .eq 6, 3) := by decide +kernel
theorem dX5_most_10 : decode cX5_most 10 = .ok (.bipush (-2), 2) := by decide +kernel
theorem dX5_most_12 : decode cX5_most 12 = .ok (.ireturn, 1) := by decide +kernel
theorem dX5_most_13 : decode cX5_most 13 = .ok (.bipush (-9), 2) := by decide +kernel
theorem dX5_most_15 : decode cX5_most 15 = .ok (.istore_n 2, 1) := by decide +kernel
theorem dX5_most_16 : decode cX5_most 16 = .ok (.iconst 0, 1) := by decide +kernel
theorem dX5_most_17 : decode cX5_most 17 = .ok (.istore_n 3, 1) := by decide +kernel
theorem dX5_most_18 : decode cX5_most 18 = .ok (.iconst 0, 1) := by decide +kernel
theorem dX5_most_19 : decode cX5_most 19 = .ok (.istore 4, 2) := by decide +kernel
theorem dX5_most_21 : decode cX5_most 21 = .ok (.iload 4, 2) := by decide +kernel
theorem dX5_most_23 : decode cX5_most 23 = .ok (.aload_n 0, 1) := by decide +kernel
theorem dX5_most_24 : decode cX5_most 24 = .ok (.getfield 19, 3) := by decide +kernel
theorem dX5_most_27 : decode cX5_most 27 = .ok (.getfield 84, 3) := by decide +kernel
theorem dX5_most_30 : decode cX5_most 30 = .ok (.if_icmp .ge 49, 3) := by decide +kernel
theorem dX5_most_33 : decode cX5_most 33 = .ok (.aload_n 0, 1) := by decide +kernel
theorem dX5_most_34 : decode cX5_most 34 = .ok (.getfield 19, 3) := by decide +kernel
theorem dX5_most_37 : decode cX5_most 37 = .ok (.iload 4, 2) := by decide +kernel
theorem dX5_most_39 : decode cX5_most 39 = .ok (.invokevirtual 159, 3) := by decide +kernel
theorem dX5_most_42 : decode cX5_most 42 = .ok (.ifCond .eq 31, 3) := by decide +kernel
theorem dX5_most_45 : decode cX5_most 45 = .ok (.aload_n 0, 1) := by decide +kernel
theorem dX5_most_46 : decode cX5_most 46 = .ok (.iload 4, 2) := by decide +kernel
theorem dX5_most_48 : decode cX5_most 48 = .ok (.iload_n 1, 1) := by decide +kernel
theorem dX5_most_49 : decode cX5_most 49 = .ok (.invokevirtual 182, 3) := by decide +kernel
theorem dX5_most_52 : decode cX5_most 52 = .ok (.istore 5, 2) := by decide +kernel
theorem dX5_most_54 : decode cX5_most 54 = .ok (.iload 5, 2) := by decide +kernel
theorem dX5_most_56 : decode cX5_most 56 = .ok (.iload_n 3, 1) := by decide +kernel
theorem dX5_most_57 : decode cX5_most 57 = .ok (.if_icmp .le 16, 3) := by decide +kernel
theorem dX5_most_60 : decode cX5_most 60 = .ok (.iload 5, 2) := by decide +kernel
theorem dX5_most_62 : decode cX5_most 62 = .ok (.istore_n 3, 1) := by decide +kernel
theorem dX5_most_63 : decode cX5_most 63 = .ok (.aload_n 0, 1) := by decide +kernel
theorem dX5_most_64 : decode cX5_most 64 = .ok (.getfield 19, 3) := by decide +kernel
theorem dX5_most_67 : decode cX5_most 67 = .ok (.iload 4, 2) := by decide +kernel
theorem dX5_most_69 : decode cX5_most 69 = .ok (.invokevirtual 185, 3) := by decide +kernel
theorem dX5_most_72 : decode cX5_most 72 = .ok (.istore_n 2, 1) := by decide +kernel
theorem dX5_most_73 : decode cX5_most 73 = .ok (.iinc 4 1, 3) := by decide +kernel
theorem dX5_most_76 : decode cX5_most 76 = .ok (.goto (-55), 3) := by decide +kernel
theorem dX5_most_79 : decode cX5_most 79 = .ok (.iload_n 2, 1) := by decide +kernel
theorem dX5_most_80 : decode cX5_most 80 = .ok (.ireturn, 1) := by decide +kernel
theorem dX5_one_0 : decode cX5_one 0 = .ok (.aload_n 0, 1) := by decide +kernel
theorem dX5_one_1 : decode cX5_one 1 = .ok (.invokevirtual 120, 3) := by decide +kernel
theorem dX5_one_4 : decode cX5_one 4 = .ok (.iconst 1, 1) := by decide +kernel
theorem dX5_one_5 : decode cX5_one 5 = .ok (.if_icmp .ne 13, 3) := by decide +kernel
theorem dX5_one_8 : decode cX5_one 8 = .ok (.aload_n 0, 1) := by decide +kernel
theorem dX5_one_9 : decode cX5_one 9 = .ok (.getfield 33, 3) := by decide +kernel
theorem dX5_one_12 : decode cX5_one 12 = .ok (.getfield 188, 3) := by decide +kernel
theorem dX5_one_15 : decode cX5_one 15 = .ok (.goto 5, 3) := by decide +kernel
theorem dX5_one_18 : decode cX5_one 18 = .ok (.bipush (-9), 2) := by decide +kernel
theorem dX5_one_20 : decode cX5_one 20 = .ok (.ireturn, 1) := by decide +kernel
theorem dX5_oneAt_0 : decode cX5_oneAt 0 = .ok (.aload_n 0, 1) := by decide +kernel
theorem dX5_oneAt_1 : decode cX5_oneAt 1 = .ok (.invokevirtual 120, 3) := by decide +kernel
theorem dX5_oneAt_4 : decode cX5_oneAt 4 = .ok (.iconst 1, 1) := by decide +kernel
theorem dX5_oneAt_5 : decode cX5_oneAt 5 = .ok (.if_icmp .ne 18, 3) := by decide +kernel
theorem dX5_oneAt_8 : decode cX5_oneAt 8 = .ok (.iload_n 1, 1) := by decide +kernel
theorem dX5_oneAt_9 : decode cX5_oneAt 9 = .ok (.ifCond .lt 14, 3) := by decide +kernel
theorem dX5_oneAt_12 : decode cX5_oneAt 12 = .ok (.iload_n 1, 1) := by decide +kernel
theorem dX5_oneAt_13 : decode cX5_oneAt 13 = .ok (.aload_n 0, 1) := by decide +kernel
theorem dX5_oneAt_14 : decode cX5_oneAt 14 = .ok (.getfield 33, 3) := by decide +kernel
theorem dX5_oneAt_17 : decode cX5_oneAt 17 = .ok (.getfield 188, 3) := by decide +kernel
theorem dX5_oneAt_20 : decode cX5_oneAt 20 = .ok (.if_icmp .lt 6, 3) := by decide +kernel
theorem dX5_oneAt_23 : decode cX5_oneAt 23 = .ok (.bipush (-9), 2) := by decide +kernel
theorem dX5_oneAt_25 : decode cX5_oneAt 25 = .ok (.ireturn, 1) := by decide +kernel
theorem dX5_oneAt_26 : decode cX5_oneAt 26 = .ok (.aload_n 0, 1) := by decide +kernel
theorem dX5_oneAt_27 : decode cX5_oneAt 27 = .ok (.getfield 19, 3) := by decide +kernel
theorem dX5_oneAt_30 : decode cX5_oneAt 30 = .ok (.aload_n 0, 1) := by decide +kernel
theorem dX5_oneAt_31 : decode cX5_oneAt 31 = .ok (.getfield 33, 3) := by decide +kernel
theorem dX5_oneAt_34 : decode cX5_oneAt 34 = .ok (.iload_n 1, 1) := by decide +kernel
theorem dX5_oneAt_35 : decode cX5_oneAt 35 = .ok (.invokevirtual 191, 3) := by decide +kernel
theorem dX5_oneAt_38 : decode cX5_oneAt 38 = .ok (.invokevirtual 185, 3) := by decide +kernel
theorem dX5_oneAt_41 : decode cX5_oneAt 41 = .ok (.ireturn, 1) := by decide +kernel
theorem dX5_same_0 : decode cX5_same 0 = .ok (.iload_n 1, 1) := by decide +kernel
theorem dX5_same_1 : decode cX5_same 1 = .ok (.ifCond .lt 9, 3) := by decide +kernel
theorem dX5_same_4 : decode cX5_same 4 = .ok (.iload_n 1, 1) := by decide +kernel
theorem dX5_same_5 : decode cX5_same 5 = .ok (.bipush 7, 2) := by decide +kernel
theorem dX5_same_7 : decode cX5_same 7 = .ok (.if_icmp .le 6, 3) := by decide +kernel
theorem dX5_same_10 : decode cX5_same 10 = .ok (.bipush (-2), 2) := by decide +kernel
theorem dX5_same_12 : decode cX5_same 12 = .ok (.ireturn, 1) := by decide +kernel
theorem dX5_same_13 : decode cX5_same 13 = .ok (.aload_n 0, 1) := by decide +kernel
theorem dX5_same_14 : decode cX5_same 14 = .ok (.getfield 19, 3) := by decide +kernel
theorem dX5_same_17 : decode cX5_same 17 = .ok (.iload_n 1, 1) := by decide +kernel
theorem dX5_same_18 : decode cX5_same 18 = .ok (.iconst 4, 1) := by decide +kernel
theorem dX5_same_19 : decode cX5_same 19 = .ok (.irem, 1) := by decide +kernel
theorem dX5_same_20 : decode cX5_same 20 = .ok (.iload_n 1, 1) := by decide +kernel
theorem dX5_same_21 : decode cX5_same 21 = .ok (.iconst 4, 1) := by decide +kernel
theorem dX5_same_22 : decode cX5_same 22 = .ok (.if_icmp .lt 7, 3) := by decide +kernel
theorem dX5_same_25 : decode cX5_same 25 = .ok (.iconst 1, 1) := by decide +kernel
theorem dX5_same_26 : decode cX5_same 26 = .ok (.goto 4, 3) := by decide +kernel
theorem dX5_same_29 : decode cX5_same 29 = .ok (.iconst 0, 1) := by decide +kernel
theorem dX5_same_30 : decode cX5_same 30 = .ok (.invokevirtual 194, 3) := by decide +kernel
theorem dX5_same_33 : decode cX5_same 33 = .ok (.ifCond .eq 7, 3) := by decide +kernel
theorem dX5_same_36 : decode cX5_same 36 = .ok (.iconst 1, 1) := by decide +kernel
theorem dX5_same_37 : decode cX5_same 37 = .ok (.goto 4, 3) := by decide +kernel
theorem dX5_same_40 : decode cX5_same 40 = .ok (.iconst 0, 1) := by decide +kernel
theorem dX5_same_41 : decode cX5_same 41 = .ok (.ireturn, 1) := by decide +kernel
theorem dX5_keep_0 : decode cX5_keep 0 = .ok (.iload_n 1, 1) := by decide +kernel
theorem dX5_keep_1 : decode cX5_keep 1 = .ok (.ifCond .lt 8, 3) := by decide +kernel
theorem dX5_keep_4 : decode cX5_keep 4 = .ok (.iload_n 1, 1) := by decide +kernel
theorem dX5_keep_5 : decode cX5_keep 5 = .ok (.iconst 2, 1) := by decide +kernel
theorem dX5_keep_6 : decode cX5_keep 6 = .ok (.if_icmp .lt 5, 3) := by decide +kernel
theorem dX5_keep_9 : decode cX5_keep 9 = .ok (.iconst (-1), 1) := by decide +kernel
theorem dX5_keep_10 : decode cX5_keep 10 = .ok (.ireturn, 1) := by decide +kernel
theorem dX5_keep_11 : decode cX5_keep 11 = .ok (.aload_n 0, 1) := by decide +kernel
theorem dX5_keep_12 : decode cX5_keep 12 = .ok (.getfield 53, 3) := by decide +kernel
theorem dX5_keep_15 : decode cX5_keep 15 = .ok (.iload_n 1, 1) := by decide +kernel
theorem dX5_keep_16 : decode cX5_keep 16 = .ok (.aaload, 1) := by decide +kernel
theorem dX5_keep_17 : decode cX5_keep 17 = .ok (.astore_n 2, 1) := by decide +kernel
theorem dX5_keep_18 : decode cX5_keep 18 = .ok (.aload_n 2, 1) := by decide +kernel
theorem dX5_keep_19 : decode cX5_keep 19 = .ok (.ifnonnull 18, 3) := by decide +kernel
theorem dX5_keep_22 : decode cX5_keep 22 = .ok (.new 16, 3) := by decide +kernel
theorem dX5_keep_25 : decode cX5_keep 25 = .ok (.dup, 1) := by decide +kernel
theorem dX5_keep_26 : decode cX5_keep 26 = .ok (.invokespecial 18, 3) := by decide +kernel
theorem dX5_keep_29 : decode cX5_keep 29 = .ok (.astore_n 2, 1) := by decide +kernel
theorem dX5_keep_30 : decode cX5_keep 30 = .ok (.aload_n 0, 1) := by decide +kernel
theorem dX5_keep_31 : decode cX5_keep 31 = .ok (.getfield 53, 3) := by decide +kernel
theorem dX5_keep_34 : decode cX5_keep 34 = .ok (.iload_n 1, 1) := by decide +kernel
theorem dX5_keep_35 : decode cX5_keep 35 = .ok (.aload_n 2, 1) := by decide +kernel
theorem dX5_keep_36 : decode cX5_keep 36 = .ok (.aastore, 1) := by decide +kernel
theorem dX5_keep_37 : decode cX5_keep 37 = .ok (.aload_n 2, 1) := by decide +kernel
theorem dX5_keep_38 : decode cX5_keep 38 = .ok (.aload_n 0, 1) := by decide +kernel
theorem dX5_keep_39 : decode cX5_keep 39 = .ok (.getfield 19, 3) := by decide +kernel
theorem dX5_keep_42 : decode cX5_keep 42 = .ok (.invokevirtual 80, 3) := by decide +kernel
theorem dX5_keep_45 : decode cX5_keep 45 = .ok (.aload_n 0, 1) := by decide +kernel
theorem dX5_keep_46 : decode cX5_keep 46 = .ok (.getfield 19, 3) := by decide +kernel
theorem dX5_keep_49 : decode cX5_keep 49 = .ok (.getfield 84, 3) := by decide +kernel
theorem dX5_keep_52 : decode cX5_keep 52 = .ok (.ireturn, 1) := by decide +kernel
theorem dX5_again_0 : decode cX5_again 0 = .ok (.iload_n 1, 1) := by decide +kernel
theorem dX5_again_1 : decode cX5_again 1 = .ok (.ifCond .lt 8, 3) := by decide +kernel
theorem dX5_again_4 : decode cX5_again 4 = .ok (.iload_n 1, 1) := by decide +kernel
theorem dX5_again_5 : decode cX5_again 5 = .ok (.iconst 2, 1) := by decide +kernel
theorem dX5_again_6 : decode cX5_again 6 = .ok (.if_icmp .lt 5, 3) := by decide +kernel
theorem dX5_again_9 : decode cX5_again 9 = .ok (.iconst (-1), 1) := by decide +kernel
theorem dX5_again_10 : decode cX5_again 10 = .ok (.ireturn, 1) := by decide +kernel
theorem dX5_again_11 : decode cX5_again 11 = .ok (.aload_n 0, 1) := by decide +kernel
theorem dX5_again_12 : decode cX5_again 12 = .ok (.getfield 53, 3) := by decide +kernel
theorem dX5_again_15 : decode cX5_again 15 = .ok (.iload_n 1, 1) := by decide +kernel
theorem dX5_again_16 : decode cX5_again 16 = .ok (.aaload, 1) := by decide +kernel
theorem dX5_again_17 : decode cX5_again 17 = .ok (.astore_n 2, 1) := by decide +kernel
theorem dX5_again_18 : decode cX5_again 18 = .ok (.aload_n 2, 1) := by decide +kernel
theorem dX5_again_19 : decode cX5_again 19 = .ok (.ifnonnull 6, 3) := by decide +kernel
theorem dX5_again_22 : decode cX5_again 22 = .ok (.bipush (-3), 2) := by decide +kernel
theorem dX5_again_24 : decode cX5_again 24 = .ok (.ireturn, 1) := by decide +kernel
theorem dX5_again_25 : decode cX5_again 25 = .ok (.aload_n 0, 1) := by decide +kernel
theorem dX5_again_26 : decode cX5_again 26 = .ok (.getfield 19, 3) := by decide +kernel
theorem dX5_again_29 : decode cX5_again 29 = .ok (.aload_n 2, 1) := by decide +kernel
theorem dX5_again_30 : decode cX5_again 30 = .ok (.invokevirtual 80, 3) := by decide +kernel
theorem dX5_again_33 : decode cX5_again 33 = .ok (.aload_n 0, 1) := by decide +kernel
theorem dX5_again_34 : decode cX5_again 34 = .ok (.invokevirtual 61, 3) := by decide +kernel
theorem dX5_again_37 : decode cX5_again 37 = .ok (.aload_n 0, 1) := by decide +kernel
theorem dX5_again_38 : decode cX5_again 38 = .ok (.getfield 19, 3) := by decide +kernel
theorem dX5_again_41 : decode cX5_again 41 = .ok (.getfield 84, 3) := by decide +kernel
theorem dX5_again_44 : decode cX5_again 44 = .ok (.ireturn, 1) := by decide +kernel
theorem dX5_redraw_0 : decode cX5_redraw 0 = .ok (.aload_n 0, 1) := by decide +kernel
theorem dX5_redraw_1 : decode cX5_redraw 1 = .ok (.getfield 26, 3) := by decide +kernel
theorem dX5_redraw_4 : decode cX5_redraw 4 = .ok (.aload_n 0, 1) := by decide +kernel
theorem dX5_redraw_5 : decode cX5_redraw 5 = .ok (.getfield 19, 3) := by decide +kernel
theorem dX5_redraw_8 : decode cX5_redraw 8 = .ok (.invokevirtual 198, 3) := by decide +kernel
theorem dX5_redraw_11 : decode cX5_redraw 11 = .ok (.aload_n 0, 1) := by decide +kernel
theorem dX5_redraw_12 : decode cX5_redraw 12 = .ok (.getfield 33, 3) := by decide +kernel
theorem dX5_redraw_15 : decode cX5_redraw 15 = .ok (.aload_n 0, 1) := by decide +kernel
theorem dX5_redraw_16 : decode cX5_redraw 16 = .ok (.getfield 19, 3) := by decide +kernel
theorem dX5_redraw_19 : decode cX5_redraw 19 = .ok (.aload_n 0, 1) := by decide +kernel
theorem dX5_redraw_20 : decode cX5_redraw 20 = .ok (.getfield 26, 3) := by decide +kernel
theorem dX5_redraw_23 : decode cX5_redraw 23 = .ok (.invokevirtual 201, 3) := by decide +kernel
theorem dX5_redraw_26 : decode cX5_redraw 26 = .ok (.return_, 1) := by decide +kernel
theorem dX5_parts_0 : decode cX5_parts 0 = .ok (.aload_n 0, 1) := by decide +kernel
theorem dX5_parts_1 : decode cX5_parts 1 = .ok (.getfield 26, 3) := by decide +kernel
theorem dX5_parts_4 : decode cX5_parts 4 = .ok (.getfield 117, 3) := by decide +kernel
theorem dX5_parts_7 : decode cX5_parts 7 = .ok (.aload_n 0, 1) := by decide +kernel
theorem dX5_parts_8 : decode cX5_parts 8 = .ok (.getfield 33, 3) := by decide +kernel
theorem dX5_parts_11 : decode cX5_parts 11 = .ok (.getfield 188, 3) := by decide +kernel
theorem dX5_parts_14 : decode cX5_parts 14 = .ok (.isub, 1) := by decide +kernel
theorem dX5_parts_15 : decode cX5_parts 15 = .ok (.ireturn, 1) := by decide +kernel
theorem dX5_countLoopsBy_0 : decode cX5_countLoopsBy 0 = .ok (.aload_n 0, 1) := by decide +kernel
theorem dX5_countLoopsBy_1 : decode cX5_countLoopsBy 1 = .ok (.getfield 47, 3) := by decide +kernel
theorem dX5_countLoopsBy_4 : decode cX5_countLoopsBy 4 = .ok (.aload_n 0, 1) := by decide +kernel
theorem dX5_countLoopsBy_5 : decode cX5_countLoopsBy 5 = .ok (.getfield 19, 3) := by decide +kernel
theorem dX5_countLoopsBy_8 : decode cX5_countLoopsBy 8 = .ok (.invokevirtual 80, 3) := by decide +kernel
theorem dX5_countLoopsBy_11 : decode cX5_countLoopsBy 11 = .ok (.aload_n 0, 1) := by decide +kernel
theorem dX5_countLoopsBy_12 : decode cX5_countLoopsBy 12 = .ok (.getfield 47, 3) := by decide +kernel
theorem dX5_countLoopsBy_15 : decode cX5_countLoopsBy 15 = .ok (.iload_n 1, 1) := by decide +kernel
theorem dX5_countLoopsBy_16 : decode cX5_countLoopsBy 16 = .ok (.iload_n 2, 1) := by decide +kernel
theorem dX5_countLoopsBy_17 : decode cX5_countLoopsBy 17 = .ok (.invokevirtual 101, 3) := by decide +kernel
theorem dX5_countLoopsBy_20 : decode cX5_countLoopsBy 20 = .ok (.aload_n 0, 1) := by decide +kernel
theorem dX5_countLoopsBy_21 : decode cX5_countLoopsBy 21 = .ok (.getfield 50, 3) := by decide +kernel
theorem dX5_countLoopsBy_24 : decode cX5_countLoopsBy 24 = .ok (.aload_n 0, 1) := by decide +kernel
theorem dX5_countLoopsBy_25 : decode cX5_countLoopsBy 25 = .ok (.getfield 47, 3) := by decide +kernel
theorem dX5_countLoopsBy_28 : decode cX5_countLoopsBy 28 = .ok (.invokevirtual 198, 3) := by decide +kernel
theorem dX5_countLoopsBy_31 : decode cX5_countLoopsBy 31 = .ok (.aload_n 0, 1) := by decide +kernel
theorem dX5_countLoopsBy_32 : decode cX5_countLoopsBy 32 = .ok (.getfield 50, 3) := by decide +kernel
theorem dX5_countLoopsBy_35 : decode cX5_countLoopsBy 35 = .ok (.getfield 117, 3) := by decide +kernel
theorem dX5_countLoopsBy_38 : decode cX5_countLoopsBy 38 = .ok (.ireturn, 1) := by decide +kernel
theorem dX5_isSquares_0 : decode cX5_isSquares 0 = .ok (.iload_n 0, 1) := by decide +kernel
theorem dX5_isSquares_1 : decode cX5_isSquares 1 = .ok (.iconst 1, 1) := by decide +kernel
theorem dX5_isSquares_2 : decode cX5_isSquares 2 = .ok (.if_icmp .lt 13, 3) := by decide +kernel
theorem dX5_isSquares_5 : decode cX5_isSquares 5 = .ok (.iload_n 0, 1) := by decide +kernel
theorem dX5_isSquares_6 : decode cX5_isSquares 6 = .ok (.bipush 6, 2) := by decide +kernel
theorem dX5_isSquares_8 : decode cX5_isSquares 8 = .ok (.if_icmp .gt 7, 3) := by decide +kernel
theorem dX5_isSquares_11 : decode cX5_isSquares 11 = .ok (.iconst 1, 1) := by decide +kernel
theorem dX5_isSquares_12 : decode cX5_isSquares 12 = .ok (.goto 4, 3) := by decide +kernel
theorem dX5_isSquares_15 : decode cX5_isSquares 15 = .ok (.iconst 0, 1) := by decide +kernel
theorem dX5_isSquares_16 : decode cX5_isSquares 16 = .ok (.ireturn, 1) := by decide +kernel
theorem dX5_isIn_0 : decode cX5_isIn 0 = .ok (.iload_n 1, 1) := by decide +kernel
theorem dX5_isIn_1 : decode cX5_isIn 1 = .ok (.ifCond .lt 13, 3) := by decide +kernel
theorem dX5_isIn_4 : decode cX5_isIn 4 = .ok (.iload_n 1, 1) := by decide +kernel
theorem dX5_isIn_5 : decode cX5_isIn 5 = .ok (.aload_n 0, 1) := by decide +kernel
theorem dX5_isIn_6 : decode cX5_isIn 6 = .ok (.arraylength, 1) := by decide +kernel
theorem dX5_isIn_7 : decode cX5_isIn 7 = .ok (.if_icmp .ge 7, 3) := by decide +kernel
theorem dX5_isIn_10 : decode cX5_isIn 10 = .ok (.iconst 1, 1) := by decide +kernel
theorem dX5_isIn_11 : decode cX5_isIn 11 = .ok (.goto 4, 3) := by decide +kernel
theorem dX5_isIn_14 : decode cX5_isIn 14 = .ok (.iconst 0, 1) := by decide +kernel
theorem dX5_isIn_15 : decode cX5_isIn 15 = .ok (.ireturn, 1) := by decide +kernel
theorem dX5_at_0 : decode cX5_at 0 = .ok (.iload_n 1, 1) := by decide +kernel
theorem dX5_at_1 : decode cX5_at 1 = .ok (.ifCond .lt 15, 3) := by decide +kernel
theorem dX5_at_4 : decode cX5_at 4 = .ok (.iload_n 1, 1) := by decide +kernel
theorem dX5_at_5 : decode cX5_at 5 = .ok (.aload_n 0, 1) := by decide +kernel
theorem dX5_at_6 : decode cX5_at 6 = .ok (.arraylength, 1) := by decide +kernel
theorem dX5_at_7 : decode cX5_at 7 = .ok (.if_icmp .ge 9, 3) := by decide +kernel
theorem dX5_at_10 : decode cX5_at 10 = .ok (.aload_n 0, 1) := by decide +kernel
theorem dX5_at_11 : decode cX5_at 11 = .ok (.iload_n 1, 1) := by decide +kernel
theorem dX5_at_12 : decode cX5_at 12 = .ok (.iaload, 1) := by decide +kernel
theorem dX5_at_13 : decode cX5_at 13 = .ok (.goto 5, 3) := by decide +kernel
theorem dX5_at_16 : decode cX5_at 16 = .ok (.bipush (-9), 2) := by decide +kernel
theorem dX5_at_18 : decode cX5_at 18 = .ok (.ireturn, 1) := by decide +kernel
theorem dX6_init_0 : decode cX6_init 0 = .ok (.aload_n 0, 1) := by decide +kernel
theorem dX6_init_1 : decode cX6_init 1 = .ok (.invokespecial 1, 3) := by decide +kernel
theorem dX6_init_4 : decode cX6_init 4 = .ok (.aload_n 0, 1) := by decide +kernel
theorem dX6_init_5 : decode cX6_init 5 = .ok (.sipush 169, 3) := by decide +kernel
theorem dX6_init_8 : decode cX6_init 8 = .ok (.newarray .int, 2) := by decide +kernel
theorem dX6_init_10 : decode cX6_init 10 = .ok (.putfield 7, 3) := by decide +kernel
theorem dX6_init_13 : decode cX6_init 13 = .ok (.aload_n 0, 1) := by decide +kernel
theorem dX6_init_14 : decode cX6_init 14 = .ok (.sipush 169, 3) := by decide +kernel
theorem dX6_init_17 : decode cX6_init 17 = .ok (.newarray .int, 2) := by decide +kernel
theorem dX6_init_19 : decode cX6_init 19 = .ok (.putfield 13, 3) := by decide +kernel
theorem dX6_init_22 : decode cX6_init 22 = .ok (.aload_n 0, 1) := by decide +kernel
theorem dX6_init_23 : decode cX6_init 23 = .ok (.sipush 169, 3) := by decide +kernel
theorem dX6_init_26 : decode cX6_init 26 = .ok (.newarray .boolean, 2) := by decide +kernel
theorem dX6_init_28 : decode cX6_init 28 = .ok (.putfield 16, 3) := by decide +kernel
theorem dX6_init_31 : decode cX6_init 31 = .ok (.aload_n 0, 1) := by decide +kernel
theorem dX6_init_32 : decode cX6_init 32 = .ok (.bipush 72, 2) := by decide +kernel
theorem dX6_init_34 : decode cX6_init 34 = .ok (.newarray .int, 2) := by decide +kernel
theorem dX6_init_36 : decode cX6_init 36 = .ok (.putfield 20, 3) := by decide +kernel
theorem dX6_init_39 : decode cX6_init 39 = .ok (.aload_n 0, 1) := by decide +kernel
theorem dX6_init_40 : decode cX6_init 40 = .ok (.sipush 144, 3) := by decide +kernel
theorem dX6_init_43 : decode cX6_init 43 = .ok (.newarray .int, 2) := by decide +kernel
theorem dX6_init_45 : decode cX6_init 45 = .ok (.putfield 23, 3) := by decide +kernel
theorem dX6_init_48 : decode cX6_init 48 = .ok (.aload_n 0, 1) := by decide +kernel
theorem dX6_init_49 : decode cX6_init 49 = .ok (.sipush 144, 3) := by decide +kernel
theorem dX6_init_52 : decode cX6_init 52 = .ok (.newarray .boolean, 2) := by decide +kernel
theorem dX6_init_54 : decode cX6_init 54 = .ok (.putfield 26, 3) := by decide +kernel
theorem dX6_init_57 : decode cX6_init 57 = .ok (.aload_n 0, 1) := by decide +kernel
theorem dX6_init_58 : decode cX6_init 58 = .ok (.sipush 144, 3) := by decide +kernel
theorem dX6_init_61 : decode cX6_init 61 = .ok (.newarray .int, 2) := by decide +kernel
theorem dX6_init_63 : decode cX6_init 63 = .ok (.putfield 29, 3) := by decide +kernel
theorem dX6_init_66 : decode cX6_init 66 = .ok (.aload_n 0, 1) := by decide +kernel
theorem dX6_init_67 : decode cX6_init 67 = .ok (.sipush 145, 3) := by decide +kernel
theorem dX6_init_70 : decode cX6_init 70 = .ok (.newarray .int, 2) := by decide +kernel
theorem dX6_init_72 : decode cX6_init 72 = .ok (.putfield 32, 3) := by decide +kernel
theorem dX6_init_75 : decode cX6_init 75 = .ok (.aload_n 0, 1) := by decide +kernel
theorem dX6_init_76 : decode cX6_init 76 = .ok (.sipush 144, 3) := by decide +kernel
theorem dX6_init_79 : decode cX6_init 79 = .ok (.newarray .int, 2) := by decide +kernel
theorem dX6_init_81 : decode cX6_init 81 = .ok (.putfield 35, 3) := by decide +kernel
theorem dX6_init_84 : decode cX6_init 84 = .ok (.aload_n 0, 1) := by decide +kernel
theorem dX6_init_85 : decode cX6_init 85 = .ok (.sipush 169, 3) := by decide +kernel
theorem dX6_init_88 : decode cX6_init 88 = .ok (.newarray .int, 2) := by decide +kernel
theorem dX6_init_90 : decode cX6_init 90 = .ok (.putfield 38, 3) := by decide +kernel
theorem dX6_init_93 : decode cX6_init 93 = .ok (.aload_n 0, 1) := by decide +kernel
theorem dX6_init_94 : decode cX6_init 94 = .ok (.sipush 169, 3) := by decide +kernel
theorem dX6_init_97 : decode cX6_init 97 = .ok (.newarray .int, 2) := by decide +kernel
theorem dX6_init_99 : decode cX6_init 99 = .ok (.putfield 41, 3) := by decide +kernel
theorem dX6_init_102 : decode cX6_init 102 = .ok (.aload_n 0, 1) := by decide +kernel
theorem dX6_init_103 : decode cX6_init 103 = .ok (.sipush 169, 3) := by decide +kernel
theorem dX6_init_106 : decode cX6_init 106 = .ok (.newarray .int, 2) := by decide +kernel
theorem dX6_init_108 : decode cX6_init 108 = .ok (.putfield 44, 3) := by decide +kernel
theorem dX6_init_111 : decode cX6_init 111 = .ok (.aload_n 0, 1) := by decide +kernel
theorem dX6_init_112 : decode cX6_init 112 = .ok (.sipush 10609, 3) := by decide +kernel
theorem dX6_init_115 : decode cX6_init 115 = .ok (.newarray .int, 2) := by decide +kernel
theorem dX6_init_117 : decode cX6_init 117 = .ok (.putfield 47, 3) := by decide +kernel
theorem dX6_init_120 : decode cX6_init 120 = .ok (.aload_n 0, 1) := by decide +kernel
theorem dX6_init_121 : decode cX6_init 121 = .ok (.sipush 144, 3) := by decide +kernel
theorem dX6_init_124 : decode cX6_init 124 = .ok (.newarray .int, 2) := by decide +kernel
theorem dX6_init_126 : decode cX6_init 126 = .ok (.putfield 50, 3) := by decide +kernel
theorem dX6_init_129 : decode cX6_init 129 = .ok (.aload_n 0, 1) := by decide +kernel
theorem dX6_init_130 : decode cX6_init 130 = .ok (.iconst 2, 1) := by decide +kernel
theorem dX6_init_131 : decode cX6_init 131 = .ok (.newarray .boolean, 2) := by decide +kernel
theorem dX6_init_133 : decode cX6_init 133 = .ok (.putfield 53, 3) := by decide +kernel
theorem dX6_init_136 : decode cX6_init 136 = .ok (.aload_n 0, 1) := by decide +kernel
theorem dX6_init_137 : decode cX6_init 137 = .ok (.sipush 338, 3) := by decide +kernel
theorem dX6_init_140 : decode cX6_init 140 = .ok (.newarray .int, 2) := by decide +kernel
theorem dX6_init_142 : decode cX6_init 142 = .ok (.putfield 56, 3) := by decide +kernel
theorem dX6_init_145 : decode cX6_init 145 = .ok (.aload_n 0, 1) := by decide +kernel
theorem dX6_init_146 : decode cX6_init 146 = .ok (.iconst 4, 1) := by decide +kernel
theorem dX6_init_147 : decode cX6_init 147 = .ok (.newarray .int, 2) := by decide +kernel
theorem dX6_init_149 : decode cX6_init 149 = .ok (.putfield 59, 3) := by decide +kernel
theorem dX6_init_152 : decode cX6_init 152 = .ok (.aload_n 0, 1) := by decide +kernel
theorem dX6_init_153 : decode cX6_init 153 = .ok (.iconst 1, 1) := by decide +kernel
theorem dX6_init_154 : decode cX6_init 154 = .ok (.putfield 62, 3) := by decide +kernel
theorem dX6_init_157 : decode cX6_init 157 = .ok (.aload_n 0, 1) := by decide +kernel
theorem dX6_init_158 : decode cX6_init 158 = .ok (.iconst 1, 1) := by decide +kernel
theorem dX6_init_159 : decode cX6_init 159 = .ok (.putfield 66, 3) := by decide +kernel
theorem dX6_init_162 : decode cX6_init 162 = .ok (.return_, 1) := by decide +kernel
theorem dX6_in_0 : decode cX6_in 0 = .ok (.lload_n 0, 1) := by decide +kernel
theorem dX6_in_1 : decode cX6_in 1 = .ok (.lload_n 2, 1) := by decide +kernel
theorem dX6_in_2 : decode cX6_in 2 = .ok (.lcmp, 1) := by decide +kernel
theorem dX6_in_3 : decode cX6_in 3 = .ok (.ifCond .lt 14, 3) := by decide +kernel
theorem dX6_in_6 : decode cX6_in 6 = .ok (.lload_n 0, 1) := by decide +kernel
theorem dX6_in_7 : decode cX6_in 7 = .ok (.lload 4, 2) := by decide +kernel
theorem dX6_in_9 : decode cX6_in 9 = .ok (.lcmp, 1) := by decide +kernel
theorem dX6_in_10 : decode cX6_in 10 = .ok (.ifCond .gt 7, 3) := by decide +kernel
theorem dX6_in_13 : decode cX6_in 13 = .ok (.iconst 1, 1) := by decide +kernel
theorem dX6_in_14 : decode cX6_in 14 = .ok (.goto 4, 3) := by decide +kernel
theorem dX6_in_17 : decode cX6_in 17 = .ok (.iconst 0, 1) := by decide +kernel
theorem dX6_in_18 : decode cX6_in 18 = .ok (.ireturn, 1) := by decide +kernel
theorem dX6_write_0 : decode cX6_write 0 = .ok (.iload_n 1, 1) := by decide +kernel
theorem dX6_write_1 : decode cX6_write 1 = .ok (.i2l, 1) := by decide +kernel
theorem dX6_write_2 : decode cX6_write 2 = .ok (.lconst 1, 1) := by decide +kernel
theorem dX6_write_3 : decode cX6_write 3 = .ok (.ldc2_w 69, 3) := by decide +kernel
theorem dX6_write_6 : decode cX6_write 6 = .ok (.invokestatic 71, 3) := by decide +kernel
theorem dX6_write_9 : decode cX6_write 9 = .ok (.ifCond .ne 6, 3) := by decide +kernel
theorem dX6_write_12 : decode cX6_write 12 = .ok (.bipush (-2), 2) := by decide +kernel
theorem dX6_write_14 : decode cX6_write 14 = .ok (.ireturn, 1) := by decide +kernel
theorem dX6_write_15 : decode cX6_write 15 = .ok (.aload_n 0, 1) := by decide +kernel
theorem dX6_write_16 : decode cX6_write 16 = .ok (.getfield 75, 3) := by decide +kernel
theorem dX6_write_19 : decode cX6_write 19 = .ok (.iload_n 1, 1) := by decide +kernel
theorem dX6_write_20 : decode cX6_write 20 = .ok (.iadd, 1) := by decide +kernel
theorem dX6_write_21 : decode cX6_write 21 = .ok (.bipush 72, 2) := by decide +kernel
theorem dX6_write_23 : decode cX6_write 23 = .ok (.if_icmp .le 6, 3) := by decide +kernel
theorem dX6_write_26 : decode cX6_write 26 = .ok (.bipush (-4), 2) := by decide +kernel
theorem dX6_write_28 : decode cX6_write 28 = .ok (.ireturn, 1) := by decide +kernel
theorem dX6_write_29 : decode cX6_write 29 = .ok (.iload_n 1, 1) := by decide +kernel
theorem dX6_write_30 : decode cX6_write 30 = .ok (.iconst 1, 1) := by decide +kernel
theorem dX6_write_31 : decode cX6_write 31 = .ok (.isub, 1) := by decide +kernel
theorem dX6_write_32 : decode cX6_write 32 = .ok (.istore 4, 2) := by decide +kernel
theorem dX6_write_34 : decode cX6_write 34 = .ok (.iload 4, 2) := by decide +kernel
theorem dX6_write_36 : decode cX6_write 36 = .ok (.ifCond .lt 40, 3) := by decide +kernel
theorem dX6_write_39 : decode cX6_write 39 = .ok (.aload_n 0, 1) := by decide +kernel
theorem dX6_write_40 : decode cX6_write 40 = .ok (.getfield 20, 3) := by decide +kernel
theorem dX6_write_43 : decode cX6_write 43 = .ok (.aload_n 0, 1) := by decide +kernel
theorem dX6_write_44 : decode cX6_write 44 = .ok (.getfield 75, 3) := by decide +kernel
theorem dX6_write_47 : decode cX6_write 47 = .ok (.lload_n 2, 1) := by decide +kernel
theorem dX6_write_48 : decode cX6_write 48 = .ok (.bipush 8, 2) := by decide +kernel
theorem dX6_write_50 : decode cX6_write 50 = .ok (.iload 4, 2) := by decide +kernel
theorem dX6_write_52 : decode cX6_write 52 = .ok (.imul, 1) := by decide +kernel
theorem dX6_write_53 : decode cX6_write 53 = .ok (.lshr, 1) := by decide +kernel
theorem dX6_write_54 : decode cX6_write 54 = .ok (.ldc2_w 78, 3) := by decide +kernel
theorem dX6_write_57 : decode cX6_write 57 = .ok (.land, 1) := by decide +kernel
theorem dX6_write_58 : decode cX6_write 58 = .ok (.l2i, 1) := by decide +kernel
theorem dX6_write_59 : decode cX6_write 59 = .ok (.iastore, 1) := by decide +kernel
theorem dX6_write_60 : decode cX6_write 60 = .ok (.aload_n 0, 1) := by decide +kernel
theorem dX6_write_61 : decode cX6_write 61 = .ok (.dup, 1) := by decide +kernel
theorem dX6_write_62 : decode cX6_write 62 = .ok (.getfield 75, 3) := by decide +kernel
theorem dX6_write_65 : decode cX6_write 65 = .ok (.iconst 1, 1) := by decide +kernel
theorem dX6_write_66 : decode cX6_write 66 = .ok (.iadd, 1) := by decide +kernel
theorem dX6_write_67 : decode cX6_write 67 = .ok (.putfield 75, 3) := by decide +kernel
theorem dX6_write_70 : decode cX6_write 70 = .ok (.iinc 4 (-1), 3) := by decide +kernel
theorem dX6_write_73 : decode cX6_write 73 = .ok (.goto (-39), 3) := by decide +kernel
theorem dX6_write_76 : decode cX6_write 76 = .ok (.aload_n 0, 1) := by decide +kernel
theorem dX6_write_77 : decode cX6_write 77 = .ok (.getfield 75, 3) := by decide +kernel
theorem dX6_write_80 : decode cX6_write 80 = .ok (.ireturn, 1) := by decide +kernel
theorem dX6_wipe_0 : decode cX6_wipe 0 = .ok (.aload_n 0, 1) := by decide +kernel
theorem dX6_wipe_1 : decode cX6_wipe 1 = .ok (.getfield 75, 3) := by decide +kernel
theorem dX6_wipe_4 : decode cX6_wipe 4 = .ok (.istore_n 1, 1) := by decide +kernel
theorem dX6_wipe_5 : decode cX6_wipe 5 = .ok (.aload_n 0, 1) := by decide +kernel
theorem dX6_wipe_6 : decode cX6_wipe 6 = .ok (.iconst 0, 1) := by decide +kernel
theorem dX6_wipe_7 : decode cX6_wipe 7 = .ok (.putfield 75, 3) := by decide +kernel
theorem dX6_wipe_10 : decode cX6_wipe 10 = .ok (.iload_n 1, 1) := by decide +kernel
theorem dX6_wipe_11 : decode cX6_wipe 11 = .ok (.ireturn, 1) := by decide +kernel
theorem dX6_figure_0 : decode cX6_figure 0 = .ok (.aload_n 0, 1) := by decide +kernel
theorem dX6_figure_1 : decode cX6_figure 1 = .ok (.getfield 80, 3) := by decide +kernel
theorem dX6_figure_4 : decode cX6_figure 4 = .ok (.bipush (-9), 2) := by decide +kernel
theorem dX6_figure_6 : decode cX6_figure 6 = .ok (.if_icmp .ne 26, 3) := by decide +kernel
theorem dX6_figure_9 : decode cX6_figure 9 = .ok (.aload_n 0, 1) := by decide +kernel
theorem dX6_figure_10 : decode cX6_figure 10 = .ok (.getfield 83, 3) := by decide +kernel
theorem dX6_figure_13 : decode cX6_figure 13 = .ok (.aload_n 0, 1) := by decide +kernel
theorem dX6_figure_14 : decode cX6_figure 14 = .ok (.getfield 75, 3) := by decide +kernel
theorem dX6_figure_17 : decode cX6_figure 17 = .ok (.if_icmp .ge 15, 3) := by decide +kernel
theorem dX6_figure_20 : decode cX6_figure 20 = .ok (.aload_n 0, 1) := by decide +kernel
theorem dX6_figure_21 : decode cX6_figure 21 = .ok (.getfield 20, 3) := by decide +kernel
theorem dX6_figure_24 : decode cX6_figure 24 = .ok (.aload_n 0, 1) := by decide +kernel
theorem dX6_figure_25 : decode cX6_figure 25 = .ok (.getfield 83, 3) := by decide +kernel
theorem dX6_figure_28 : decode cX6_figure 28 = .ok (.iaload, 1) := by decide +kernel
theorem dX6_figure_29 : decode cX6_figure 29 = .ok (.goto 4, 3) := by decide +kernel
theorem dX6_figure_32 : decode cX6_figure 32 = .ok (.iconst 0, 1) := by decide +kernel
theorem dX6_figure_33 : decode cX6_figure 33 = .ok (.istore_n 2, 1) := by decide +kernel
theorem dX6_figure_34 : decode cX6_figure 34 = .ok (.iload_n 2, 1) := by decide +kernel
theorem dX6_figure_35 : decode cX6_figure 35 = .ok (.i2l, 1) := by decide +kernel
theorem dX6_figure_36 : decode cX6_figure 36 = .ok (.ldc2_w 86, 3) := by decide +kernel
theorem dX6_figure_39 : decode cX6_figure 39 = .ok (.ldc2_w 88, 3) := by decide +kernel
theorem dX6_figure_42 : decode cX6_figure 42 = .ok (.invokestatic 71, 3) := by decide +kernel
theorem dX6_figure_45 : decode cX6_figure 45 = .ok (.ifCond .eq 10, 3) := by decide +kernel
theorem dX6_figure_48 : decode cX6_figure 48 = .ok (.iload_n 2, 1) := by decide +kernel
theorem dX6_figure_49 : decode cX6_figure 49 = .ok (.bipush 48, 2) := by decide +kernel
theorem dX6_figure_51 : decode cX6_figure 51 = .ok (.isub, 1) := by decide +kernel
theorem dX6_figure_52 : decode cX6_figure 52 = .ok (.goto 27, 3) := by decide +kernel
theorem dX6_figure_55 : decode cX6_figure 55 = .ok (.iload_n 2, 1) := by decide +kernel
theorem dX6_figure_56 : decode cX6_figure 56 = .ok (.bipush 97, 2) := by decide +kernel
theorem dX6_figure_58 : decode cX6_figure 58 = .ok (.if_icmp .ne 8, 3) := by decide +kernel
theorem dX6_figure_61 : decode cX6_figure 61 = .ok (.bipush 10, 2) := by decide +kernel
theorem dX6_figure_63 : decode cX6_figure 63 = .ok (.goto 16, 3) := by decide +kernel
theorem dX6_figure_66 : decode cX6_figure 66 = .ok (.iload_n 2, 1) := by decide +kernel
theorem dX6_figure_67 : decode cX6_figure 67 = .ok (.bipush 98, 2) := by decide +kernel
theorem dX6_figure_69 : decode cX6_figure 69 = .ok (.if_icmp .ne 8, 3) := by decide +kernel
theorem dX6_figure_72 : decode cX6_figure 72 = .ok (.bipush 11, 2) := by decide +kernel
theorem dX6_figure_74 : decode cX6_figure 74 = .ok (.goto 5, 3) := by decide +kernel
theorem dX6_figure_77 : decode cX6_figure 77 = .ok (.bipush 31, 2) := by decide +kernel
theorem dX6_figure_79 : decode cX6_figure 79 = .ok (.istore_n 3, 1) := by decide +kernel
theorem dX6_figure_80 : decode cX6_figure 80 = .ok (.iload_n 3, 1) := by decide +kernel
theorem dX6_figure_81 : decode cX6_figure 81 = .ok (.bipush 31, 2) := by decide +kernel
theorem dX6_figure_83 : decode cX6_figure 83 = .ok (.if_icmp .eq 11, 3) := by decide +kernel
theorem dX6_figure_86 : decode cX6_figure 86 = .ok (.iload_n 1, 1) := by decide +kernel
theorem dX6_figure_87 : decode cX6_figure 87 = .ok (.iload_n 3, 1) := by decide +kernel
theorem dX6_figure_88 : decode cX6_figure 88 = .ok (.ishr, 1) := by decide +kernel
theorem dX6_figure_89 : decode cX6_figure 89 = .ok (.iconst 1, 1) := by decide +kernel
theorem dX6_figure_90 : decode cX6_figure 90 = .ok (.iand, 1) := by decide +kernel
theorem dX6_figure_91 : decode cX6_figure 91 = .ok (.ifCond .ne 29, 3) := by decide +kernel
theorem dX6_figure_94 : decode cX6_figure 94 = .ok (.aload_n 0, 1) := by decide +kernel
theorem dX6_figure_95 : decode cX6_figure 95 = .ok (.aload_n 0, 1) := by decide +kernel
theorem dX6_figure_96 : decode cX6_figure 96 = .ok (.getfield 80, 3) := by decide +kernel
theorem dX6_figure_99 : decode cX6_figure 99 = .ok (.bipush (-9), 2) := by decide +kernel
theorem dX6_figure_101 : decode cX6_figure 101 = .ok (.if_icmp .ne 10, 3) := by decide +kernel
theorem dX6_figure_104 : decode cX6_figure 104 = .ok (.aload_n 0, 1) := by decide +kernel
theorem dX6_figure_105 : decode cX6_figure 105 = .ok (.getfield 83, 3) := by decide +kernel
theorem dX6_figure_108 : decode cX6_figure 108 = .ok (.goto 7, 3) := by decide +kernel
theorem dX6_figure_111 : decode cX6_figure 111 = .ok (.aload_n 0, 1) := by decide +kernel
theorem dX6_figure_112 : decode cX6_figure 112 = .ok (.getfield 80, 3) := by decide +kernel
theorem dX6_figure_115 : decode cX6_figure 115 = .ok (.putfield 80, 3) := by decide +kernel
theorem dX6_figure_118 : decode cX6_figure 118 = .ok (.iconst 0, 1) := by decide +kernel
theorem dX6_figure_119 : decode cX6_figure 119 = .ok (.ireturn, 1) := by decide +kernel
theorem dX6_figure_120 : decode cX6_figure 120 = .ok (.aload_n 0, 1) := by decide +kernel
theorem dX6_figure_121 : decode cX6_figure 121 = .ok (.dup, 1) := by decide +kernel
theorem dX6_figure_122 : decode cX6_figure 122 = .ok (.getfield 83, 3) := by decide +kernel
theorem dX6_figure_125 : decode cX6_figure 125 = .ok (.iconst 1, 1) := by decide +kernel
theorem dX6_figure_126 : decode cX6_figure 126 = .ok (.iadd, 1) := by decide +kernel
theorem dX6_figure_127 : decode cX6_figure 127 = .ok (.putfield 83, 3) := by decide +kernel
theorem dX6_figure_130 : decode cX6_figure 130 = .ok (.iload_n 3, 1) := by decide +kernel
theorem dX6_figure_131 : decode cX6_figure 131 = .ok (.ireturn, 1) := by decide +kernel
theorem dX6_isInner_0 : decode cX6_isInner 0 = .ok (.iload_n 2, 1) := by decide +kernel
theorem dX6_isInner_1 : decode cX6_isInner 1 = .ok (.i2l, 1) := by decide +kernel
theorem dX6_isInner_2 : decode cX6_isInner 2 = .ok (.lconst 1, 1) := by decide +kernel
theorem dX6_isInner_3 : decode cX6_isInner 3 = .ok (.iconst 2, 1) := by decide +kernel
theorem dX6_isInner_4 : decode cX6_isInner 4 = .ok (.iload_n 0, 1) := by decide +kernel
theorem dX6_isInner_5 : decode cX6_isInner 5 = .ok (.imul, 1) := by decide +kernel
theorem dX6_isInner_6 : decode cX6_isInner 6 = .ok (.iconst 1, 1) := by decide +kernel
theorem dX6_isInner_7 : decode cX6_isInner 7 = .ok (.isub, 1) := by decide +kernel
theorem dX6_isInner_8 : decode cX6_isInner 8 = .ok (.i2l, 1) := by decide +kernel
theorem dX6_isInner_9 : decode cX6_isInner 9 = .ok (.invokestatic 71, 3) := by decide +kernel
theorem dX6_isInner_12 : decode cX6_isInner 12 = .ok (.ifCond .eq 31, 3) := by decide +kernel
theorem dX6_isInner_15 : decode cX6_isInner 15 = .ok (.iload_n 3, 1) := by decide +kernel
theorem dX6_isInner_16 : decode cX6_isInner 16 = .ok (.i2l, 1) := by decide +kernel
theorem dX6_isInner_17 : decode cX6_isInner 17 = .ok (.lconst 1, 1) := by decide +kernel
theorem dX6_isInner_18 : decode cX6_isInner 18 = .ok (.iconst 2, 1) := by decide +kernel
theorem dX6_isInner_19 : decode cX6_isInner 19 = .ok (.iload_n 1, 1) := by decide +kernel
theorem dX6_isInner_20 : decode cX6_isInner 20 = .ok (.imul, 1) := by decide +kernel
theorem dX6_isInner_21 : decode cX6_isInner 21 = .ok (.iconst 1, 1) := by decide +kernel
theorem dX6_isInner_22 : decode cX6_isInner 22 = .ok (.isub, 1) := by decide +kernel
theorem dX6_isInner_23 : decode cX6_isInner 23 = .ok (.i2l, 1) := by decide +kernel
theorem dX6_isInner_24 : decode cX6_isInner 24 = .ok (.invokestatic 71, 3) := by decide +kernel
theorem dX6_isInner_27 : decode cX6_isInner 27 = .ok (.ifCond .eq 16, 3) := by decide +kernel
theorem dX6_isInner_30 : decode cX6_isInner 30 = .ok (.iload_n 2, 1) := by decide +kernel
theorem dX6_isInner_31 : decode cX6_isInner 31 = .ok (.iload_n 3, 1) := by decide +kernel
theorem dX6_isInner_32 : decode cX6_isInner 32 = .ok (.iadd, 1) := by decide +kernel
theorem dX6_isInner_33 : decode cX6_isInner 33 = .ok (.iconst 2, 1) := by decide +kernel
theorem dX6_isInner_34 : decode cX6_isInner 34 = .ok (.irem, 1) := by decide +kernel
theorem dX6_isInner_35 : decode cX6_isInner 35 = .ok (.iconst 1, 1) := by decide +kernel
theorem dX6_isInner_36 : decode cX6_isInner 36 = .ok (.if_icmp .ne 7, 3) := by decide +kernel
theorem dX6_isInner_39 : decode cX6_isInner 39 = .ok (.iconst 1, 1) := by decide +kernel
theorem dX6_isInner_40 : decode cX6_isInner 40 = .ok (.goto 4, 3) := by decide +kernel
theorem dX6_isInner_43 : decode cX6_isInner 43 = .ok (.iconst 0, 1) := by decide +kernel
theorem dX6_isInner_44 : decode cX6_isInner 44 = .ok (.ireturn, 1) := by decide +kernel
theorem dX6_freeOf_0 : decode cX6_freeOf 0 = .ok (.iconst 0, 1) := by decide +kernel
theorem dX6_freeOf_1 : decode cX6_freeOf 1 = .ok (.istore_n 2, 1) := by decide +kernel
theorem dX6_freeOf_2 : decode cX6_freeOf 2 = .ok (.iconst 0, 1) := by decide +kernel
theorem dX6_freeOf_3 : decode cX6_freeOf 3 = .ok (.istore_n 3, 1) := by decide +kernel
theorem dX6_freeOf_4 : decode cX6_freeOf 4 = .ok (.iload_n 3, 1) := by decide +kernel
theorem dX6_freeOf_5 : decode cX6_freeOf 5 = .ok (.bipush 13, 2) := by decide +kernel
theorem dX6_freeOf_7 : decode cX6_freeOf 7 = .ok (.if_icmp .ge 49, 3) := by decide +kernel
theorem dX6_freeOf_10 : decode cX6_freeOf 10 = .ok (.iload_n 2, 1) := by decide +kernel
theorem dX6_freeOf_11 : decode cX6_freeOf 11 = .ok (.aload_n 0, 1) := by decide +kernel
theorem dX6_freeOf_12 : decode cX6_freeOf 12 = .ok (.getfield 90, 3) := by decide +kernel
theorem dX6_freeOf_15 : decode cX6_freeOf 15 = .ok (.aload_n 0, 1) := by decide +kernel
theorem dX6_freeOf_16 : decode cX6_freeOf 16 = .ok (.getfield 93, 3) := by decide +kernel
theorem dX6_freeOf_19 : decode cX6_freeOf 19 = .ok (.iload_n 1, 1) := by decide +kernel
theorem dX6_freeOf_20 : decode cX6_freeOf 20 = .ok (.iload_n 3, 1) := by decide +kernel
theorem dX6_freeOf_21 : decode cX6_freeOf 21 = .ok (.invokestatic 96, 3) := by decide +kernel
theorem dX6_freeOf_24 : decode cX6_freeOf 24 = .ok (.ifCond .eq 23, 3) := by decide +kernel
theorem dX6_freeOf_27 : decode cX6_freeOf 27 = .ok (.aload_n 0, 1) := by decide +kernel
theorem dX6_freeOf_28 : decode cX6_freeOf 28 = .ok (.getfield 16, 3) := by decide +kernel
theorem dX6_freeOf_31 : decode cX6_freeOf 31 = .ok (.bipush 13, 2) := by decide +kernel
theorem dX6_freeOf_33 : decode cX6_freeOf 33 = .ok (.iload_n 1, 1) := by decide +kernel
theorem dX6_freeOf_34 : decode cX6_freeOf 34 = .ok (.imul, 1) := by decide +kernel
theorem dX6_freeOf_35 : decode cX6_freeOf 35 = .ok (.iload_n 3, 1) := by decide +kernel
theorem dX6_freeOf_36 : decode cX6_freeOf 36 = .ok (.iadd, 1) := by decide +kernel
theorem dX6_freeOf_37 : decode cX6_freeOf 37 = .ok (.baload, 1) := by decide +kernel
theorem dX6_freeOf_38 : decode cX6_freeOf 38 = .ok (.ifCond .ne 9, 3) := by decide +kernel
theorem dX6_freeOf_41 : decode cX6_freeOf 41 = .ok (.iconst 1, 1) := by decide +kernel
theorem dX6_freeOf_42 : decode cX6_freeOf 42 = .ok (.iload_n 3, 1) := by decide +kernel
theorem dX6_freeOf_43 : decode cX6_freeOf 43 = .ok (.ishl, 1) := by decide +kernel
theorem dX6_freeOf_44 : decode cX6_freeOf 44 = .ok (.goto 4, 3) := by decide +kernel
theorem dX6_freeOf_47 : decode cX6_freeOf 47 = .ok (.iconst 0, 1) := by decide +kernel
theorem dX6_freeOf_48 : decode cX6_freeOf 48 = .ok (.ior, 1) := by decide +kernel
theorem dX6_freeOf_49 : decode cX6_freeOf 49 = .ok (.istore_n 2, 1) := by decide +kernel
theorem dX6_freeOf_50 : decode cX6_freeOf 50 = .ok (.iinc 3 1, 3) := by decide +kernel
theorem dX6_freeOf_53 : decode cX6_freeOf 53 = .ok (.goto (-49), 3) := by decide +kernel
theorem dX6_freeOf_56 : decode cX6_freeOf 56 = .ok (.iload_n 2, 1) := by decide +kernel
theorem dX6_freeOf_57 : decode cX6_freeOf 57 = .ok (.ireturn, 1) := by decide +kernel
theorem dX6_readText_0 : decode cX6_readText 0 = .ok (.iconst 0, 1) := by decide +kernel
theorem dX6_readText_1 : decode cX6_readText 1 = .ok (.istore_n 1, 1) := by decide +kernel
theorem dX6_readText_2 : decode cX6_readText 2 = .ok (.iload_n 1, 1) := by decide +kernel
theorem dX6_readText_3 : decode cX6_readText 3 = .ok (.sipush 169, 3) := by decide +kernel
theorem dX6_readText_6 : decode cX6_readText 6 = .ok (.if_icmp .ge 23, 3) := by decide +kernel
theorem dX6_readText_9 : decode cX6_readText 9 = .ok (.aload_n 0, 1) := by decide +kernel
theorem dX6_readText_10 : decode cX6_readText 10 = .ok (.getfield 13, 3) := by decide +kernel
theorem dX6_readText_13 : decode cX6_readText 13 = .ok (.iload_n 1, 1) := by decide +kernel
theorem dX6_readText_14 : decode cX6_readText 14 = .ok (.iconst 0, 1) := by decide +kernel
theorem dX6_readText_15 : decode cX6_readText 15 = .ok (.iastore, 1) := by decide +kernel
theorem dX6_readText_16 : decode cX6_readText 16 = .ok (.aload_n 0, 1) := by decide +kernel
theorem dX6_readText_17 : decode cX6_readText 17 = .ok (.getfield 16, 3) := by decide +kernel
theorem dX6_readText_20 : decode cX6_readText 20 = .ok (.iload_n 1, 1) := by decide +kernel
theorem dX6_readText_21 : decode cX6_readText 21 = .ok (.iconst 0, 1) := by decide +kernel
theorem dX6_readText_22 : decode cX6_readText 22 = .ok (.bastore, 1) := by decide +kernel
theorem dX6_readText_23 : decode cX6_readText 23 = .ok (.iinc 1 1, 3) := by decide +kernel
theorem dX6_readText_26 : decode cX6_readText 26 = .ok (.goto (-24), 3) := by decide +kernel
theorem dX6_readText_29 : decode cX6_readText 29 = .ok (.aload_n 0, 1) := by decide +kernel
theorem dX6_readText_30 : decode cX6_readText 30 = .ok (.iconst 0, 1) := by decide +kernel
theorem dX6_readText_31 : decode cX6_readText 31 = .ok (.putfield 83, 3) := by decide +kernel
theorem dX6_readText_34 : decode cX6_readText 34 = .ok (.aload_n 0, 1) := by decide +kernel
theorem dX6_readText_35 : decode cX6_readText 35 = .ok (.bipush (-9), 2) := by decide +kernel
theorem dX6_readText_37 : decode cX6_readText 37 = .ok (.putfield 80, 3) := by decide +kernel
theorem dX6_readText_40 : decode cX6_readText 40 = .ok (.aload_n 0, 1) := by decide +kernel
theorem dX6_readText_41 : decode cX6_readText 41 = .ok (.getfield 75, 3) := by decide +kernel
theorem dX6_readText_44 : decode cX6_readText 44 = .ok (.ifCond .eq 14, 3) := by decide +kernel
theorem dX6_readText_47 : decode cX6_readText 47 = .ok (.aload_n 0, 1) := by decide +kernel
theorem dX6_readText_48 : decode cX6_readText 48 = .ok (.getfield 20, 3) := by decide +kernel
theorem dX6_readText_51 : decode cX6_readText 51 = .ok (.iconst 0, 1) := by decide +kernel
theorem dX6_readText_52 : decode cX6_readText 52 = .ok (.iaload, 1) := by decide +kernel
theorem dX6_readText_53 : decode cX6_readText 53 = .ok (.bipush 78, 2) := by decide +kernel
theorem dX6_readText_55 : decode cX6_readText 55 = .ok (.if_icmp .eq 5, 3) := by decide +kernel
theorem dX6_readText_58 : decode cX6_readText 58 = .ok (.iconst 0, 1) := by decide +kernel
theorem dX6_readText_59 : decode cX6_readText 59 = .ok (.ireturn, 1) := by decide +kernel
theorem dX6_readText_60 : decode cX6_readText 60 = .ok (.aload_n 0, 1) := by decide +kernel
theorem dX6_readText_61 : decode cX6_readText 61 = .ok (.iconst 1, 1) := by decide +kernel
theorem dX6_readText_62 : decode cX6_readText 62 = .ok (.putfield 83, 3) := by decide +kernel
theorem dX6_readText_65 : decode cX6_readText 65 = .ok (.aload_n 0, 1) := by decide +kernel
theorem dX6_readText_66 : decode cX6_readText 66 = .ok (.aload_n 0, 1) := by decide +kernel
theorem dX6_readText_67 : decode cX6_readText 67 = .ok (.bipush 126, 2) := by decide +kernel
theorem dX6_readText_69 : decode cX6_readText 69 = .ok (.invokevirtual 100, 3) := by decide +kernel
theorem dX6_readText_72 : decode cX6_readText 72 = .ok (.putfield 90, 3) := by decide +kernel
theorem dX6_readText_75 : decode cX6_readText 75 = .ok (.aload_n 0, 1) := by decide +kernel
theorem dX6_readText_76 : decode cX6_readText 76 = .ok (.aload_n 0, 1) := by decide +kernel
theorem dX6_readText_77 : decode cX6_readText 77 = .ok (.bipush 126, 2) := by decide +kernel
theorem dX6_readText_79 : decode cX6_readText 79 = .ok (.invokevirtual 100, 3) := by decide +kernel
theorem dX6_readText_82 : decode cX6_readText 82 = .ok (.putfield 93, 3) := by decide +kernel
theorem dX6_readText_85 : decode cX6_readText 85 = .ok (.aload_n 0, 1) := by decide +kernel
theorem dX6_readText_86 : decode cX6_readText 86 = .ok (.getfield 80, 3) := by decide +kernel
theorem dX6_readText_89 : decode cX6_readText 89 = .ok (.bipush (-9), 2) := by decide +kernel
theorem dX6_readText_91 : decode cX6_readText 91 = .ok (.if_icmp .ne 30, 3) := by decide +kernel
theorem dX6_readText_94 : decode cX6_readText 94 = .ok (.aload_n 0, 1) := by decide +kernel
theorem dX6_readText_95 : decode cX6_readText 95 = .ok (.getfield 83, 3) := by decide +kernel
theorem dX6_readText_98 : decode cX6_readText 98 = .ok (.aload_n 0, 1) := by decide +kernel
theorem dX6_readText_99 : decode cX6_readText 99 = .ok (.getfield 75, 3) := by decide +kernel
theorem dX6_readText_102 : decode cX6_readText 102 = .ok (.if_icmp .ge 19, 3) := by decide +kernel
theorem dX6_readText_105 : decode cX6_readText 105 = .ok (.aload_n 0, 1) := by decide +kernel
theorem dX6_readText_106 : decode cX6_readText 106 = .ok (.aload_n 0, 1) := by decide +kernel
theorem dX6_readText_107 : decode cX6_readText 107 = .ok (.getfield 20, 3) := by decide +kernel
theorem dX6_readText_110 : decode cX6_readText 110 = .ok (.aload_n 0, 1) := by decide +kernel
theorem dX6_readText_111 : decode cX6_readText 111 = .ok (.getfield 83, 3) := by decide +kernel
theorem dX6_readText_114 : decode cX6_readText 114 = .ok (.iaload, 1) := by decide +kernel
theorem dX6_readText_115 : decode cX6_readText 115 = .ok (.invokevirtual 104, 3) := by decide +kernel
theorem dX6_readText_118 : decode cX6_readText 118 = .ok (.goto (-33), 3) := by decide +kernel
theorem dX6_readText_121 : decode cX6_readText 121 = .ok (.aload_n 0, 1) := by decide +kernel
theorem dX6_readText_122 : decode cX6_readText 122 = .ok (.getfield 80, 3) := by decide +kernel
theorem dX6_readText_125 : decode cX6_readText 125 = .ok (.ireturn, 1) := by decide +kernel
theorem dX6_readPart_0 : decode cX6_readPart 0 = .ok (.iconst 0, 1) := by decide +kernel
theorem dX6_readPart_1 : decode cX6_readPart 1 = .ok (.istore_n 2, 1) := by decide +kernel
theorem dX6_readPart_2 : decode cX6_readPart 2 = .ok (.iconst 0, 1) := by decide +kernel
theorem dX6_readPart_3 : decode cX6_readPart 3 = .ok (.istore_n 3, 1) := by decide +kernel
theorem dX6_readPart_4 : decode cX6_readPart 4 = .ok (.iload_n 3, 1) := by decide +kernel
theorem dX6_readPart_5 : decode cX6_readPart 5 = .ok (.bipush 13, 2) := by decide +kernel
theorem dX6_readPart_7 : decode cX6_readPart 7 = .ok (.if_icmp .ge 27, 3) := by decide +kernel
theorem dX6_readPart_10 : decode cX6_readPart 10 = .ok (.iload_n 2, 1) := by decide +kernel
theorem dX6_readPart_11 : decode cX6_readPart 11 = .ok (.aload_n 0, 1) := by decide +kernel
theorem dX6_readPart_12 : decode cX6_readPart 12 = .ok (.iload_n 3, 1) := by decide +kernel
theorem dX6_readPart_13 : decode cX6_readPart 13 = .ok (.invokevirtual 108, 3) := by decide +kernel
theorem dX6_readPart_16 : decode cX6_readPart 16 = .ok (.ifCond .eq 9, 3) := by decide +kernel
theorem dX6_readPart_19 : decode cX6_readPart 19 = .ok (.iconst 1, 1) := by decide +kernel
theorem dX6_readPart_20 : decode cX6_readPart 20 = .ok (.iload_n 3, 1) := by decide +kernel
theorem dX6_readPart_21 : decode cX6_readPart 21 = .ok (.ishl, 1) := by decide +kernel
theorem dX6_readPart_22 : decode cX6_readPart 22 = .ok (.goto 4, 3) := by decide +kernel
theorem dX6_readPart_25 : decode cX6_readPart 25 = .ok (.iconst 0, 1) := by decide +kernel
theorem dX6_readPart_26 : decode cX6_readPart 26 = .ok (.ior, 1) := by decide +kernel
theorem dX6_readPart_27 : decode cX6_readPart 27 = .ok (.istore_n 2, 1) := by decide +kernel
theorem dX6_readPart_28 : decode cX6_readPart 28 = .ok (.iinc 3 1, 3) := by decide +kernel
theorem dX6_readPart_31 : decode cX6_readPart 31 = .ok (.goto (-27), 3) := by decide +kernel
theorem dX6_readPart_34 : decode cX6_readPart 34 = .ok (.iload_n 1, 1) := by decide +kernel
theorem dX6_readPart_35 : decode cX6_readPart 35 = .ok (.bipush 72, 2) := by decide +kernel
theorem dX6_readPart_37 : decode cX6_readPart 37 = .ok (.if_icmp .ne 7, 3) := by decide +kernel
theorem dX6_readPart_40 : decode cX6_readPart 40 = .ok (.iconst 1, 1) := by decide +kernel
theorem dX6_readPart_41 : decode cX6_readPart 41 = .ok (.goto 25, 3) := by decide +kernel
theorem dX6_readPart_44 : decode cX6_readPart 44 = .ok (.iload_n 1, 1) := by decide +kernel
theorem dX6_readPart_45 : decode cX6_readPart 45 = .ok (.bipush 86, 2) := by decide +kernel
theorem dX6_readPart_47 : decode cX6_readPart 47 = .ok (.if_icmp .ne 7, 3) := by decide +kernel
theorem dX6_readPart_50 : decode cX6_readPart 50 = .ok (.iconst 2, 1) := by decide +kernel
theorem dX6_readPart_51 : decode cX6_readPart 51 = .ok (.goto 15, 3) := by decide +kernel
theorem dX6_readPart_54 : decode cX6_readPart 54 = .ok (.iload_n 1, 1) := by decide +kernel
theorem dX6_readPart_55 : decode cX6_readPart 55 = .ok (.bipush 79, 2) := by decide +kernel
theorem dX6_readPart_57 : decode cX6_readPart 57 = .ok (.if_icmp .ne 7, 3) := by decide +kernel
theorem dX6_readPart_60 : decode cX6_readPart 60 = .ok (.iconst 3, 1) := by decide +kernel
theorem dX6_readPart_61 : decode cX6_readPart 61 = .ok (.goto 5, 3) := by decide +kernel
theorem dX6_readPart_64 : decode cX6_readPart 64 = .ok (.bipush (-9), 2) := by decide +kernel
theorem dX6_readPart_66 : decode cX6_readPart 66 = .ok (.istore_n 3, 1) := by decide +kernel
theorem dX6_readPart_67 : decode cX6_readPart 67 = .ok (.iload_n 3, 1) := by decide +kernel
theorem dX6_readPart_68 : decode cX6_readPart 68 = .ok (.bipush (-9), 2) := by decide +kernel
theorem dX6_readPart_70 : decode cX6_readPart 70 = .ok (.if_icmp .eq 7, 3) := by decide +kernel
theorem dX6_readPart_73 : decode cX6_readPart 73 = .ok (.iload_n 2, 1) := by decide +kernel
theorem dX6_readPart_74 : decode cX6_readPart 74 = .ok (.ifCond .ne 12, 3) := by decide +kernel
theorem dX6_readPart_77 : decode cX6_readPart 77 = .ok (.aload_n 0, 1) := by decide +kernel
theorem dX6_readPart_78 : decode cX6_readPart 78 = .ok (.aload_n 0, 1) := by decide +kernel
theorem dX6_readPart_79 : decode cX6_readPart 79 = .ok (.getfield 83, 3) := by decide +kernel
theorem dX6_readPart_82 : decode cX6_readPart 82 = .ok (.putfield 80, 3) := by decide +kernel
theorem dX6_readPart_85 : decode cX6_readPart 85 = .ok (.return_, 1) := by decide +kernel
theorem dX6_readPart_86 : decode cX6_readPart 86 = .ok (.aload_n 0, 1) := by decide +kernel
theorem dX6_readPart_87 : decode cX6_readPart 87 = .ok (.dup, 1) := by decide +kernel
theorem dX6_readPart_88 : decode cX6_readPart 88 = .ok (.getfield 83, 3) := by decide +kernel
theorem dX6_readPart_91 : decode cX6_readPart 91 = .ok (.iconst 1, 1) := by decide +kernel
theorem dX6_readPart_92 : decode cX6_readPart 92 = .ok (.iadd, 1) := by decide +kernel
theorem dX6_readPart_93 : decode cX6_readPart 93 = .ok (.putfield 83, 3) := by decide +kernel
theorem dX6_readPart_96 : decode cX6_readPart 96 = .ok (.aload_n 0, 1) := by decide +kernel
theorem dX6_readPart_97 : decode cX6_readPart 97 = .ok (.iload_n 2, 1) := by decide +kernel
theorem dX6_readPart_98 : decode cX6_readPart 98 = .ok (.invokevirtual 100, 3) := by decide +kernel
theorem dX6_readPart_101 : decode cX6_readPart 101 = .ok (.istore 4, 2) := by decide +kernel
theorem dX6_readPart_103 : decode cX6_readPart 103 = .ok (.aload_n 0, 1) := by decide +kernel
theorem dX6_readPart_104 : decode cX6_readPart 104 = .ok (.aload_n 0, 1) := by decide +kernel
theorem dX6_readPart_105 : decode cX6_readPart 105 = .ok (.iload 4, 2) := by decide +kernel
theorem dX6_readPart_107 : decode cX6_readPart 107 = .ok (.invokevirtual 108, 3) := by decide +kernel
theorem dX6_readPart_110 : decode cX6_readPart 110 = .ok (.invokevirtual 100, 3) := by decide +kernel
theorem dX6_readPart_113 : decode cX6_readPart 113 = .ok (.istore 5, 2) := by decide +kernel
theorem dX6_readPart_115 : decode cX6_readPart 115 = .ok (.aload_n 0, 1) := by decide +kernel
theorem dX6_readPart_116 : decode cX6_readPart 116 = .ok (.getfield 13, 3) := by decide +kernel
theorem dX6_readPart_119 : decode cX6_readPart 119 = .ok (.bipush 13, 2) := by decide +kernel
theorem dX6_readPart_121 : decode cX6_readPart 121 = .ok (.iload 4, 2) := by decide +kernel
theorem dX6_readPart_123 : decode cX6_readPart 123 = .ok (.imul, 1) := by decide +kernel
theorem dX6_readPart_124 : decode cX6_readPart 124 = .ok (.iload 5, 2) := by decide +kernel
theorem dX6_readPart_126 : decode cX6_readPart 126 = .ok (.iadd, 1) := by decide +kernel
theorem dX6_readPart_127 : decode cX6_readPart 127 = .ok (.iload_n 3, 1) := by decide +kernel
theorem dX6_readPart_128 : decode cX6_readPart 128 = .ok (.iastore, 1) := by decide +kernel
theorem dX6_readPart_129 : decode cX6_readPart 129 = .ok (.aload_n 0, 1) := by decide +kernel
theorem dX6_readPart_130 : decode cX6_readPart 130 = .ok (.getfield 16, 3) := by decide +kernel
theorem dX6_readPart_133 : decode cX6_readPart 133 = .ok (.bipush 13, 2) := by decide +kernel
theorem dX6_readPart_135 : decode cX6_readPart 135 = .ok (.iload 4, 2) := by decide +kernel
theorem dX6_readPart_137 : decode cX6_readPart 137 = .ok (.imul, 1) := by decide +kernel
theorem dX6_readPart_138 : decode cX6_readPart 138 = .ok (.iload 5, 2) := by decide +kernel
theorem dX6_readPart_140 : decode cX6_readPart 140 = .ok (.iadd, 1) := by decide +kernel
theorem dX6_readPart_141 : decode cX6_readPart 141 = .ok (.iconst 1, 1) := by decide +kernel
theorem dX6_readPart_142 : decode cX6_readPart 142 = .ok (.bastore, 1) := by decide +kernel
theorem dX6_readPart_143 : decode cX6_readPart 143 = .ok (.return_, 1) := by decide +kernel
theorem dX6_fault_0 : decode cX6_fault 0 = .ok (.aload_n 0, 1) := by decide +kernel
theorem dX6_fault_1 : decode cX6_fault 1 = .ok (.invokevirtual 111, 3) := by decide +kernel
theorem dX6_fault_4 : decode cX6_fault 4 = .ok (.ireturn, 1) := by decide +kernel
theorem dX6_inner_0 : decode cX6_inner 0 = .ok (.iconst 0, 1) := by decide +kernel
theorem dX6_inner_1 : decode cX6_inner 1 = .ok (.istore_n 1, 1) := by decide +kernel
theorem dX6_inner_2 : decode cX6_inner 2 = .ok (.iconst 0, 1) := by decide +kernel
theorem dX6_inner_3 : decode cX6_inner 3 = .ok (.istore_n 2, 1) := by decide +kernel
theorem dX6_inner_4 : decode cX6_inner 4 = .ok (.iload_n 2, 1) := by decide +kernel
theorem dX6_inner_5 : decode cX6_inner 5 = .ok (.sipush 169, 3) := by decide +kernel
theorem dX6_inner_8 : decode cX6_inner 8 = .ok (.if_icmp .ge 39, 3) := by decide +kernel
theorem dX6_inner_11 : decode cX6_inner 11 = .ok (.iload_n 1, 1) := by decide +kernel
theorem dX6_inner_12 : decode cX6_inner 12 = .ok (.aload_n 0, 1) := by decide +kernel
theorem dX6_inner_13 : decode cX6_inner 13 = .ok (.getfield 62, 3) := by decide +kernel
theorem dX6_inner_16 : decode cX6_inner 16 = .ok (.aload_n 0, 1) := by decide +kernel
theorem dX6_inner_17 : decode cX6_inner 17 = .ok (.getfield 66, 3) := by decide +kernel
theorem dX6_inner_20 : decode cX6_inner 20 = .ok (.iload_n 2, 1) := by decide +kernel
theorem dX6_inner_21 : decode cX6_inner 21 = .ok (.bipush 13, 2) := by decide +kernel
theorem dX6_inner_23 : decode cX6_inner 23 = .ok (.idiv, 1) := by decide +kernel
theorem dX6_inner_24 : decode cX6_inner 24 = .ok (.iload_n 2, 1) := by decide +kernel
theorem dX6_inner_25 : decode cX6_inner 25 = .ok (.bipush 13, 2) := by decide +kernel
theorem dX6_inner_27 : decode cX6_inner 27 = .ok (.irem, 1) := by decide +kernel
theorem dX6_inner_28 : decode cX6_inner 28 = .ok (.invokestatic 96, 3) := by decide +kernel
theorem dX6_inner_31 : decode cX6_inner 31 = .ok (.ifCond .eq 7, 3) := by decide +kernel
theorem dX6_inner_34 : decode cX6_inner 34 = .ok (.iconst 1, 1) := by decide +kernel
theorem dX6_inner_35 : decode cX6_inner 35 = .ok (.goto 4, 3) := by decide +kernel
theorem dX6_inner_38 : decode cX6_inner 38 = .ok (.iconst 0, 1) := by decide +kernel
theorem dX6_inner_39 : decode cX6_inner 39 = .ok (.iadd, 1) := by decide +kernel
theorem dX6_inner_40 : decode cX6_inner 40 = .ok (.istore_n 1, 1) := by decide +kernel
theorem dX6_inner_41 : decode cX6_inner 41 = .ok (.iinc 2 1, 3) := by decide +kernel
theorem dX6_inner_44 : decode cX6_inner 44 = .ok (.goto (-40), 3) := by decide +kernel
theorem dX6_inner_47 : decode cX6_inner 47 = .ok (.iload_n 1, 1) := by decide +kernel
theorem dX6_inner_48 : decode cX6_inner 48 = .ok (.ireturn, 1) := by decide +kernel
theorem dX6_plait_0 : decode cX6_plait 0 = .ok (.aload_n 0, 1) := by decide +kernel
theorem dX6_plait_1 : decode cX6_plait 1 = .ok (.invokevirtual 111, 3) := by decide +kernel
theorem dX6_plait_4 : decode cX6_plait 4 = .ok (.bipush (-9), 2) := by decide +kernel
theorem dX6_plait_6 : decode cX6_plait 6 = .ok (.if_icmp .eq 6, 3) := by decide +kernel
theorem dX6_plait_9 : decode cX6_plait 9 = .ok (.bipush (-3), 2) := by decide +kernel
theorem dX6_plait_11 : decode cX6_plait 11 = .ok (.ireturn, 1) := by decide +kernel
theorem dX6_plait_12 : decode cX6_plait 12 = .ok (.iconst 0, 1) := by decide +kernel
theorem dX6_plait_13 : decode cX6_plait 13 = .ok (.istore_n 1, 1) := by decide +kernel
theorem dX6_plait_14 : decode cX6_plait 14 = .ok (.iload_n 1, 1) := by decide +kernel
theorem dX6_plait_15 : decode cX6_plait 15 = .ok (.sipush 169, 3) := by decide +kernel
theorem dX6_plait_18 : decode cX6_plait 18 = .ok (.if_icmp .ge 21, 3) := by decide +kernel
theorem dX6_plait_21 : decode cX6_plait 21 = .ok (.aload_n 0, 1) := by decide +kernel
theorem dX6_plait_22 : decode cX6_plait 22 = .ok (.getfield 7, 3) := by decide +kernel
theorem dX6_plait_25 : decode cX6_plait 25 = .ok (.iload_n 1, 1) := by decide +kernel
theorem dX6_plait_26 : decode cX6_plait 26 = .ok (.aload_n 0, 1) := by decide +kernel
theorem dX6_plait_27 : decode cX6_plait 27 = .ok (.getfield 13, 3) := by decide +kernel
theorem dX6_plait_30 : decode cX6_plait 30 = .ok (.iload_n 1, 1) := by decide +kernel
theorem dX6_plait_31 : decode cX6_plait 31 = .ok (.iaload, 1) := by decide +kernel
theorem dX6_plait_32 : decode cX6_plait 32 = .ok (.iastore, 1) := by decide +kernel
theorem dX6_plait_33 : decode cX6_plait 33 = .ok (.iinc 1 1, 3) := by decide +kernel
theorem dX6_plait_36 : decode cX6_plait 36 = .ok (.goto (-22), 3) := by decide +kernel
theorem dX6_plait_39 : decode cX6_plait 39 = .ok (.aload_n 0, 1) := by decide +kernel
theorem dX6_plait_40 : decode cX6_plait 40 = .ok (.aload_n 0, 1) := by decide +kernel
theorem dX6_plait_41 : decode cX6_plait 41 = .ok (.getfield 90, 3) := by decide +kernel
theorem dX6_plait_44 : decode cX6_plait 44 = .ok (.putfield 62, 3) := by decide +kernel
theorem dX6_plait_47 : decode cX6_plait 47 = .ok (.aload_n 0, 1) := by decide +kernel
theorem dX6_plait_48 : decode cX6_plait 48 = .ok (.aload_n 0, 1) := by decide +kernel
theorem dX6_plait_49 : decode cX6_plait 49 = .ok (.getfield 93, 3) := by decide +kernel
theorem dX6_plait_52 : decode cX6_plait 52 = .ok (.putfield 66, 3) := by decide +kernel
theorem dX6_plait_55 : decode cX6_plait 55 = .ok (.aload_n 0, 1) := by decide +kernel
theorem dX6_plait_56 : decode cX6_plait 56 = .ok (.invokevirtual 115, 3) := by decide +kernel
theorem dX6_plait_59 : decode cX6_plait 59 = .ok (.ireturn, 1) := by decide +kernel
theorem dX6_make_0 : decode cX6_make 0 = .ok (.iload_n 1, 1) := by decide +kernel
theorem dX6_make_1 : decode cX6_make 1 = .ok (.i2l, 1) := by decide +kernel
theorem dX6_make_2 : decode cX6_make 2 = .ok (.lconst 1, 1) := by decide +kernel
theorem dX6_make_3 : decode cX6_make 3 = .ok (.ldc2_w 118, 3) := by decide +kernel
theorem dX6_make_6 : decode cX6_make 6 = .ok (.invokestatic 71, 3) := by decide +kernel
theorem dX6_make_9 : decode cX6_make 9 = .ok (.ifCond .eq 51, 3) := by decide +kernel
theorem dX6_make_12 : decode cX6_make 12 = .ok (.iload_n 2, 1) := by decide +kernel
theorem dX6_make_13 : decode cX6_make 13 = .ok (.i2l, 1) := by decide +kernel
theorem dX6_make_14 : decode cX6_make 14 = .ok (.lconst 1, 1) := by decide +kernel
theorem dX6_make_15 : decode cX6_make 15 = .ok (.ldc2_w 118, 3) := by decide +kernel
theorem dX6_make_18 : decode cX6_make 18 = .ok (.invokestatic 71, 3) := by decide +kernel
theorem dX6_make_21 : decode cX6_make 21 = .ok (.ifCond .eq 39, 3) := by decide +kernel
theorem dX6_make_24 : decode cX6_make 24 = .ok (.iload 5, 2) := by decide +kernel
theorem dX6_make_26 : decode cX6_make 26 = .ok (.i2l, 1) := by decide +kernel
theorem dX6_make_27 : decode cX6_make 27 = .ok (.lconst 0, 1) := by decide +kernel
theorem dX6_make_28 : decode cX6_make 28 = .ok (.ldc2_w 120, 3) := by decide +kernel
theorem dX6_make_31 : decode cX6_make 31 = .ok (.invokestatic 71, 3) := by decide +kernel
theorem dX6_make_34 : decode cX6_make 34 = .ok (.ifCond .eq 26, 3) := by decide +kernel
theorem dX6_make_37 : decode cX6_make 37 = .ok (.iload 6, 2) := by decide +kernel
theorem dX6_make_39 : decode cX6_make 39 = .ok (.i2l, 1) := by decide +kernel
theorem dX6_make_40 : decode cX6_make 40 = .ok (.lconst 0, 1) := by decide +kernel
theorem dX6_make_41 : decode cX6_make 41 = .ok (.ldc2_w 120, 3) := by decide +kernel
theorem dX6_make_44 : decode cX6_make 44 = .ok (.invokestatic 71, 3) := by decide +kernel
theorem dX6_make_47 : decode cX6_make 47 = .ok (.ifCond .eq 13, 3) := by decide +kernel
theorem dX6_make_50 : decode cX6_make 50 = .ok (.iload 5, 2) := by decide +kernel
theorem dX6_make_52 : decode cX6_make 52 = .ok (.iload 6, 2) := by decide +kernel
theorem dX6_make_54 : decode cX6_make 54 = .ok (.iadd, 1) := by decide +kernel
theorem dX6_make_55 : decode cX6_make 55 = .ok (.bipush 10, 2) := by decide +kernel
theorem dX6_make_57 : decode cX6_make 57 = .ok (.if_icmp .le 6, 3) := by decide +kernel
theorem dX6_make_60 : decode cX6_make 60 = .ok (.bipush (-2), 2) := by decide +kernel
theorem dX6_make_62 : decode cX6_make 62 = .ok (.ireturn, 1) := by decide +kernel
theorem dX6_make_63 : decode cX6_make 63 = .ok (.aload_n 0, 1) := by decide +kernel
theorem dX6_make_64 : decode cX6_make 64 = .ok (.iload_n 1, 1) := by decide +kernel
theorem dX6_make_65 : decode cX6_make 65 = .ok (.putfield 62, 3) := by decide +kernel
theorem dX6_make_68 : decode cX6_make 68 = .ok (.aload_n 0, 1) := by decide +kernel
theorem dX6_make_69 : decode cX6_make 69 = .ok (.iload_n 2, 1) := by decide +kernel
theorem dX6_make_70 : decode cX6_make 70 = .ok (.putfield 66, 3) := by decide +kernel
theorem dX6_make_73 : decode cX6_make 73 = .ok (.lload_n 3, 1) := by decide +kernel
theorem dX6_make_74 : decode cX6_make 74 = .ok (.lstore 7, 2) := by decide +kernel
theorem dX6_make_76 : decode cX6_make 76 = .ok (.iconst 0, 1) := by decide +kernel
theorem dX6_make_77 : decode cX6_make 77 = .ok (.istore 9, 2) := by decide +kernel
theorem dX6_make_79 : decode cX6_make 79 = .ok (.iload 9, 2) := by decide +kernel
theorem dX6_make_81 : decode cX6_make 81 = .ok (.sipush 169, 3) := by decide +kernel
theorem dX6_make_84 : decode cX6_make 84 = .ok (.if_icmp .ge 98, 3) := by decide +kernel
theorem dX6_make_87 : decode cX6_make 87 = .ok (.aload_n 0, 1) := by decide +kernel
theorem dX6_make_88 : decode cX6_make 88 = .ok (.getfield 7, 3) := by decide +kernel
theorem dX6_make_91 : decode cX6_make 91 = .ok (.iload 9, 2) := by decide +kernel
theorem dX6_make_93 : decode cX6_make 93 = .ok (.iconst 0, 1) := by decide +kernel
theorem dX6_make_94 : decode cX6_make 94 = .ok (.iastore, 1) := by decide +kernel
theorem dX6_make_95 : decode cX6_make 95 = .ok (.aload_n 0, 1) := by decide +kernel
theorem dX6_make_96 : decode cX6_make 96 = .ok (.getfield 62, 3) := by decide +kernel
theorem dX6_make_99 : decode cX6_make 99 = .ok (.aload_n 0, 1) := by decide +kernel
theorem dX6_make_100 : decode cX6_make 100 = .ok (.getfield 66, 3) := by decide +kernel
theorem dX6_make_103 : decode cX6_make 103 = .ok (.iload 9, 2) := by decide +kernel
theorem dX6_make_105 : decode cX6_make 105 = .ok (.bipush 13, 2) := by decide +kernel
theorem dX6_make_107 : decode cX6_make 107 = .ok (.idiv, 1) := by decide +kernel
theorem dX6_make_108 : decode cX6_make 108 = .ok (.iload 9, 2) := by decide +kernel
theorem dX6_make_110 : decode cX6_make 110 = .ok (.bipush 13, 2) := by decide +kernel
theorem dX6_make_112 : decode cX6_make 112 = .ok (.irem, 1) := by decide +kernel
theorem dX6_make_113 : decode cX6_make 113 = .ok (.invokestatic 96, 3) := by decide +kernel
theorem dX6_make_116 : decode cX6_make 116 = .ok (.ifCond .eq 60, 3) := by decide +kernel
theorem dX6_make_119 : decode cX6_make 119 = .ok (.lload 7, 2) := by decide +kernel
theorem dX6_make_121 : decode cX6_make 121 = .ok (.ldc2_w 122, 3) := by decide +kernel
theorem dX6_make_124 : decode cX6_make 124 = .ok (.lmul, 1) := by decide +kernel
theorem dX6_make_125 : decode cX6_make 125 = .ok (.ldc2_w 124, 3) := by decide +kernel
theorem dX6_make_128 : decode cX6_make 128 = .ok (.ladd, 1) := by decide +kernel
theorem dX6_make_129 : decode cX6_make 129 = .ok (.lstore 7, 2) := by decide +kernel
theorem dX6_make_131 : decode cX6_make 131 = .ok (.lload 7, 2) := by decide +kernel
theorem dX6_make_133 : decode cX6_make 133 = .ok (.bipush 33, 2) := by decide +kernel
theorem dX6_make_135 : decode cX6_make 135 = .ok (.lushr, 1) := by decide +kernel
theorem dX6_make_136 : decode cX6_make 136 = .ok (.ldc2_w 120, 3) := by decide +kernel
theorem dX6_make_139 : decode cX6_make 139 = .ok (.lrem, 1) := by decide +kernel
theorem dX6_make_140 : decode cX6_make 140 = .ok (.l2i, 1) := by decide +kernel
theorem dX6_make_141 : decode cX6_make 141 = .ok (.istore 10, 2) := by decide +kernel
theorem dX6_make_143 : decode cX6_make 143 = .ok (.aload_n 0, 1) := by decide +kernel
theorem dX6_make_144 : decode cX6_make 144 = .ok (.getfield 7, 3) := by decide +kernel
theorem dX6_make_147 : decode cX6_make 147 = .ok (.iload 9, 2) := by decide +kernel
theorem dX6_make_149 : decode cX6_make 149 = .ok (.iload 10, 2) := by decide +kernel
theorem dX6_make_151 : decode cX6_make 151 = .ok (.iload 5, 2) := by decide +kernel
theorem dX6_make_153 : decode cX6_make 153 = .ok (.if_icmp .ge 7, 3) := by decide +kernel
theorem dX6_make_156 : decode cX6_make 156 = .ok (.iconst 1, 1) := by decide +kernel
theorem dX6_make_157 : decode cX6_make 157 = .ok (.goto 18, 3) := by decide +kernel
theorem dX6_make_160 : decode cX6_make 160 = .ok (.iload 10, 2) := by decide +kernel
theorem dX6_make_162 : decode cX6_make 162 = .ok (.iload 5, 2) := by decide +kernel
theorem dX6_make_164 : decode cX6_make 164 = .ok (.iload 6, 2) := by decide +kernel
theorem dX6_make_166 : decode cX6_make 166 = .ok (.iadd, 1) := by decide +kernel
theorem dX6_make_167 : decode cX6_make 167 = .ok (.if_icmp .ge 7, 3) := by decide +kernel
theorem dX6_make_170 : decode cX6_make 170 = .ok (.iconst 2, 1) := by decide +kernel
theorem dX6_make_171 : decode cX6_make 171 = .ok (.goto 4, 3) := by decide +kernel
theorem dX6_make_174 : decode cX6_make 174 = .ok (.iconst 0, 1) := by decide +kernel
theorem dX6_make_175 : decode cX6_make 175 = .ok (.iastore, 1) := by decide +kernel
theorem dX6_make_176 : decode cX6_make 176 = .ok (.iinc 9 1, 3) := by decide +kernel
theorem dX6_make_179 : decode cX6_make 179 = .ok (.goto (-100), 3) := by decide +kernel
theorem dX6_make_182 : decode cX6_make 182 = .ok (.aload_n 0, 1) := by decide +kernel
theorem dX6_make_183 : decode cX6_make 183 = .ok (.invokevirtual 115, 3) := by decide +kernel
theorem dX6_make_186 : decode cX6_make 186 = .ok (.ireturn, 1) := by decide +kernel
theorem dX6_placeOf_0 : decode cX6_placeOf 0 = .ok (.iload_n 1, 1) := by decide +kernel
theorem dX6_placeOf_1 : decode cX6_placeOf 1 = .ok (.ifCond .lt 40, 3) := by decide +kernel
theorem dX6_placeOf_4 : decode cX6_placeOf 4 = .ok (.aload_n 0, 1) := by decide +kernel
theorem dX6_placeOf_5 : decode cX6_placeOf 5 = .ok (.getfield 62, 3) := by decide +kernel
theorem dX6_placeOf_8 : decode cX6_placeOf 8 = .ok (.aload_n 0, 1) := by decide +kernel
theorem dX6_placeOf_9 : decode cX6_placeOf 9 = .ok (.getfield 66, 3) := by decide +kernel
theorem dX6_placeOf_12 : decode cX6_placeOf 12 = .ok (.iload_n 1, 1) := by decide +kernel
theorem dX6_placeOf_13 : decode cX6_placeOf 13 = .ok (.bipush 100, 2) := by decide +kernel
theorem dX6_placeOf_15 : decode cX6_placeOf 15 = .ok (.idiv, 1) := by decide +kernel
theorem dX6_placeOf_16 : decode cX6_placeOf 16 = .ok (.iload_n 1, 1) := by decide +kernel
theorem dX6_placeOf_17 : decode cX6_placeOf 17 = .ok (.bipush 100, 2) := by decide +kernel
theorem dX6_placeOf_19 : decode cX6_placeOf 19 = .ok (.irem, 1) := by decide +kernel
theorem dX6_placeOf_20 : decode cX6_placeOf 20 = .ok (.invokestatic 96, 3) := by decide +kernel
theorem dX6_placeOf_23 : decode cX6_placeOf 23 = .ok (.ifCond .eq 18, 3) := by decide +kernel
theorem dX6_placeOf_26 : decode cX6_placeOf 26 = .ok (.bipush 13, 2) := by decide +kernel
theorem dX6_placeOf_28 : decode cX6_placeOf 28 = .ok (.iload_n 1, 1) := by decide +kernel
theorem dX6_placeOf_29 : decode cX6_placeOf 29 = .ok (.bipush 100, 2) := by decide +kernel
theorem dX6_placeOf_31 : decode cX6_placeOf 31 = .ok (.idiv, 1) := by decide +kernel
theorem dX6_placeOf_32 : decode cX6_placeOf 32 = .ok (.imul, 1) := by decide +kernel
theorem dX6_placeOf_33 : decode cX6_placeOf 33 = .ok (.iload_n 1, 1) := by decide +kernel
theorem dX6_placeOf_34 : decode cX6_placeOf 34 = .ok (.bipush 100, 2) := by decide +kernel
theorem dX6_placeOf_36 : decode cX6_placeOf 36 = .ok (.irem, 1) := by decide +kernel
theorem dX6_placeOf_37 : decode cX6_placeOf 37 = .ok (.iadd, 1) := by decide +kernel
theorem dX6_placeOf_38 : decode cX6_placeOf 38 = .ok (.goto 5, 3) := by decide +kernel
theorem dX6_placeOf_41 : decode cX6_placeOf 41 = .ok (.bipush (-9), 2) := by decide +kernel
theorem dX6_placeOf_43 : decode cX6_placeOf 43 = .ok (.ireturn, 1) := by decide +kernel
theorem dX6_toldOf_0 : decode cX6_toldOf 0 = .ok (.bipush 100, 2) := by decide +kernel
theorem dX6_toldOf_2 : decode cX6_toldOf 2 = .ok (.iload_n 0, 1) := by decide +kernel
theorem dX6_toldOf_3 : decode cX6_toldOf 3 = .ok (.bipush 13, 2) := by decide +kernel
theorem dX6_toldOf_5 : decode cX6_toldOf 5 = .ok (.idiv, 1) := by decide +kernel
theorem dX6_toldOf_6 : decode cX6_toldOf 6 = .ok (.imul, 1) := by decide +kernel
theorem dX6_toldOf_7 : decode cX6_toldOf 7 = .ok (.iload_n 0, 1) := by decide +kernel
theorem dX6_toldOf_8 : decode cX6_toldOf 8 = .ok (.bipush 13, 2) := by decide +kernel
theorem dX6_toldOf_10 : decode cX6_toldOf 10 = .ok (.irem, 1) := by decide +kernel
theorem dX6_toldOf_11 : decode cX6_toldOf 11 = .ok (.iadd, 1) := by decide +kernel
theorem dX6_toldOf_12 : decode cX6_toldOf 12 = .ok (.ireturn, 1) := by decide +kernel
theorem dX6_point_0 : decode cX6_point 0 = .ok (.aload_n 0, 1) := by decide +kernel
theorem dX6_point_1 : decode cX6_point 1 = .ok (.iload_n 1, 1) := by decide +kernel
theorem dX6_point_2 : decode cX6_point 2 = .ok (.invokevirtual 126, 3) := by decide +kernel
theorem dX6_point_5 : decode cX6_point 5 = .ok (.istore_n 2, 1) := by decide +kernel
theorem dX6_point_6 : decode cX6_point 6 = .ok (.iload_n 2, 1) := by decide +kernel
theorem dX6_point_7 : decode cX6_point 7 = .ok (.bipush (-9), 2) := by decide +kernel
theorem dX6_point_9 : decode cX6_point 9 = .ok (.if_icmp .ne 7, 3) := by decide +kernel
theorem dX6_point_12 : decode cX6_point 12 = .ok (.iconst (-1), 1) := by decide +kernel
theorem dX6_point_13 : decode cX6_point 13 = .ok (.goto 9, 3) := by decide +kernel
theorem dX6_point_16 : decode cX6_point 16 = .ok (.aload_n 0, 1) := by decide +kernel
theorem dX6_point_17 : decode cX6_point 17 = .ok (.getfield 7, 3) := by decide +kernel
theorem dX6_point_20 : decode cX6_point 20 = .ok (.iload_n 2, 1) := by decide +kernel
theorem dX6_point_21 : decode cX6_point 21 = .ok (.iaload, 1) := by decide +kernel
theorem dX6_point_22 : decode cX6_point 22 = .ok (.ireturn, 1) := by decide +kernel
theorem dX6_set_0 : decode cX6_set 0 = .ok (.aload_n 0, 1) := by decide +kernel
theorem dX6_set_1 : decode cX6_set 1 = .ok (.iload_n 1, 1) := by decide +kernel
theorem dX6_set_2 : decode cX6_set 2 = .ok (.invokevirtual 126, 3) := by decide +kernel
theorem dX6_set_5 : decode cX6_set 5 = .ok (.istore_n 3, 1) := by decide +kernel
theorem dX6_set_6 : decode cX6_set 6 = .ok (.iload_n 3, 1) := by decide +kernel
theorem dX6_set_7 : decode cX6_set 7 = .ok (.bipush (-9), 2) := by decide +kernel
theorem dX6_set_9 : decode cX6_set 9 = .ok (.if_icmp .ne 5, 3) := by decide +kernel
theorem dX6_set_12 : decode cX6_set 12 = .ok (.iconst (-1), 1) := by decide +kernel
theorem dX6_set_13 : decode cX6_set 13 = .ok (.ireturn, 1) := by decide +kernel
theorem dX6_set_14 : decode cX6_set 14 = .ok (.iload_n 2, 1) := by decide +kernel
theorem dX6_set_15 : decode cX6_set 15 = .ok (.i2l, 1) := by decide +kernel
theorem dX6_set_16 : decode cX6_set 16 = .ok (.lconst 0, 1) := by decide +kernel
theorem dX6_set_17 : decode cX6_set 17 = .ok (.ldc2_w 129, 3) := by decide +kernel
theorem dX6_set_20 : decode cX6_set 20 = .ok (.invokestatic 71, 3) := by decide +kernel
theorem dX6_set_23 : decode cX6_set 23 = .ok (.ifCond .ne 6, 3) := by decide +kernel
theorem dX6_set_26 : decode cX6_set 26 = .ok (.bipush (-2), 2) := by decide +kernel
theorem dX6_set_28 : decode cX6_set 28 = .ok (.ireturn, 1) := by decide +kernel
theorem dX6_set_29 : decode cX6_set 29 = .ok (.aload_n 0, 1) := by decide +kernel
theorem dX6_set_30 : decode cX6_set 30 = .ok (.getfield 7, 3) := by decide +kernel
theorem dX6_set_33 : decode cX6_set 33 = .ok (.iload_n 3, 1) := by decide +kernel
theorem dX6_set_34 : decode cX6_set 34 = .ok (.iaload, 1) := by decide +kernel
theorem dX6_set_35 : decode cX6_set 35 = .ok (.istore 4, 2) := by decide +kernel
theorem dX6_set_37 : decode cX6_set 37 = .ok (.aload_n 0, 1) := by decide +kernel
theorem dX6_set_38 : decode cX6_set 38 = .ok (.getfield 7, 3) := by decide +kernel
theorem dX6_set_41 : decode cX6_set 41 = .ok (.iload_n 3, 1) := by decide +kernel
theorem dX6_set_42 : decode cX6_set 42 = .ok (.iload_n 2, 1) := by decide +kernel
theorem dX6_set_43 : decode cX6_set 43 = .ok (.iastore, 1) := by decide +kernel
theorem dX6_set_44 : decode cX6_set 44 = .ok (.iload 4, 2) := by decide +kernel
theorem dX6_set_46 : decode cX6_set 46 = .ok (.ireturn, 1) := by decide +kernel
theorem dX6_isCrossing_0 : decode cX6_isCrossing 0 = .ok (.aload_n 0, 1) := by decide +kernel
theorem dX6_isCrossing_1 : decode cX6_isCrossing 1 = .ok (.getfield 62, 3) := by decide +kernel
theorem dX6_isCrossing_4 : decode cX6_isCrossing 4 = .ok (.aload_n 0, 1) := by decide +kernel
theorem dX6_isCrossing_5 : decode cX6_isCrossing 5 = .ok (.getfield 66, 3) := by decide +kernel
theorem dX6_isCrossing_8 : decode cX6_isCrossing 8 = .ok (.iload_n 1, 1) := by decide +kernel
theorem dX6_isCrossing_9 : decode cX6_isCrossing 9 = .ok (.bipush 13, 2) := by decide +kernel
theorem dX6_isCrossing_11 : decode cX6_isCrossing 11 = .ok (.idiv, 1) := by decide +kernel
theorem dX6_isCrossing_12 : decode cX6_isCrossing 12 = .ok (.iload_n 1, 1) := by decide +kernel
theorem dX6_isCrossing_13 : decode cX6_isCrossing 13 = .ok (.bipush 13, 2) := by decide +kernel
theorem dX6_isCrossing_15 : decode cX6_isCrossing 15 = .ok (.irem, 1) := by decide +kernel
theorem dX6_isCrossing_16 : decode cX6_isCrossing 16 = .ok (.invokestatic 96, 3) := by decide +kernel
theorem dX6_isCrossing_19 : decode cX6_isCrossing 19 = .ok (.ifCond .eq 18, 3) := by decide +kernel
theorem dX6_isCrossing_22 : decode cX6_isCrossing 22 = .ok (.aload_n 0, 1) := by decide +kernel
theorem dX6_isCrossing_23 : decode cX6_isCrossing 23 = .ok (.getfield 7, 3) := by decide +kernel
theorem dX6_isCrossing_26 : decode cX6_isCrossing 26 = .ok (.iload_n 1, 1) := by decide +kernel
theorem dX6_isCrossing_27 : decode cX6_isCrossing 27 = .ok (.iaload, 1) := by decide +kernel
theorem dX6_isCrossing_28 : decode cX6_isCrossing 28 = .ok (.iconst 3, 1) := by decide +kernel
theorem dX6_isCrossing_29 : decode cX6_isCrossing 29 = .ok (.irem, 1) := by decide +kernel
theorem dX6_isCrossing_30 : decode cX6_isCrossing 30 = .ok (.ifCond .ne 7, 3) := by decide +kernel
theorem dX6_isCrossing_33 : decode cX6_isCrossing 33 = .ok (.iconst 1, 1) := by decide +kernel
theorem dX6_isCrossing_34 : decode cX6_isCrossing 34 = .ok (.goto 4, 3) := by decide +kernel
theorem dX6_isCrossing_37 : decode cX6_isCrossing 37 = .ok (.iconst 0, 1) := by decide +kernel
theorem dX6_isCrossing_38 : decode cX6_isCrossing 38 = .ok (.ireturn, 1) := by decide +kernel
theorem dX6_isCell_0 : decode cX6_isCell 0 = .ok (.iload_n 1, 1) := by decide +kernel
theorem dX6_isCell_1 : decode cX6_isCell 1 = .ok (.bipush 12, 2) := by decide +kernel
theorem dX6_isCell_3 : decode cX6_isCell 3 = .ok (.idiv, 1) := by decide +kernel
theorem dX6_isCell_4 : decode cX6_isCell 4 = .ok (.iconst 2, 1) := by decide +kernel
theorem dX6_isCell_5 : decode cX6_isCell 5 = .ok (.aload_n 0, 1) := by decide +kernel
theorem dX6_isCell_6 : decode cX6_isCell 6 = .ok (.getfield 62, 3) := by decide +kernel
theorem dX6_isCell_9 : decode cX6_isCell 9 = .ok (.imul, 1) := by decide +kernel
theorem dX6_isCell_10 : decode cX6_isCell 10 = .ok (.if_icmp .ge 20, 3) := by decide +kernel
theorem dX6_isCell_13 : decode cX6_isCell 13 = .ok (.iload_n 1, 1) := by decide +kernel
theorem dX6_isCell_14 : decode cX6_isCell 14 = .ok (.bipush 12, 2) := by decide +kernel
theorem dX6_isCell_16 : decode cX6_isCell 16 = .ok (.irem, 1) := by decide +kernel
theorem dX6_isCell_17 : decode cX6_isCell 17 = .ok (.iconst 2, 1) := by decide +kernel
theorem dX6_isCell_18 : decode cX6_isCell 18 = .ok (.aload_n 0, 1) := by decide +kernel
theorem dX6_isCell_19 : decode cX6_isCell 19 = .ok (.getfield 66, 3) := by decide +kernel
theorem dX6_isCell_22 : decode cX6_isCell 22 = .ok (.imul, 1) := by decide +kernel
theorem dX6_isCell_23 : decode cX6_isCell 23 = .ok (.if_icmp .ge 7, 3) := by decide +kernel
theorem dX6_isCell_26 : decode cX6_isCell 26 = .ok (.iconst 1, 1) := by decide +kernel
theorem dX6_isCell_27 : decode cX6_isCell 27 = .ok (.goto 4, 3) := by decide +kernel
theorem dX6_isCell_30 : decode cX6_isCell 30 = .ok (.iconst 0, 1) := by decide +kernel
theorem dX6_isCell_31 : decode cX6_isCell 31 = .ok (.ireturn, 1) := by decide +kernel
theorem dX6_falls_0 : decode cX6_falls 0 = .ok (.iload_n 0, 1) := by decide +kernel
theorem dX6_falls_1 : decode cX6_falls 1 = .ok (.bipush 12, 2) := by decide +kernel
theorem dX6_falls_3 : decode cX6_falls 3 = .ok (.idiv, 1) := by decide +kernel
theorem dX6_falls_4 : decode cX6_falls 4 = .ok (.iload_n 0, 1) := by decide +kernel
theorem dX6_falls_5 : decode cX6_falls 5 = .ok (.bipush 12, 2) := by decide +kernel
theorem dX6_falls_7 : decode cX6_falls 7 = .ok (.irem, 1) := by decide +kernel
theorem dX6_falls_8 : decode cX6_falls 8 = .ok (.iadd, 1) := by decide +kernel
theorem dX6_falls_9 : decode cX6_falls 9 = .ok (.iconst 2, 1) := by decide +kernel
theorem dX6_falls_10 : decode cX6_falls 10 = .ok (.irem, 1) := by decide +kernel
theorem dX6_falls_11 : decode cX6_falls 11 = .ok (.iconst 1, 1) := by decide +kernel
theorem dX6_falls_12 : decode cX6_falls 12 = .ok (.if_icmp .ne 7, 3) := by decide +kernel
theorem dX6_falls_15 : decode cX6_falls 15 = .ok (.iconst 1, 1) := by decide +kernel
theorem dX6_falls_16 : decode cX6_falls 16 = .ok (.goto 4, 3) := by decide +kernel
theorem dX6_falls_19 : decode cX6_falls 19 = .ok (.iconst 0, 1) := by decide +kernel
theorem dX6_falls_20 : decode cX6_falls 20 = .ok (.ireturn, 1) := by decide +kernel
theorem dX6_behind_0 : decode cX6_behind 0 = .ok (.iload_n 0, 1) := by decide +kernel
theorem dX6_behind_1 : decode cX6_behind 1 = .ok (.bipush 12, 2) := by decide +kernel
theorem dX6_behind_3 : decode cX6_behind 3 = .ok (.idiv, 1) := by decide +kernel
theorem dX6_behind_4 : decode cX6_behind 4 = .ok (.iload_n 1, 1) := by decide +kernel
theorem dX6_behind_5 : decode cX6_behind 5 = .ok (.ifCond .eq 7, 3) := by decide +kernel
theorem dX6_behind_8 : decode cX6_behind 8 = .ok (.iconst 1, 1) := by decide +kernel
theorem dX6_behind_9 : decode cX6_behind 9 = .ok (.goto 4, 3) := by decide +kernel
theorem dX6_behind_12 : decode cX6_behind 12 = .ok (.iconst 0, 1) := by decide +kernel
theorem dX6_behind_13 : decode cX6_behind 13 = .ok (.iadd, 1) := by decide +kernel
theorem dX6_behind_14 : decode cX6_behind 14 = .ok (.istore_n 2, 1) := by decide +kernel
theorem dX6_behind_15 : decode cX6_behind 15 = .ok (.iload_n 0, 1) := by decide +kernel
theorem dX6_behind_16 : decode cX6_behind 16 = .ok (.bipush 12, 2) := by decide +kernel
theorem dX6_behind_18 : decode cX6_behind 18 = .ok (.irem, 1) := by decide +kernel
theorem dX6_behind_19 : decode cX6_behind 19 = .ok (.iload_n 0, 1) := by decide +kernel
theorem dX6_behind_20 : decode cX6_behind 20 = .ok (.invokestatic 131, 3) := by decide +kernel
theorem dX6_behind_23 : decode cX6_behind 23 = .ok (.iload_n 1, 1) := by decide +kernel
theorem dX6_behind_24 : decode cX6_behind 24 = .ok (.if_icmp .ne 7, 3) := by decide +kernel
theorem dX6_behind_27 : decode cX6_behind 27 = .ok (.iconst 1, 1) := by decide +kernel
theorem dX6_behind_28 : decode cX6_behind 28 = .ok (.goto 4, 3) := by decide +kernel
theorem dX6_behind_31 : decode cX6_behind 31 = .ok (.iconst 0, 1) := by decide +kernel
theorem dX6_behind_32 : decode cX6_behind 32 = .ok (.iadd, 1) := by decide +kernel
theorem dX6_behind_33 : decode cX6_behind 33 = .ok (.istore_n 3, 1) := by decide +kernel
theorem dX6_behind_34 : decode cX6_behind 34 = .ok (.bipush 13, 2) := by decide +kernel
theorem dX6_behind_36 : decode cX6_behind 36 = .ok (.iload_n 2, 1) := by decide +kernel
theorem dX6_behind_37 : decode cX6_behind 37 = .ok (.imul, 1) := by decide +kernel
theorem dX6_behind_38 : decode cX6_behind 38 = .ok (.iload_n 3, 1) := by decide +kernel
theorem dX6_behind_39 : decode cX6_behind 39 = .ok (.iadd, 1) := by decide +kernel
theorem dX6_behind_40 : decode cX6_behind 40 = .ok (.ireturn, 1) := by decide +kernel
theorem dX6_quarter_0 : decode cX6_quarter 0 = .ok (.iload_n 1, 1) := by decide +kernel
theorem dX6_quarter_1 : decode cX6_quarter 1 = .ok (.ifCond .eq 18, 3) := by decide +kernel
theorem dX6_quarter_4 : decode cX6_quarter 4 = .ok (.iload_n 0, 1) := by decide +kernel
theorem dX6_quarter_5 : decode cX6_quarter 5 = .ok (.invokestatic 131, 3) := by decide +kernel
theorem dX6_quarter_8 : decode cX6_quarter 8 = .ok (.ifCond .eq 7, 3) := by decide +kernel
theorem dX6_quarter_11 : decode cX6_quarter 11 = .ok (.iconst 0, 1) := by decide +kernel
theorem dX6_quarter_12 : decode cX6_quarter 12 = .ok (.goto 19, 3) := by decide +kernel
theorem dX6_quarter_15 : decode cX6_quarter 15 = .ok (.iconst 1, 1) := by decide +kernel
theorem dX6_quarter_16 : decode cX6_quarter 16 = .ok (.goto 15, 3) := by decide +kernel
theorem dX6_quarter_19 : decode cX6_quarter 19 = .ok (.iload_n 0, 1) := by decide +kernel
theorem dX6_quarter_20 : decode cX6_quarter 20 = .ok (.invokestatic 131, 3) := by decide +kernel
theorem dX6_quarter_23 : decode cX6_quarter 23 = .ok (.ifCond .eq 7, 3) := by decide +kernel
theorem dX6_quarter_26 : decode cX6_quarter 26 = .ok (.iconst 3, 1) := by decide +kernel
theorem dX6_quarter_27 : decode cX6_quarter 27 = .ok (.goto 4, 3) := by decide +kernel
theorem dX6_quarter_30 : decode cX6_quarter 30 = .ok (.iconst 2, 1) := by decide +kernel
theorem dX6_quarter_31 : decode cX6_quarter 31 = .ok (.ireturn, 1) := by decide +kernel
theorem dX6_goesOn_0 : decode cX6_goesOn 0 = .ok (.iload_n 1, 1) := by decide +kernel
theorem dX6_goesOn_1 : decode cX6_goesOn 1 = .ok (.bipush 13, 2) := by decide +kernel
theorem dX6_goesOn_3 : decode cX6_goesOn 3 = .ok (.idiv, 1) := by decide +kernel
theorem dX6_goesOn_4 : decode cX6_goesOn 4 = .ok (.istore_n 3, 1) := by decide +kernel
theorem dX6_goesOn_5 : decode cX6_goesOn 5 = .ok (.iload_n 1, 1) := by decide +kernel
theorem dX6_goesOn_6 : decode cX6_goesOn 6 = .ok (.bipush 13, 2) := by decide +kernel
theorem dX6_goesOn_8 : decode cX6_goesOn 8 = .ok (.irem, 1) := by decide +kernel
theorem dX6_goesOn_9 : decode cX6_goesOn 9 = .ok (.istore 4, 2) := by decide +kernel
theorem dX6_goesOn_11 : decode cX6_goesOn 11 = .ok (.iload_n 3, 1) := by decide +kernel
theorem dX6_goesOn_12 : decode cX6_goesOn 12 = .ok (.ifCond .eq 13, 3) := by decide +kernel
theorem dX6_goesOn_15 : decode cX6_goesOn 15 = .ok (.iload_n 3, 1) := by decide +kernel
theorem dX6_goesOn_16 : decode cX6_goesOn 16 = .ok (.iconst 2, 1) := by decide +kernel
theorem dX6_goesOn_17 : decode cX6_goesOn 17 = .ok (.aload_n 0, 1) := by decide +kernel
theorem dX6_goesOn_18 : decode cX6_goesOn 18 = .ok (.getfield 62, 3) := by decide +kernel
theorem dX6_goesOn_21 : decode cX6_goesOn 21 = .ok (.imul, 1) := by decide +kernel
theorem dX6_goesOn_22 : decode cX6_goesOn 22 = .ok (.if_icmp .ne 7, 3) := by decide +kernel
theorem dX6_goesOn_25 : decode cX6_goesOn 25 = .ok (.iconst 1, 1) := by decide +kernel
theorem dX6_goesOn_26 : decode cX6_goesOn 26 = .ok (.goto 4, 3) := by decide +kernel
theorem dX6_goesOn_29 : decode cX6_goesOn 29 = .ok (.iconst 0, 1) := by decide +kernel
theorem dX6_goesOn_30 : decode cX6_goesOn 30 = .ok (.istore 5, 2) := by decide +kernel
theorem dX6_goesOn_32 : decode cX6_goesOn 32 = .ok (.iload 4, 2) := by decide +kernel
theorem dX6_goesOn_34 : decode cX6_goesOn 34 = .ok (.ifCond .eq 14, 3) := by decide +kernel
theorem dX6_goesOn_37 : decode cX6_goesOn 37 = .ok (.iload 4, 2) := by decide +kernel
theorem dX6_goesOn_39 : decode cX6_goesOn 39 = .ok (.iconst 2, 1) := by decide +kernel
theorem dX6_goesOn_40 : decode cX6_goesOn 40 = .ok (.aload_n 0, 1) := by decide +kernel
theorem dX6_goesOn_41 : decode cX6_goesOn 41 = .ok (.getfield 66, 3) := by decide +kernel
theorem dX6_goesOn_44 : decode cX6_goesOn 44 = .ok (.imul, 1) := by decide +kernel
theorem dX6_goesOn_45 : decode cX6_goesOn 45 = .ok (.if_icmp .ne 7, 3) := by decide +kernel
theorem dX6_goesOn_48 : decode cX6_goesOn 48 = .ok (.iconst 1, 1) := by decide +kernel
theorem dX6_goesOn_49 : decode cX6_goesOn 49 = .ok (.goto 4, 3) := by decide +kernel
theorem dX6_goesOn_52 : decode cX6_goesOn 52 = .ok (.iconst 0, 1) := by decide +kernel
theorem dX6_goesOn_53 : decode cX6_goesOn 53 = .ok (.istore 6, 2) := by decide +kernel
theorem dX6_goesOn_55 : decode cX6_goesOn 55 = .ok (.iload 5, 2) := by decide +kernel
theorem dX6_goesOn_57 : decode cX6_goesOn 57 = .ok (.ifCond .ne 42, 3) := by decide +kernel
theorem dX6_goesOn_60 : decode cX6_goesOn 60 = .ok (.iload 6, 2) := by decide +kernel
theorem dX6_goesOn_62 : decode cX6_goesOn 62 = .ok (.ifCond .ne 37, 3) := by decide +kernel
theorem dX6_goesOn_65 : decode cX6_goesOn 65 = .ok (.aload_n 0, 1) := by decide +kernel
theorem dX6_goesOn_66 : decode cX6_goesOn 66 = .ok (.getfield 7, 3) := by decide +kernel
theorem dX6_goesOn_69 : decode cX6_goesOn 69 = .ok (.iload_n 1, 1) := by decide +kernel
theorem dX6_goesOn_70 : decode cX6_goesOn 70 = .ok (.iaload, 1) := by decide +kernel
theorem dX6_goesOn_71 : decode cX6_goesOn 71 = .ok (.iconst 1, 1) := by decide +kernel
theorem dX6_goesOn_72 : decode cX6_goesOn 72 = .ok (.if_icmp .ne 7, 3) := by decide +kernel
theorem dX6_goesOn_75 : decode cX6_goesOn 75 = .ok (.iconst 1, 1) := by decide +kernel
theorem dX6_goesOn_76 : decode cX6_goesOn 76 = .ok (.goto 4, 3) := by decide +kernel
theorem dX6_goesOn_79 : decode cX6_goesOn 79 = .ok (.iconst 0, 1) := by decide +kernel
theorem dX6_goesOn_80 : decode cX6_goesOn 80 = .ok (.istore 5, 2) := by decide +kernel
theorem dX6_goesOn_82 : decode cX6_goesOn 82 = .ok (.aload_n 0, 1) := by decide +kernel
theorem dX6_goesOn_83 : decode cX6_goesOn 83 = .ok (.getfield 7, 3) := by decide +kernel
theorem dX6_goesOn_86 : decode cX6_goesOn 86 = .ok (.iload_n 1, 1) := by decide +kernel
theorem dX6_goesOn_87 : decode cX6_goesOn 87 = .ok (.iaload, 1) := by decide +kernel
theorem dX6_goesOn_88 : decode cX6_goesOn 88 = .ok (.iconst 2, 1) := by decide +kernel
theorem dX6_goesOn_89 : decode cX6_goesOn 89 = .ok (.if_icmp .ne 7, 3) := by decide +kernel
theorem dX6_goesOn_92 : decode cX6_goesOn 92 = .ok (.iconst 1, 1) := by decide +kernel
theorem dX6_goesOn_93 : decode cX6_goesOn 93 = .ok (.goto 4, 3) := by decide +kernel
theorem dX6_goesOn_96 : decode cX6_goesOn 96 = .ok (.iconst 0, 1) := by decide +kernel
theorem dX6_goesOn_97 : decode cX6_goesOn 97 = .ok (.istore 6, 2) := by decide +kernel
theorem dX6_goesOn_99 : decode cX6_goesOn 99 = .ok (.iload 5, 2) := by decide +kernel
theorem dX6_goesOn_101 : decode cX6_goesOn 101 = .ok (.ifCond .eq 9, 3) := by decide +kernel
theorem dX6_goesOn_104 : decode cX6_goesOn 104 = .ok (.iload_n 2, 1) := by decide +kernel
theorem dX6_goesOn_105 : decode cX6_goesOn 105 = .ok (.iconst 1, 1) := by decide +kernel
theorem dX6_goesOn_106 : decode cX6_goesOn 106 = .ok (.ixor, 1) := by decide +kernel
theorem dX6_goesOn_107 : decode cX6_goesOn 107 = .ok (.goto 17, 3) := by decide +kernel
theorem dX6_goesOn_110 : decode cX6_goesOn 110 = .ok (.iload 6, 2) := by decide +kernel
theorem dX6_goesOn_112 : decode cX6_goesOn 112 = .ok (.ifCond .eq 9, 3) := by decide +kernel
theorem dX6_goesOn_115 : decode cX6_goesOn 115 = .ok (.iload_n 2, 1) := by decide +kernel
theorem dX6_goesOn_116 : decode cX6_goesOn 116 = .ok (.iconst 2, 1) := by decide +kernel
theorem dX6_goesOn_117 : decode cX6_goesOn 117 = .ok (.ixor, 1) := by decide +kernel
theorem dX6_goesOn_118 : decode cX6_goesOn 118 = .ok (.goto 6, 3) := by decide +kernel
theorem dX6_goesOn_121 : decode cX6_goesOn 121 = .ok (.iconst 3, 1) := by decide +kernel
theorem dX6_goesOn_122 : decode cX6_goesOn 122 = .ok (.iload_n 2, 1) := by decide +kernel
theorem dX6_goesOn_123 : decode cX6_goesOn 123 = .ok (.isub, 1) := by decide +kernel
theorem dX6_goesOn_124 : decode cX6_goesOn 124 = .ok (.ireturn, 1) := by decide +kernel
theorem dX6_walk_0 : decode cX6_walk 0 = .ok (.iload_n 1, 1) := by decide +kernel
theorem dX6_walk_1 : decode cX6_walk 1 = .ok (.iload_n 2, 1) := by decide +kernel
theorem dX6_walk_2 : decode cX6_walk 2 = .ok (.invokestatic 135, 3) := by decide +kernel
theorem dX6_walk_5 : decode cX6_walk 5 = .ok (.istore_n 3, 1) := by decide +kernel
theorem dX6_walk_6 : decode cX6_walk 6 = .ok (.aload_n 0, 1) := by decide +kernel
theorem dX6_walk_7 : decode cX6_walk 7 = .ok (.iload_n 3, 1) := by decide +kernel
theorem dX6_walk_8 : decode cX6_walk 8 = .ok (.iload_n 1, 1) := by decide +kernel
theorem dX6_walk_9 : decode cX6_walk 9 = .ok (.iload_n 2, 1) := by decide +kernel
theorem dX6_walk_10 : decode cX6_walk 10 = .ok (.invokestatic 139, 3) := by decide +kernel
theorem dX6_walk_13 : decode cX6_walk 13 = .ok (.invokevirtual 142, 3) := by decide +kernel
theorem dX6_walk_16 : decode cX6_walk 16 = .ok (.istore 4, 2) := by decide +kernel
theorem dX6_walk_18 : decode cX6_walk 18 = .ok (.iload_n 3, 1) := by decide +kernel
theorem dX6_walk_19 : decode cX6_walk 19 = .ok (.bipush 13, 2) := by decide +kernel
theorem dX6_walk_21 : decode cX6_walk 21 = .ok (.idiv, 1) := by decide +kernel
theorem dX6_walk_22 : decode cX6_walk 22 = .ok (.iload 4, 2) := by decide +kernel
theorem dX6_walk_24 : decode cX6_walk 24 = .ok (.ifCond .eq 9, 3) := by decide +kernel
theorem dX6_walk_27 : decode cX6_walk 27 = .ok (.iload 4, 2) := by decide +kernel
theorem dX6_walk_29 : decode cX6_walk 29 = .ok (.iconst 1, 1) := by decide +kernel
theorem dX6_walk_30 : decode cX6_walk 30 = .ok (.if_icmp .ne 7, 3) := by decide +kernel
theorem dX6_walk_33 : decode cX6_walk 33 = .ok (.iconst 1, 1) := by decide +kernel
theorem dX6_walk_34 : decode cX6_walk 34 = .ok (.goto 4, 3) := by decide +kernel
theorem dX6_walk_37 : decode cX6_walk 37 = .ok (.iconst 0, 1) := by decide +kernel
theorem dX6_walk_38 : decode cX6_walk 38 = .ok (.isub, 1) := by decide +kernel
theorem dX6_walk_39 : decode cX6_walk 39 = .ok (.istore 5, 2) := by decide +kernel
theorem dX6_walk_41 : decode cX6_walk 41 = .ok (.iload_n 3, 1) := by decide +kernel
theorem dX6_walk_42 : decode cX6_walk 42 = .ok (.bipush 13, 2) := by decide +kernel
theorem dX6_walk_44 : decode cX6_walk 44 = .ok (.irem, 1) := by decide +kernel
theorem dX6_walk_45 : decode cX6_walk 45 = .ok (.iload 4, 2) := by decide +kernel
theorem dX6_walk_47 : decode cX6_walk 47 = .ok (.ifCond .eq 9, 3) := by decide +kernel
theorem dX6_walk_50 : decode cX6_walk 50 = .ok (.iload 4, 2) := by decide +kernel
theorem dX6_walk_52 : decode cX6_walk 52 = .ok (.iconst 2, 1) := by decide +kernel
theorem dX6_walk_53 : decode cX6_walk 53 = .ok (.if_icmp .ne 7, 3) := by decide +kernel
theorem dX6_walk_56 : decode cX6_walk 56 = .ok (.iconst 1, 1) := by decide +kernel
theorem dX6_walk_57 : decode cX6_walk 57 = .ok (.goto 4, 3) := by decide +kernel
theorem dX6_walk_60 : decode cX6_walk 60 = .ok (.iconst 0, 1) := by decide +kernel
theorem dX6_walk_61 : decode cX6_walk 61 = .ok (.isub, 1) := by decide +kernel
theorem dX6_walk_62 : decode cX6_walk 62 = .ok (.istore 6, 2) := by decide +kernel
theorem dX6_walk_64 : decode cX6_walk 64 = .ok (.aload_n 0, 1) := by decide +kernel
theorem dX6_walk_65 : decode cX6_walk 65 = .ok (.bipush 12, 2) := by decide +kernel
theorem dX6_walk_67 : decode cX6_walk 67 = .ok (.iload 5, 2) := by decide +kernel
theorem dX6_walk_69 : decode cX6_walk 69 = .ok (.imul, 1) := by decide +kernel
theorem dX6_walk_70 : decode cX6_walk 70 = .ok (.iload 6, 2) := by decide +kernel
theorem dX6_walk_72 : decode cX6_walk 72 = .ok (.iadd, 1) := by decide +kernel
theorem dX6_walk_73 : decode cX6_walk 73 = .ok (.putfield 146, 3) := by decide +kernel
theorem dX6_walk_76 : decode cX6_walk 76 = .ok (.aload_n 0, 1) := by decide +kernel
theorem dX6_walk_77 : decode cX6_walk 77 = .ok (.iload 4, 2) := by decide +kernel
theorem dX6_walk_79 : decode cX6_walk 79 = .ok (.iconst 2, 1) := by decide +kernel
theorem dX6_walk_80 : decode cX6_walk 80 = .ok (.if_icmp .eq 9, 3) := by decide +kernel
theorem dX6_walk_83 : decode cX6_walk 83 = .ok (.iload 4, 2) := by decide +kernel
theorem dX6_walk_85 : decode cX6_walk 85 = .ok (.iconst 3, 1) := by decide +kernel
theorem dX6_walk_86 : decode cX6_walk 86 = .ok (.if_icmp .ne 7, 3) := by decide +kernel
theorem dX6_walk_89 : decode cX6_walk 89 = .ok (.iconst 1, 1) := by decide +kernel
theorem dX6_walk_90 : decode cX6_walk 90 = .ok (.goto 4, 3) := by decide +kernel
theorem dX6_walk_93 : decode cX6_walk 93 = .ok (.iconst 0, 1) := by decide +kernel
theorem dX6_walk_94 : decode cX6_walk 94 = .ok (.putfield 149, 3) := by decide +kernel
theorem dX6_walk_97 : decode cX6_walk 97 = .ok (.return_, 1) := by decide +kernel
theorem dX6_layLoops_0 : decode cX6_layLoops 0 = .ok (.iconst 0, 1) := by decide +kernel
theorem dX6_layLoops_1 : decode cX6_layLoops 1 = .ok (.istore_n 1, 1) := by decide +kernel
theorem dX6_layLoops_2 : decode cX6_layLoops 2 = .ok (.iload_n 1, 1) := by decide +kernel
theorem dX6_layLoops_3 : decode cX6_layLoops 3 = .ok (.sipush 144, 3) := by decide +kernel
theorem dX6_layLoops_6 : decode cX6_layLoops 6 = .ok (.if_icmp .ge 17, 3) := by decide +kernel
theorem dX6_layLoops_9 : decode cX6_layLoops 9 = .ok (.aload_n 0, 1) := by decide +kernel
theorem dX6_layLoops_10 : decode cX6_layLoops 10 = .ok (.getfield 23, 3) := by decide +kernel
theorem dX6_layLoops_13 : decode cX6_layLoops 13 = .ok (.iload_n 1, 1) := by decide +kernel
theorem dX6_layLoops_14 : decode cX6_layLoops 14 = .ok (.bipush (-9), 2) := by decide +kernel
theorem dX6_layLoops_16 : decode cX6_layLoops 16 = .ok (.iastore, 1) := by decide +kernel
theorem dX6_layLoops_17 : decode cX6_layLoops 17 = .ok (.iinc 1 1, 3) := by decide +kernel
theorem dX6_layLoops_20 : decode cX6_layLoops 20 = .ok (.goto (-18), 3) := by decide +kernel
theorem dX6_layLoops_23 : decode cX6_layLoops 23 = .ok (.aload_n 0, 1) := by decide +kernel
theorem dX6_layLoops_24 : decode cX6_layLoops 24 = .ok (.iconst 0, 1) := by decide +kernel
theorem dX6_layLoops_25 : decode cX6_layLoops 25 = .ok (.putfield 153, 3) := by decide +kernel
theorem dX6_layLoops_28 : decode cX6_layLoops 28 = .ok (.iconst 0, 1) := by decide +kernel
theorem dX6_layLoops_29 : decode cX6_layLoops 29 = .ok (.istore_n 1, 1) := by decide +kernel
theorem dX6_layLoops_30 : decode cX6_layLoops 30 = .ok (.iconst 0, 1) := by decide +kernel
theorem dX6_layLoops_31 : decode cX6_layLoops 31 = .ok (.istore_n 2, 1) := by decide +kernel
theorem dX6_layLoops_32 : decode cX6_layLoops 32 = .ok (.iload_n 2, 1) := by decide +kernel
theorem dX6_layLoops_33 : decode cX6_layLoops 33 = .ok (.sipush 144, 3) := by decide +kernel
theorem dX6_layLoops_36 : decode cX6_layLoops 36 = .ok (.if_icmp .ge 126, 3) := by decide +kernel
theorem dX6_layLoops_39 : decode cX6_layLoops 39 = .ok (.aload_n 0, 1) := by decide +kernel
theorem dX6_layLoops_40 : decode cX6_layLoops 40 = .ok (.iload_n 2, 1) := by decide +kernel
theorem dX6_layLoops_41 : decode cX6_layLoops 41 = .ok (.invokevirtual 156, 3) := by decide +kernel
theorem dX6_layLoops_44 : decode cX6_layLoops 44 = .ok (.ifCond .eq 112, 3) := by decide +kernel
theorem dX6_layLoops_47 : decode cX6_layLoops 47 = .ok (.aload_n 0, 1) := by decide +kernel
theorem dX6_layLoops_48 : decode cX6_layLoops 48 = .ok (.getfield 23, 3) := by decide +kernel
theorem dX6_layLoops_51 : decode cX6_layLoops 51 = .ok (.iload_n 2, 1) := by decide +kernel
theorem dX6_layLoops_52 : decode cX6_layLoops 52 = .ok (.iaload, 1) := by decide +kernel
theorem dX6_layLoops_53 : decode cX6_layLoops 53 = .ok (.bipush (-9), 2) := by decide +kernel
theorem dX6_layLoops_55 : decode cX6_layLoops 55 = .ok (.if_icmp .ne 101, 3) := by decide +kernel
theorem dX6_layLoops_58 : decode cX6_layLoops 58 = .ok (.aload_n 0, 1) := by decide +kernel
theorem dX6_layLoops_59 : decode cX6_layLoops 59 = .ok (.getfield 32, 3) := by decide +kernel
theorem dX6_layLoops_62 : decode cX6_layLoops 62 = .ok (.aload_n 0, 1) := by decide +kernel
theorem dX6_layLoops_63 : decode cX6_layLoops 63 = .ok (.getfield 153, 3) := by decide +kernel
theorem dX6_layLoops_66 : decode cX6_layLoops 66 = .ok (.iload_n 1, 1) := by decide +kernel
theorem dX6_layLoops_67 : decode cX6_layLoops 67 = .ok (.iastore, 1) := by decide +kernel
theorem dX6_layLoops_68 : decode cX6_layLoops 68 = .ok (.aload_n 0, 1) := by decide +kernel
theorem dX6_layLoops_69 : decode cX6_layLoops 69 = .ok (.iload_n 2, 1) := by decide +kernel
theorem dX6_layLoops_70 : decode cX6_layLoops 70 = .ok (.putfield 146, 3) := by decide +kernel
theorem dX6_layLoops_73 : decode cX6_layLoops 73 = .ok (.aload_n 0, 1) := by decide +kernel
theorem dX6_layLoops_74 : decode cX6_layLoops 74 = .ok (.iconst 1, 1) := by decide +kernel
theorem dX6_layLoops_75 : decode cX6_layLoops 75 = .ok (.putfield 149, 3) := by decide +kernel
theorem dX6_layLoops_78 : decode cX6_layLoops 78 = .ok (.aload_n 0, 1) := by decide +kernel
theorem dX6_layLoops_79 : decode cX6_layLoops 79 = .ok (.getfield 23, 3) := by decide +kernel
theorem dX6_layLoops_82 : decode cX6_layLoops 82 = .ok (.aload_n 0, 1) := by decide +kernel
theorem dX6_layLoops_83 : decode cX6_layLoops 83 = .ok (.getfield 146, 3) := by decide +kernel
theorem dX6_layLoops_86 : decode cX6_layLoops 86 = .ok (.iaload, 1) := by decide +kernel
theorem dX6_layLoops_87 : decode cX6_layLoops 87 = .ok (.bipush (-9), 2) := by decide +kernel
theorem dX6_layLoops_89 : decode cX6_layLoops 89 = .ok (.if_icmp .ne 57, 3) := by decide +kernel
theorem dX6_layLoops_92 : decode cX6_layLoops 92 = .ok (.aload_n 0, 1) := by decide +kernel
theorem dX6_layLoops_93 : decode cX6_layLoops 93 = .ok (.getfield 23, 3) := by decide +kernel
theorem dX6_layLoops_96 : decode cX6_layLoops 96 = .ok (.aload_n 0, 1) := by decide +kernel
theorem dX6_layLoops_97 : decode cX6_layLoops 97 = .ok (.getfield 146, 3) := by decide +kernel
theorem dX6_layLoops_100 : decode cX6_layLoops 100 = .ok (.aload_n 0, 1) := by decide +kernel
theorem dX6_layLoops_101 : decode cX6_layLoops 101 = .ok (.getfield 153, 3) := by decide +kernel
theorem dX6_layLoops_104 : decode cX6_layLoops 104 = .ok (.iastore, 1) := by decide +kernel
theorem dX6_layLoops_105 : decode cX6_layLoops 105 = .ok (.aload_n 0, 1) := by decide +kernel
theorem dX6_layLoops_106 : decode cX6_layLoops 106 = .ok (.getfield 26, 3) := by decide +kernel
theorem dX6_layLoops_109 : decode cX6_layLoops 109 = .ok (.aload_n 0, 1) := by decide +kernel
theorem dX6_layLoops_110 : decode cX6_layLoops 110 = .ok (.getfield 146, 3) := by decide +kernel
theorem dX6_layLoops_113 : decode cX6_layLoops 113 = .ok (.aload_n 0, 1) := by decide +kernel
theorem dX6_layLoops_114 : decode cX6_layLoops 114 = .ok (.getfield 149, 3) := by decide +kernel
theorem dX6_layLoops_117 : decode cX6_layLoops 117 = .ok (.bastore, 1) := by decide +kernel
theorem dX6_layLoops_118 : decode cX6_layLoops 118 = .ok (.aload_n 0, 1) := by decide +kernel
theorem dX6_layLoops_119 : decode cX6_layLoops 119 = .ok (.getfield 29, 3) := by decide +kernel
theorem dX6_layLoops_122 : decode cX6_layLoops 122 = .ok (.iload_n 1, 1) := by decide +kernel
theorem dX6_layLoops_123 : decode cX6_layLoops 123 = .ok (.aload_n 0, 1) := by decide +kernel
theorem dX6_layLoops_124 : decode cX6_layLoops 124 = .ok (.getfield 146, 3) := by decide +kernel
theorem dX6_layLoops_127 : decode cX6_layLoops 127 = .ok (.iastore, 1) := by decide +kernel
theorem dX6_layLoops_128 : decode cX6_layLoops 128 = .ok (.iinc 1 1, 3) := by decide +kernel
theorem dX6_layLoops_131 : decode cX6_layLoops 131 = .ok (.aload_n 0, 1) := by decide +kernel
theorem dX6_layLoops_132 : decode cX6_layLoops 132 = .ok (.aload_n 0, 1) := by decide +kernel
theorem dX6_layLoops_133 : decode cX6_layLoops 133 = .ok (.getfield 146, 3) := by decide +kernel
theorem dX6_layLoops_136 : decode cX6_layLoops 136 = .ok (.aload_n 0, 1) := by decide +kernel
theorem dX6_layLoops_137 : decode cX6_layLoops 137 = .ok (.getfield 149, 3) := by decide +kernel
theorem dX6_layLoops_140 : decode cX6_layLoops 140 = .ok (.invokevirtual 159, 3) := by decide +kernel
theorem dX6_layLoops_143 : decode cX6_layLoops 143 = .ok (.goto (-65), 3) := by decide +kernel
theorem dX6_layLoops_146 : decode cX6_layLoops 146 = .ok (.aload_n 0, 1) := by decide +kernel
