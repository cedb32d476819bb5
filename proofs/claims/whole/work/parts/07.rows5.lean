set_option maxRecDepth 20000 in
theorem gX6_between_X6_isLoop : GoodIn wsX6_between (wsV RX6 203 RX6 yX6_isLoop wsX6_isLoop) := goodIn_app (goodIn_of _ (by decide +kernel)) ggX6_between_X6_isLoop
set_option maxRecDepth 20000 in
theorem ggX6_between_X6_common : GoodIn wsX6_between wsX6_common := goodIn_r _ [47, 48, 11, 49, 50, 51, 4, 52, 21, 22, 40, 53, 54, 55, 41, 42, 43, 56, 57, 58, 59, 60, 61, 62, 63, 64, 65, 66, 67, 68, 69, 70, 15, 30, 31, 32, 71, 72, 73, 74, 75, 76, 77, 78, 79, 80, 81, 82, 83, 84, 85, 86, 87, 88, 89, 90, 91, 92, 93, 94, 95, 96, 97, 98, 99] (by decide +kernel) (by decide +kernel)
set_option maxRecDepth 20000 in
theorem gX6_between_X6_common : GoodIn wsX6_between (wsV RX6 209 RX6 yX6_common wsX6_common) := goodIn_app (goodIn_of _ (by decide +kernel)) ggX6_between_X6_common
theorem dX6_between_0 : decode cX6_between 0 = .ok (.aload_n 0, 1) := by decide +kernel
theorem dX6_between_1 : decode cX6_between 1 = .ok (.iload_n 1, 1) := by decide +kernel
theorem dX6_between_2 : decode cX6_between 2 = .ok (.invokevirtual 203, 3) := by decide +kernel
theorem dX6_between_5 : decode cX6_between 5 = .ok (.ifCond .eq 20, 3) := by decide +kernel
theorem dX6_between_8 : decode cX6_between 8 = .ok (.aload_n 0, 1) := by decide +kernel
theorem dX6_between_9 : decode cX6_between 9 = .ok (.iload_n 2, 1) := by decide +kernel
theorem dX6_between_10 : decode cX6_between 10 = .ok (.invokevirtual 203, 3) := by decide +kernel
theorem dX6_between_13 : decode cX6_between 13 = .ok (.ifCond .eq 12, 3) := by decide +kernel
theorem dX6_between_16 : decode cX6_between 16 = .ok (.aload_n 0, 1) := by decide +kernel
theorem dX6_between_17 : decode cX6_between 17 = .ok (.iload_n 1, 1) := by decide +kernel
theorem dX6_between_18 : decode cX6_between 18 = .ok (.iload_n 2, 1) := by decide +kernel
theorem dX6_between_19 : decode cX6_between 19 = .ok (.invokevirtual 209, 3) := by decide +kernel
theorem dX6_between_22 : decode cX6_between 22 = .ok (.goto 4, 3) := by decide +kernel
theorem dX6_between_25 : decode cX6_between 25 = .ok (.iconst (-1), 1) := by decide +kernel
theorem dX6_between_26 : decode cX6_between 26 = .ok (.ireturn, 1) := by decide +kernel
set_option maxRecDepth 20000 in
theorem ggX6_which_X6_placeOf : GoodIn wsX6_which wsX6_placeOf := goodIn_r _ [6, 7, 8, 9, 10, 5, 11, 12, 13, 14, 62, 63, 64, 65, 66, 67, 68, 69, 70, 71, 72, 73, 74, 75, 76, 77, 78, 79, 80, 81, 82, 83, 84, 85, 86, 87, 88, 89, 90] (by decide +kernel) (by decide +kernel)
set_option maxRecDepth 20000 in
theorem gX6_which_X6_placeOf : GoodIn wsX6_which (wsV RX6 126 RX6 yX6_placeOf wsX6_placeOf) := goodIn_app (goodIn_of _ (by decide +kernel)) ggX6_which_X6_placeOf
set_option maxRecDepth 20000 in
theorem ggX6_which_X6_layLoops : GoodIn wsX6_which wsX6_layLoops := goodIn_r _ [18, 1, 19, 20, 21, 22, 23, 24, 25, 26, 27, 5, 28, 7, 8, 29, 30, 31, 32, 33, 34, 35, 36, 37, 38, 39, 40, 41, 42, 43, 44, 45, 46, 62, 63, 64, 65, 66, 67, 68, 69, 70, 71, 72, 73, 74, 75, 76, 77, 78, 79, 80, 81, 82, 83, 84, 85, 86, 87, 88, 89, 90] (by decide +kernel) (by decide +kernel)
set_option maxRecDepth 20000 in
theorem gX6_which_X6_layLoops : GoodIn wsX6_which (wsV RX6 163 RX6 yX6_layLoops wsX6_layLoops) := goodIn_app (goodIn_of _ (by decide +kernel)) ggX6_which_X6_layLoops
set_option maxRecDepth 20000 in
theorem ggX6_which_X6_isCrossing : GoodIn wsX6_which wsX6_isCrossing := goodIn_r _ [50, 7, 8, 46, 9, 10, 5, 11, 12, 13, 14, 62, 63, 64, 65, 66, 67, 68, 69, 70, 71, 72, 73, 74, 75, 76, 77, 78, 79, 80, 81, 82, 83, 84, 85, 86, 87, 88, 89, 90] (by decide +kernel) (by decide +kernel)
set_option maxRecDepth 20000 in
theorem gX6_which_X6_isCrossing : GoodIn wsX6_which (wsV RX6 175 RX6 yX6_isCrossing wsX6_isCrossing) := goodIn_app (goodIn_of _ (by decide +kernel)) ggX6_which_X6_isCrossing
set_option maxRecDepth 20000 in
theorem ggX6_which_X6_strand : GoodIn wsX6_which wsX6_strand := goodIn_r _ [54, 55, 56, 57, 5, 58, 46, 59, 60, 61, 62, 63, 64, 65, 66, 67, 68, 69, 70, 71, 72, 73, 74, 75, 76, 77, 78, 79, 80, 81, 82, 83, 84, 85, 86, 87, 88, 89, 90] (by decide +kernel) (by decide +kernel)
set_option maxRecDepth 20000 in
theorem gX6_which_X6_strand : GoodIn wsX6_which (wsV RX6 178 RX6 yX6_strand wsX6_strand) := goodIn_app (goodIn_of _ (by decide +kernel)) ggX6_which_X6_strand
theorem dX6_which_0 : decode cX6_which 0 = .ok (.aload_n 0, 1) := by decide +kernel
theorem dX6_which_1 : decode cX6_which 1 = .ok (.iload_n 1, 1) := by decide +kernel
theorem dX6_which_2 : decode cX6_which 2 = .ok (.invokevirtual 126, 3) := by decide +kernel
theorem dX6_which_5 : decode cX6_which 5 = .ok (.istore_n 3, 1) := by decide +kernel
theorem dX6_which_6 : decode cX6_which 6 = .ok (.iload_n 3, 1) := by decide +kernel
theorem dX6_which_7 : decode cX6_which 7 = .ok (.bipush (-9), 2) := by decide +kernel
theorem dX6_which_9 : decode cX6_which 9 = .ok (.if_icmp .ne 5, 3) := by decide +kernel
theorem dX6_which_12 : decode cX6_which 12 = .ok (.iconst (-1), 1) := by decide +kernel
theorem dX6_which_13 : decode cX6_which 13 = .ok (.ireturn, 1) := by decide +kernel
theorem dX6_which_14 : decode cX6_which 14 = .ok (.aload_n 0, 1) := by decide +kernel
theorem dX6_which_15 : decode cX6_which 15 = .ok (.invokevirtual 163, 3) := by decide +kernel
theorem dX6_which_18 : decode cX6_which 18 = .ok (.pop, 1) := by decide +kernel
theorem dX6_which_19 : decode cX6_which 19 = .ok (.aload_n 0, 1) := by decide +kernel
theorem dX6_which_20 : decode cX6_which 20 = .ok (.iload_n 3, 1) := by decide +kernel
theorem dX6_which_21 : decode cX6_which 21 = .ok (.invokevirtual 175, 3) := by decide +kernel
theorem dX6_which_24 : decode cX6_which 24 = .ok (.ifCond .eq 17, 3) := by decide +kernel
theorem dX6_which_27 : decode cX6_which 27 = .ok (.aload_n 0, 1) := by decide +kernel
theorem dX6_which_28 : decode cX6_which 28 = .ok (.getfield 23, 3) := by decide +kernel
theorem dX6_which_31 : decode cX6_which 31 = .ok (.aload_n 0, 1) := by decide +kernel
theorem dX6_which_32 : decode cX6_which 32 = .ok (.iload_n 3, 1) := by decide +kernel
theorem dX6_which_33 : decode cX6_which 33 = .ok (.iload_n 2, 1) := by decide +kernel
theorem dX6_which_34 : decode cX6_which 34 = .ok (.invokevirtual 178, 3) := by decide +kernel
theorem dX6_which_37 : decode cX6_which 37 = .ok (.iaload, 1) := by decide +kernel
theorem dX6_which_38 : decode cX6_which 38 = .ok (.goto 5, 3) := by decide +kernel
theorem dX6_which_41 : decode cX6_which 41 = .ok (.bipush (-3), 2) := by decide +kernel
theorem dX6_which_43 : decode cX6_which 43 = .ok (.ireturn, 1) := by decide +kernel
set_option maxRecDepth 20000 in
theorem ggX6_sign_X6_placeOf : GoodIn wsX6_sign wsX6_placeOf := goodIn_r _ [5, 6, 7, 8, 9, 4, 10, 11, 12, 13, 66, 67, 68, 69, 70, 71, 72, 73, 74, 75, 76, 77, 78, 79, 80, 81, 82, 83, 84, 85, 86, 87, 88, 89, 90, 91, 92, 93, 94] (by decide +kernel) (by decide +kernel)
set_option maxRecDepth 20000 in
theorem gX6_sign_X6_placeOf : GoodIn wsX6_sign (wsV RX6 126 RX6 yX6_placeOf wsX6_placeOf) := goodIn_app (goodIn_of _ (by decide +kernel)) ggX6_sign_X6_placeOf
set_option maxRecDepth 20000 in
theorem ggX6_sign_X6_layLoops : GoodIn wsX6_sign wsX6_layLoops := goodIn_r _ [17, 18, 19, 20, 21, 22, 23, 24, 25, 26, 27, 4, 28, 6, 7, 29, 30, 31, 32, 33, 34, 35, 36, 37, 38, 39, 40, 41, 42, 43, 44, 45, 46, 66, 67, 68, 69, 70, 71, 72, 73, 74, 75, 76, 77, 78, 79, 80, 81, 82, 83, 84, 85, 86, 87, 88, 89, 90, 91, 92, 93, 94] (by decide +kernel) (by decide +kernel)
set_option maxRecDepth 20000 in
theorem gX6_sign_X6_layLoops : GoodIn wsX6_sign (wsV RX6 163 RX6 yX6_layLoops wsX6_layLoops) := goodIn_app (goodIn_of _ (by decide +kernel)) ggX6_sign_X6_layLoops
set_option maxRecDepth 20000 in
theorem ggX6_sign_X6_isCrossing : GoodIn wsX6_sign wsX6_isCrossing := goodIn_r _ [50, 6, 7, 46, 8, 9, 4, 10, 11, 12, 13, 66, 67, 68, 69, 70, 71, 72, 73, 74, 75, 76, 77, 78, 79, 80, 81, 82, 83, 84, 85, 86, 87, 88, 89, 90, 91, 92, 93, 94] (by decide +kernel) (by decide +kernel)
set_option maxRecDepth 20000 in
theorem gX6_sign_X6_isCrossing : GoodIn wsX6_sign (wsV RX6 175 RX6 yX6_isCrossing wsX6_isCrossing) := goodIn_app (goodIn_of _ (by decide +kernel)) ggX6_sign_X6_isCrossing
set_option maxRecDepth 20000 in
theorem ggX6_sign_X6_signOf : GoodIn wsX6_sign wsX6_signOf := goodIn_r _ [54, 23, 55, 56, 57, 4, 58, 59, 60, 61, 62, 46, 63, 64, 65, 36, 37, 38, 66, 67, 68, 69, 70, 71, 72, 73, 74, 75, 76, 77, 78, 79, 80, 81, 82, 83, 84, 85, 86, 87, 88, 89, 90, 91, 92, 93, 94] (by decide +kernel) (by decide +kernel)
set_option maxRecDepth 20000 in
theorem gX6_sign_X6_signOf : GoodIn wsX6_sign (wsV RX6 181 RX6 yX6_signOf wsX6_signOf) := goodIn_app (goodIn_of _ (by decide +kernel)) ggX6_sign_X6_signOf
theorem dX6_sign_0 : decode cX6_sign 0 = .ok (.aload_n 0, 1) := by decide +kernel
theorem dX6_sign_1 : decode cX6_sign 1 = .ok (.iload_n 1, 1) := by decide +kernel
theorem dX6_sign_2 : decode cX6_sign 2 = .ok (.invokevirtual 126, 3) := by decide +kernel
theorem dX6_sign_5 : decode cX6_sign 5 = .ok (.istore_n 2, 1) := by decide +kernel
theorem dX6_sign_6 : decode cX6_sign 6 = .ok (.iload_n 2, 1) := by decide +kernel
theorem dX6_sign_7 : decode cX6_sign 7 = .ok (.bipush (-9), 2) := by decide +kernel
theorem dX6_sign_9 : decode cX6_sign 9 = .ok (.if_icmp .ne 5, 3) := by decide +kernel
theorem dX6_sign_12 : decode cX6_sign 12 = .ok (.iconst (-1), 1) := by decide +kernel
theorem dX6_sign_13 : decode cX6_sign 13 = .ok (.ireturn, 1) := by decide +kernel
theorem dX6_sign_14 : decode cX6_sign 14 = .ok (.aload_n 0, 1) := by decide +kernel
theorem dX6_sign_15 : decode cX6_sign 15 = .ok (.invokevirtual 163, 3) := by decide +kernel
theorem dX6_sign_18 : decode cX6_sign 18 = .ok (.pop, 1) := by decide +kernel
theorem dX6_sign_19 : decode cX6_sign 19 = .ok (.aload_n 0, 1) := by decide +kernel
theorem dX6_sign_20 : decode cX6_sign 20 = .ok (.iload_n 2, 1) := by decide +kernel
theorem dX6_sign_21 : decode cX6_sign 21 = .ok (.invokevirtual 175, 3) := by decide +kernel
theorem dX6_sign_24 : decode cX6_sign 24 = .ok (.ifCond .eq 11, 3) := by decide +kernel
theorem dX6_sign_27 : decode cX6_sign 27 = .ok (.aload_n 0, 1) := by decide +kernel
theorem dX6_sign_28 : decode cX6_sign 28 = .ok (.iload_n 2, 1) := by decide +kernel
theorem dX6_sign_29 : decode cX6_sign 29 = .ok (.invokevirtual 181, 3) := by decide +kernel
theorem dX6_sign_32 : decode cX6_sign 32 = .ok (.goto 5, 3) := by decide +kernel
theorem dX6_sign_35 : decode cX6_sign 35 = .ok (.bipush (-3), 2) := by decide +kernel
theorem dX6_sign_37 : decode cX6_sign 37 = .ok (.ireturn, 1) := by decide +kernel
set_option maxRecDepth 20000 in
theorem ggX6_writhe_X6_layLoops : GoodIn wsX6_writhe wsX6_layLoops := goodIn_r _ [5, 6, 7, 8, 9, 10, 11, 12, 13, 14, 15, 4, 16, 17, 18, 19, 20, 21, 22, 23, 24, 25, 26, 27, 28, 29, 30, 31, 32, 33, 34, 35, 36, 62, 63, 64, 65, 66, 67, 68, 69, 70, 71, 72, 73, 74, 75, 76, 77, 78, 79, 80, 81, 82, 83, 84, 85, 86, 87, 88, 89, 90] (by decide +kernel) (by decide +kernel)
set_option maxRecDepth 20000 in
theorem gX6_writhe_X6_layLoops : GoodIn wsX6_writhe (wsV RX6 163 RX6 yX6_layLoops wsX6_layLoops) := goodIn_app (goodIn_of _ (by decide +kernel)) ggX6_writhe_X6_layLoops
set_option maxRecDepth 20000 in
theorem ggX6_writhe_X6_isCrossing : GoodIn wsX6_writhe wsX6_isCrossing := goodIn_r _ [40, 17, 18, 36, 41, 42, 4, 43, 44, 45, 46, 62, 63, 64, 65, 66, 67, 68, 69, 70, 71, 72, 73, 74, 75, 76, 77, 78, 79, 80, 81, 82, 83, 84, 85, 86, 87, 88, 89, 90] (by decide +kernel) (by decide +kernel)
set_option maxRecDepth 20000 in
theorem gX6_writhe_X6_isCrossing : GoodIn wsX6_writhe (wsV RX6 175 RX6 yX6_isCrossing wsX6_isCrossing) := goodIn_app (goodIn_of _ (by decide +kernel)) ggX6_writhe_X6_isCrossing
set_option maxRecDepth 20000 in
theorem ggX6_writhe_X6_signOf : GoodIn wsX6_writhe wsX6_signOf := goodIn_r _ [50, 11, 51, 52, 53, 4, 54, 55, 56, 57, 58, 36, 59, 60, 61, 26, 27, 28, 62, 63, 64, 65, 66, 67, 68, 69, 70, 71, 72, 73, 74, 75, 76, 77, 78, 79, 80, 81, 82, 83, 84, 85, 86, 87, 88, 89, 90] (by decide +kernel) (by decide +kernel)
set_option maxRecDepth 20000 in
theorem gX6_writhe_X6_signOf : GoodIn wsX6_writhe (wsV RX6 181 RX6 yX6_signOf wsX6_signOf) := goodIn_app (goodIn_of _ (by decide +kernel)) ggX6_writhe_X6_signOf
theorem dX6_writhe_0 : decode cX6_writhe 0 = .ok (.aload_n 0, 1) := by decide +kernel
theorem dX6_writhe_1 : decode cX6_writhe 1 = .ok (.invokevirtual 163, 3) := by decide +kernel
theorem dX6_writhe_4 : decode cX6_writhe 4 = .ok (.pop, 1) := by decide +kernel
theorem dX6_writhe_5 : decode cX6_writhe 5 = .ok (.sipush 1000, 3) := by decide +kernel
theorem dX6_writhe_8 : decode cX6_writhe 8 = .ok (.istore_n 1, 1) := by decide +kernel
theorem dX6_writhe_9 : decode cX6_writhe 9 = .ok (.iconst 0, 1) := by decide +kernel
theorem dX6_writhe_10 : decode cX6_writhe 10 = .ok (.istore_n 2, 1) := by decide +kernel
theorem dX6_writhe_11 : decode cX6_writhe 11 = .ok (.iload_n 2, 1) := by decide +kernel
theorem dX6_writhe_12 : decode cX6_writhe 12 = .ok (.sipush 169, 3) := by decide +kernel
theorem dX6_writhe_15 : decode cX6_writhe 15 = .ok (.if_icmp .ge 29, 3) := by decide +kernel
theorem dX6_writhe_18 : decode cX6_writhe 18 = .ok (.iload_n 1, 1) := by decide +kernel
theorem dX6_writhe_19 : decode cX6_writhe 19 = .ok (.aload_n 0, 1) := by decide +kernel
theorem dX6_writhe_20 : decode cX6_writhe 20 = .ok (.iload_n 2, 1) := by decide +kernel
theorem dX6_writhe_21 : decode cX6_writhe 21 = .ok (.invokevirtual 175, 3) := by decide +kernel
theorem dX6_writhe_24 : decode cX6_writhe 24 = .ok (.ifCond .eq 11, 3) := by decide +kernel
theorem dX6_writhe_27 : decode cX6_writhe 27 = .ok (.aload_n 0, 1) := by decide +kernel
theorem dX6_writhe_28 : decode cX6_writhe 28 = .ok (.iload_n 2, 1) := by decide +kernel
theorem dX6_writhe_29 : decode cX6_writhe 29 = .ok (.invokevirtual 181, 3) := by decide +kernel
theorem dX6_writhe_32 : decode cX6_writhe 32 = .ok (.goto 4, 3) := by decide +kernel
theorem dX6_writhe_35 : decode cX6_writhe 35 = .ok (.iconst 0, 1) := by decide +kernel
theorem dX6_writhe_36 : decode cX6_writhe 36 = .ok (.iadd, 1) := by decide +kernel
theorem dX6_writhe_37 : decode cX6_writhe 37 = .ok (.istore_n 1, 1) := by decide +kernel
theorem dX6_writhe_38 : decode cX6_writhe 38 = .ok (.iinc 2 1, 3) := by decide +kernel
theorem dX6_writhe_41 : decode cX6_writhe 41 = .ok (.goto (-30), 3) := by decide +kernel
theorem dX6_writhe_44 : decode cX6_writhe 44 = .ok (.iload_n 1, 1) := by decide +kernel
theorem dX6_writhe_45 : decode cX6_writhe 45 = .ok (.ireturn, 1) := by decide +kernel
set_option maxRecDepth 20000 in
theorem ggX6_linked_X6_isLoop : GoodIn wsX6_linked wsX6_isLoop := goodIn_r _ [6, 7, 8, 9, 10, 5, 11, 12, 13, 14, 15, 16, 17, 18, 19, 20, 21, 22, 23, 24, 25, 26, 27, 28, 29, 30, 31, 32, 33, 34, 35, 36, 37, 38, 39, 40, 41, 42, 43, 44, 71, 72, 73, 74, 75, 76, 77, 78, 79, 80, 81, 82, 83, 84, 85, 86, 87, 88, 89, 90, 91, 92, 93, 94, 95, 96, 97, 98, 99] (by decide +kernel) (by decide +kernel)
set_option maxRecDepth 20000 in
theorem gX6_linked_X6_isLoop : GoodIn wsX6_linked (wsV RX6 203 RX6 yX6_isLoop wsX6_isLoop) := goodIn_app (goodIn_of _ (by decide +kernel)) ggX6_linked_X6_isLoop
set_option maxRecDepth 20000 in
theorem ggX6_linked_X6_common : GoodIn wsX6_linked wsX6_common := goodIn_r _ [48, 1, 12, 49, 50, 51, 5, 52, 22, 23, 41, 53, 54, 55, 42, 43, 44, 56, 57, 58, 59, 60, 61, 62, 63, 64, 65, 66, 67, 68, 69, 70, 16, 31, 32, 33, 71, 72, 73, 74, 75, 76, 77, 78, 79, 80, 81, 82, 83, 84, 85, 86, 87, 88, 89, 90, 91, 92, 93, 94, 95, 96, 97, 98, 99] (by decide +kernel) (by decide +kernel)
set_option maxRecDepth 20000 in
theorem gX6_linked_X6_common : GoodIn wsX6_linked (wsV RX6 209 RX6 yX6_common wsX6_common) := goodIn_app (goodIn_of _ (by decide +kernel)) ggX6_linked_X6_common
theorem dX6_linked_0 : decode cX6_linked 0 = .ok (.aload_n 0, 1) := by decide +kernel
theorem dX6_linked_1 : decode cX6_linked 1 = .ok (.iload_n 1, 1) := by decide +kernel
theorem dX6_linked_2 : decode cX6_linked 2 = .ok (.invokevirtual 203, 3) := by decide +kernel
theorem dX6_linked_5 : decode cX6_linked 5 = .ok (.ifCond .eq 11, 3) := by decide +kernel
theorem dX6_linked_8 : decode cX6_linked 8 = .ok (.aload_n 0, 1) := by decide +kernel
theorem dX6_linked_9 : decode cX6_linked 9 = .ok (.iload_n 2, 1) := by decide +kernel
theorem dX6_linked_10 : decode cX6_linked 10 = .ok (.invokevirtual 203, 3) := by decide +kernel
theorem dX6_linked_13 : decode cX6_linked 13 = .ok (.ifCond .ne 5, 3) := by decide +kernel
theorem dX6_linked_16 : decode cX6_linked 16 = .ok (.iconst (-1), 1) := by decide +kernel
theorem dX6_linked_17 : decode cX6_linked 17 = .ok (.ireturn, 1) := by decide +kernel
theorem dX6_linked_18 : decode cX6_linked 18 = .ok (.iload_n 1, 1) := by decide +kernel
theorem dX6_linked_19 : decode cX6_linked 19 = .ok (.iload_n 2, 1) := by decide +kernel
theorem dX6_linked_20 : decode cX6_linked 20 = .ok (.if_icmp .ne 6, 3) := by decide +kernel
theorem dX6_linked_23 : decode cX6_linked 23 = .ok (.bipush (-3), 2) := by decide +kernel
theorem dX6_linked_25 : decode cX6_linked 25 = .ok (.ireturn, 1) := by decide +kernel
theorem dX6_linked_26 : decode cX6_linked 26 = .ok (.aload_n 0, 1) := by decide +kernel
theorem dX6_linked_27 : decode cX6_linked 27 = .ok (.iload_n 1, 1) := by decide +kernel
theorem dX6_linked_28 : decode cX6_linked 28 = .ok (.iload_n 2, 1) := by decide +kernel
theorem dX6_linked_29 : decode cX6_linked 29 = .ok (.invokevirtual 209, 3) := by decide +kernel
theorem dX6_linked_32 : decode cX6_linked 32 = .ok (.pop, 1) := by decide +kernel
theorem dX6_linked_33 : decode cX6_linked 33 = .ok (.sipush 1000, 3) := by decide +kernel
theorem dX6_linked_36 : decode cX6_linked 36 = .ok (.aload_n 0, 1) := by decide +kernel
theorem dX6_linked_37 : decode cX6_linked 37 = .ok (.getfield 172, 3) := by decide +kernel
theorem dX6_linked_40 : decode cX6_linked 40 = .ok (.iconst 2, 1) := by decide +kernel
theorem dX6_linked_41 : decode cX6_linked 41 = .ok (.idiv, 1) := by decide +kernel
theorem dX6_linked_42 : decode cX6_linked 42 = .ok (.iadd, 1) := by decide +kernel
theorem dX6_linked_43 : decode cX6_linked 43 = .ok (.ireturn, 1) := by decide +kernel
set_option maxRecDepth 20000 in
theorem ggX6_loopsBy_X6_layLoops : GoodIn wsX6_loopsBy wsX6_layLoops := goodIn_r _ [6, 7, 8, 9, 10, 11, 12, 13, 14, 15, 16, 5, 17, 18, 19, 20, 21, 22, 23, 24, 25, 26, 27, 28, 29, 30, 31, 32, 33, 34, 35, 36, 1, 37, 38, 39, 40, 41, 42, 43, 44, 45, 46, 47, 48, 49, 50, 51, 52, 53, 54, 55, 56, 57, 58, 59, 60, 61, 62, 63, 64, 65] (by decide +kernel) (by decide +kernel)
set_option maxRecDepth 20000 in
theorem gX6_loopsBy_X6_layLoops : GoodIn wsX6_loopsBy (wsV RX6 163 RX6 yX6_layLoops wsX6_layLoops) := goodIn_app (goodIn_of _ (by decide +kernel)) ggX6_loopsBy_X6_layLoops
theorem dX6_loopsBy_0 : decode cX6_loopsBy 0 = .ok (.aload_n 0, 1) := by decide +kernel
theorem dX6_loopsBy_1 : decode cX6_loopsBy 1 = .ok (.getfield 7, 3) := by decide +kernel
theorem dX6_loopsBy_4 : decode cX6_loopsBy 4 = .ok (.iload_n 1, 1) := by decide +kernel
theorem dX6_loopsBy_5 : decode cX6_loopsBy 5 = .ok (.iaload, 1) := by decide +kernel
theorem dX6_loopsBy_6 : decode cX6_loopsBy 6 = .ok (.istore_n 3, 1) := by decide +kernel
theorem dX6_loopsBy_7 : decode cX6_loopsBy 7 = .ok (.aload_n 0, 1) := by decide +kernel
theorem dX6_loopsBy_8 : decode cX6_loopsBy 8 = .ok (.getfield 7, 3) := by decide +kernel
theorem dX6_loopsBy_11 : decode cX6_loopsBy 11 = .ok (.iload_n 1, 1) := by decide +kernel
theorem dX6_loopsBy_12 : decode cX6_loopsBy 12 = .ok (.iload_n 2, 1) := by decide +kernel
theorem dX6_loopsBy_13 : decode cX6_loopsBy 13 = .ok (.iastore, 1) := by decide +kernel
theorem dX6_loopsBy_14 : decode cX6_loopsBy 14 = .ok (.aload_n 0, 1) := by decide +kernel
theorem dX6_loopsBy_15 : decode cX6_loopsBy 15 = .ok (.invokevirtual 163, 3) := by decide +kernel
theorem dX6_loopsBy_18 : decode cX6_loopsBy 18 = .ok (.istore 4, 2) := by decide +kernel
theorem dX6_loopsBy_20 : decode cX6_loopsBy 20 = .ok (.aload_n 0, 1) := by decide +kernel
theorem dX6_loopsBy_21 : decode cX6_loopsBy 21 = .ok (.getfield 7, 3) := by decide +kernel
theorem dX6_loopsBy_24 : decode cX6_loopsBy 24 = .ok (.iload_n 1, 1) := by decide +kernel
theorem dX6_loopsBy_25 : decode cX6_loopsBy 25 = .ok (.iload_n 3, 1) := by decide +kernel
theorem dX6_loopsBy_26 : decode cX6_loopsBy 26 = .ok (.iastore, 1) := by decide +kernel
theorem dX6_loopsBy_27 : decode cX6_loopsBy 27 = .ok (.iload 4, 2) := by decide +kernel
theorem dX6_loopsBy_29 : decode cX6_loopsBy 29 = .ok (.ireturn, 1) := by decide +kernel
set_option maxRecDepth 20000 in
theorem ggX6_by_X6_placeOf : GoodIn wsX6_by wsX6_placeOf := goodIn_r _ [6, 7, 8, 9, 10, 5, 11, 12, 13, 14, 52, 53, 54, 55, 56, 57, 58, 59, 60, 61, 62, 63, 64, 65, 66, 67, 68, 69, 70, 71, 72, 73, 74, 75, 76, 77, 78, 79, 80] (by decide +kernel) (by decide +kernel)
set_option maxRecDepth 20000 in
theorem gX6_by_X6_placeOf : GoodIn wsX6_by (wsV RX6 126 RX6 yX6_placeOf wsX6_placeOf) := goodIn_app (goodIn_of _ (by decide +kernel)) ggX6_by_X6_placeOf
set_option maxRecDepth 20000 in
theorem ggX6_by_X6_in : GoodIn wsX6_by wsX6_in := goodIn_r _ [14] (by decide +kernel) (by decide +kernel)
set_option maxRecDepth 20000 in
theorem gX6_by_X6_in : GoodIn wsX6_by (va_wsS RX6 71 yX6_in wsX6_in) := goodIn_app (goodIn_of _ (by decide +kernel)) ggX6_by_X6_in
set_option maxRecDepth 20000 in
theorem ggX6_by_X6_loopsBy : GoodIn wsX6_by wsX6_loopsBy := goodIn_r _ [18, 19, 20, 21, 22, 5, 23, 24, 25, 26, 27, 28, 29, 30, 31, 32, 33, 34, 7, 8, 35, 36, 37, 38, 39, 40, 41, 42, 43, 44, 45, 46, 47, 48, 49, 50, 51, 52, 53, 54, 55, 56, 57, 58, 59, 60, 61, 62, 63, 64, 65, 66, 67, 68, 69, 70, 71, 72, 73, 74, 75, 76, 77, 78, 79, 80] (by decide +kernel) (by decide +kernel)
set_option maxRecDepth 20000 in
theorem gX6_by_X6_loopsBy : GoodIn wsX6_by (wsV RX6 222 RX6 yX6_loopsBy wsX6_loopsBy) := goodIn_app (goodIn_of _ (by decide +kernel)) ggX6_by_X6_loopsBy
theorem dX6_by_0 : decode cX6_by 0 = .ok (.aload_n 0, 1) := by decide +kernel
theorem dX6_by_1 : decode cX6_by 1 = .ok (.iload_n 1, 1) := by decide +kernel
theorem dX6_by_2 : decode cX6_by 2 = .ok (.invokevirtual 126, 3) := by decide +kernel
theorem dX6_by_5 : decode cX6_by 5 = .ok (.istore_n 3, 1) := by decide +kernel
theorem dX6_by_6 : decode cX6_by 6 = .ok (.iload_n 3, 1) := by decide +kernel
theorem dX6_by_7 : decode cX6_by 7 = .ok (.bipush (-9), 2) := by decide +kernel
theorem dX6_by_9 : decode cX6_by 9 = .ok (.if_icmp .ne 5, 3) := by decide +kernel
theorem dX6_by_12 : decode cX6_by 12 = .ok (.iconst (-1), 1) := by decide +kernel
theorem dX6_by_13 : decode cX6_by 13 = .ok (.ireturn, 1) := by decide +kernel
theorem dX6_by_14 : decode cX6_by 14 = .ok (.iload_n 2, 1) := by decide +kernel
theorem dX6_by_15 : decode cX6_by 15 = .ok (.i2l, 1) := by decide +kernel
theorem dX6_by_16 : decode cX6_by 16 = .ok (.lconst 0, 1) := by decide +kernel
theorem dX6_by_17 : decode cX6_by 17 = .ok (.ldc2_w 220, 3) := by decide +kernel
theorem dX6_by_20 : decode cX6_by 20 = .ok (.invokestatic 71, 3) := by decide +kernel
theorem dX6_by_23 : decode cX6_by 23 = .ok (.ifCond .eq 12, 3) := by decide +kernel
theorem dX6_by_26 : decode cX6_by 26 = .ok (.aload_n 0, 1) := by decide +kernel
theorem dX6_by_27 : decode cX6_by 27 = .ok (.iload_n 3, 1) := by decide +kernel
theorem dX6_by_28 : decode cX6_by 28 = .ok (.iload_n 2, 1) := by decide +kernel
theorem dX6_by_29 : decode cX6_by 29 = .ok (.invokevirtual 222, 3) := by decide +kernel
theorem dX6_by_32 : decode cX6_by 32 = .ok (.goto 5, 3) := by decide +kernel
theorem dX6_by_35 : decode cX6_by 35 = .ok (.bipush (-2), 2) := by decide +kernel
theorem dX6_by_37 : decode cX6_by 37 = .ok (.ireturn, 1) := by decide +kernel
set_option maxRecDepth 20000 in
theorem ggX6_most_X6_in : GoodIn wsX6_most wsX6_in := goodIn_r _ [5] (by decide +kernel) (by decide +kernel)
set_option maxRecDepth 20000 in
theorem gX6_most_X6_in : GoodIn wsX6_most (va_wsS RX6 71 yX6_in wsX6_in) := goodIn_app (goodIn_of _ (by decide +kernel)) ggX6_most_X6_in
set_option maxRecDepth 20000 in
theorem ggX6_most_X6_isCrossing : GoodIn wsX6_most wsX6_isCrossing := goodIn_r _ [9, 10, 11, 12, 13, 14, 4, 15, 2, 3, 5, 55, 56, 57, 58, 59, 60, 61, 62, 63, 64, 65, 66, 67, 68, 69, 70, 71, 72, 73, 74, 75, 76, 77, 78, 79, 80, 81, 82, 83] (by decide +kernel) (by decide +kernel)
set_option maxRecDepth 20000 in
theorem gX6_most_X6_isCrossing : GoodIn wsX6_most (wsV RX6 175 RX6 yX6_isCrossing wsX6_isCrossing) := goodIn_app (goodIn_of _ (by decide +kernel)) ggX6_most_X6_isCrossing
set_option maxRecDepth 20000 in
theorem ggX6_most_X6_loopsBy : GoodIn wsX6_most wsX6_loopsBy := goodIn_r _ [19, 12, 20, 21, 22, 4, 23, 24, 25, 26, 27, 28, 29, 30, 31, 32, 33, 34, 10, 11, 35, 36, 37, 38, 39, 40, 41, 42, 43, 44, 45, 46, 47, 48, 49, 50, 51, 55, 56, 57, 58, 59, 60, 61, 62, 63, 64, 65, 66, 67, 68, 69, 70, 71, 72, 73, 74, 75, 76, 77, 78, 79, 80, 81, 82, 83] (by decide +kernel) (by decide +kernel)
set_option maxRecDepth 20000 in
theorem gX6_most_X6_loopsBy : GoodIn wsX6_most (wsV RX6 222 RX6 yX6_loopsBy wsX6_loopsBy) := goodIn_app (goodIn_of _ (by decide +kernel)) ggX6_most_X6_loopsBy
set_option maxRecDepth 20000 in
theorem ggX6_most_X6_toldOf : GoodIn wsX6_most wsX6_toldOf := goodIn_r _ [54] (by decide +kernel) (by decide +kernel)
set_option maxRecDepth 20000 in
theorem gX6_most_X6_toldOf : GoodIn wsX6_most (va_wsS RX6 217 yX6_toldOf wsX6_toldOf) := goodIn_app (goodIn_of _ (by decide +kernel)) ggX6_most_X6_toldOf
theorem dX6_most_0 : decode cX6_most 0 = .ok (.iload_n 1, 1) := by decide +kernel
theorem dX6_most_1 : decode cX6_most 1 = .ok (.i2l, 1) := by decide +kernel
theorem dX6_most_2 : decode cX6_most 2 = .ok (.lconst 1, 1) := by decide +kernel
theorem dX6_most_3 : decode cX6_most 3 = .ok (.ldc2_w 220, 3) := by decide +kernel
theorem dX6_most_6 : decode cX6_most 6 = .ok (.invokestatic 71, 3) := by decide +kernel
theorem dX6_most_9 : decode cX6_most 9 = .ok (.ifCond .ne 6, 3) := by decide +kernel
theorem dX6_most_12 : decode cX6_most 12 = .ok (.bipush (-2), 2) := by decide +kernel
theorem dX6_most_14 : decode cX6_most 14 = .ok (.ireturn, 1) := by decide +kernel
theorem dX6_most_15 : decode cX6_most 15 = .ok (.bipush (-9), 2) := by decide +kernel
theorem dX6_most_17 : decode cX6_most 17 = .ok (.istore_n 2, 1) := by decide +kernel
theorem dX6_most_18 : decode cX6_most 18 = .ok (.iconst 0, 1) := by decide +kernel
theorem dX6_most_19 : decode cX6_most 19 = .ok (.istore_n 3, 1) := by decide +kernel
theorem dX6_most_20 : decode cX6_most 20 = .ok (.iconst 0, 1) := by decide +kernel
theorem dX6_most_21 : decode cX6_most 21 = .ok (.istore 4, 2) := by decide +kernel
theorem dX6_most_23 : decode cX6_most 23 = .ok (.iload 4, 2) := by decide +kernel
theorem dX6_most_25 : decode cX6_most 25 = .ok (.sipush 169, 3) := by decide +kernel
theorem dX6_most_28 : decode cX6_most 28 = .ok (.if_icmp .ge 60, 3) := by decide +kernel
theorem dX6_most_31 : decode cX6_most 31 = .ok (.aload_n 0, 1) := by decide +kernel
theorem dX6_most_32 : decode cX6_most 32 = .ok (.iload 4, 2) := by decide +kernel
theorem dX6_most_34 : decode cX6_most 34 = .ok (.invokevirtual 175, 3) := by decide +kernel
theorem dX6_most_37 : decode cX6_most 37 = .ok (.ifCond .eq 13, 3) := by decide +kernel
theorem dX6_most_40 : decode cX6_most 40 = .ok (.aload_n 0, 1) := by decide +kernel
theorem dX6_most_41 : decode cX6_most 41 = .ok (.iload 4, 2) := by decide +kernel
theorem dX6_most_43 : decode cX6_most 43 = .ok (.iload_n 1, 1) := by decide +kernel
theorem dX6_most_44 : decode cX6_most 44 = .ok (.invokevirtual 222, 3) := by decide +kernel
theorem dX6_most_47 : decode cX6_most 47 = .ok (.goto 4, 3) := by decide +kernel
theorem dX6_most_50 : decode cX6_most 50 = .ok (.iconst 0, 1) := by decide +kernel
theorem dX6_most_51 : decode cX6_most 51 = .ok (.istore 5, 2) := by decide +kernel
theorem dX6_most_53 : decode cX6_most 53 = .ok (.iload 5, 2) := by decide +kernel
theorem dX6_most_55 : decode cX6_most 55 = .ok (.iload_n 3, 1) := by decide +kernel
theorem dX6_most_56 : decode cX6_most 56 = .ok (.if_icmp .le 11, 3) := by decide +kernel
theorem dX6_most_59 : decode cX6_most 59 = .ok (.iload 4, 2) := by decide +kernel
theorem dX6_most_61 : decode cX6_most 61 = .ok (.invokestatic 217, 3) := by decide +kernel
theorem dX6_most_64 : decode cX6_most 64 = .ok (.goto 4, 3) := by decide +kernel
theorem dX6_most_67 : decode cX6_most 67 = .ok (.iload_n 2, 1) := by decide +kernel
theorem dX6_most_68 : decode cX6_most 68 = .ok (.istore_n 2, 1) := by decide +kernel
theorem dX6_most_69 : decode cX6_most 69 = .ok (.iload 5, 2) := by decide +kernel
theorem dX6_most_71 : decode cX6_most 71 = .ok (.iload_n 3, 1) := by decide +kernel
theorem dX6_most_72 : decode cX6_most 72 = .ok (.if_icmp .le 8, 3) := by decide +kernel
theorem dX6_most_75 : decode cX6_most 75 = .ok (.iload 5, 2) := by decide +kernel
theorem dX6_most_77 : decode cX6_most 77 = .ok (.goto 4, 3) := by decide +kernel
theorem dX6_most_80 : decode cX6_most 80 = .ok (.iload_n 3, 1) := by decide +kernel
theorem dX6_most_81 : decode cX6_most 81 = .ok (.istore_n 3, 1) := by decide +kernel
theorem dX6_most_82 : decode cX6_most 82 = .ok (.iinc 4 1, 3) := by decide +kernel
theorem dX6_most_85 : decode cX6_most 85 = .ok (.goto (-62), 3) := by decide +kernel
theorem dX6_most_88 : decode cX6_most 88 = .ok (.iload_n 2, 1) := by decide +kernel
theorem dX6_most_89 : decode cX6_most 89 = .ok (.ireturn, 1) := by decide +kernel
set_option maxRecDepth 20000 in
theorem ggX6_layOne_X6_layLoops : GoodIn wsX6_layOne wsX6_layLoops := goodIn_r _ [9, 3, 1, 10, 11, 12, 13, 14, 15, 16, 17, 8, 18, 19, 20, 21, 22, 23, 24, 25, 26, 27, 28, 29, 30, 31, 32, 33, 34, 35, 36, 37, 38, 67, 68, 69, 70, 71, 72, 73, 74, 75, 76, 77, 78, 79, 80, 81, 82, 83, 84, 85, 86, 87, 88, 89, 90, 91, 92, 93, 94, 95] (by decide +kernel) (by decide +kernel)
set_option maxRecDepth 20000 in
theorem gX6_layOne_X6_layLoops : GoodIn wsX6_layOne (wsV RX6 163 RX6 yX6_layLoops wsX6_layLoops) := goodIn_app (goodIn_of _ (by decide +kernel)) ggX6_layOne_X6_layLoops
set_option maxRecDepth 20000 in
theorem ggX6_layOne_X6_isCrossing : GoodIn wsX6_layOne wsX6_isCrossing := goodIn_r _ [42, 19, 20, 38, 43, 44, 8, 45, 46, 47, 48, 67, 68, 69, 70, 71, 72, 73, 74, 75, 76, 77, 78, 79, 80, 81, 82, 83, 84, 85, 86, 87, 88, 89, 90, 91, 92, 93, 94, 95] (by decide +kernel) (by decide +kernel)
set_option maxRecDepth 20000 in
theorem gX6_layOne_X6_isCrossing : GoodIn wsX6_layOne (wsV RX6 175 RX6 yX6_isCrossing wsX6_isCrossing) := goodIn_app (goodIn_of _ (by decide +kernel)) ggX6_layOne_X6_isCrossing
set_option maxRecDepth 20000 in
theorem ggX6_layOne_X6_strand : GoodIn wsX6_layOne wsX6_strand := goodIn_r _ [52, 53, 54, 55, 8, 56, 38, 57, 58, 59, 67, 68, 69, 70, 71, 72, 73, 74, 75, 76, 77, 78, 79, 80, 81, 82, 83, 84, 85, 86, 87, 88, 89, 90, 91, 92, 93, 94, 95] (by decide +kernel) (by decide +kernel)
set_option maxRecDepth 20000 in
theorem gX6_layOne_X6_strand : GoodIn wsX6_layOne (wsV RX6 178 RX6 yX6_strand wsX6_strand) := goodIn_app (goodIn_of _ (by decide +kernel)) ggX6_layOne_X6_strand
set_option maxRecDepth 20000 in
theorem ggX6_layOne_X6_join : GoodIn wsX6_layOne wsX6_join := goodIn_r _ [63, 2, 1, 67, 68, 69, 70, 71, 72, 73, 74, 75, 76, 77, 78, 79, 80, 81, 82, 83, 84, 85, 86, 87, 88, 89, 90, 91, 92, 93, 94, 95] (by decide +kernel) (by decide +kernel)
set_option maxRecDepth 20000 in
theorem gX6_layOne_X6_join : GoodIn wsX6_layOne (wsV RX6 184 RX6 yX6_join wsX6_join) := goodIn_app (goodIn_of _ (by decide +kernel)) ggX6_layOne_X6_join
set_option maxRecDepth 20000 in
theorem ggX6_layOne_X6_toldOf : GoodIn wsX6_layOne wsX6_toldOf := goodIn_r _ [66] (by decide +kernel) (by decide +kernel)
set_option maxRecDepth 20000 in
theorem gX6_layOne_X6_toldOf : GoodIn wsX6_layOne (va_wsS RX6 217 yX6_toldOf wsX6_toldOf) := goodIn_app (goodIn_of _ (by decide +kernel)) ggX6_layOne_X6_toldOf
theorem dX6_layOne_0 : decode cX6_layOne 0 = .ok (.aload_n 0, 1) := by decide +kernel
theorem dX6_layOne_1 : decode cX6_layOne 1 = .ok (.invokevirtual 163, 3) := by decide +kernel
theorem dX6_layOne_4 : decode cX6_layOne 4 = .ok (.pop, 1) := by decide +kernel
theorem dX6_layOne_5 : decode cX6_layOne 5 = .ok (.iconst 0, 1) := by decide +kernel
theorem dX6_layOne_6 : decode cX6_layOne 6 = .ok (.istore_n 1, 1) := by decide +kernel
theorem dX6_layOne_7 : decode cX6_layOne 7 = .ok (.iload_n 1, 1) := by decide +kernel
theorem dX6_layOne_8 : decode cX6_layOne 8 = .ok (.aload_n 0, 1) := by decide +kernel
theorem dX6_layOne_9 : decode cX6_layOne 9 = .ok (.getfield 153, 3) := by decide +kernel
theorem dX6_layOne_12 : decode cX6_layOne 12 = .ok (.if_icmp .ge 16, 3) := by decide +kernel
theorem dX6_layOne_15 : decode cX6_layOne 15 = .ok (.aload_n 0, 1) := by decide +kernel
theorem dX6_layOne_16 : decode cX6_layOne 16 = .ok (.getfield 35, 3) := by decide +kernel
theorem dX6_layOne_19 : decode cX6_layOne 19 = .ok (.iload_n 1, 1) := by decide +kernel
theorem dX6_layOne_20 : decode cX6_layOne 20 = .ok (.iload_n 1, 1) := by decide +kernel
theorem dX6_layOne_21 : decode cX6_layOne 21 = .ok (.iastore, 1) := by decide +kernel
theorem dX6_layOne_22 : decode cX6_layOne 22 = .ok (.iinc 1 1, 3) := by decide +kernel
theorem dX6_layOne_25 : decode cX6_layOne 25 = .ok (.goto (-18), 3) := by decide +kernel
theorem dX6_layOne_28 : decode cX6_layOne 28 = .ok (.iconst 0, 1) := by decide +kernel
theorem dX6_layOne_29 : decode cX6_layOne 29 = .ok (.istore_n 1, 1) := by decide +kernel
theorem dX6_layOne_30 : decode cX6_layOne 30 = .ok (.iconst 0, 1) := by decide +kernel
theorem dX6_layOne_31 : decode cX6_layOne 31 = .ok (.istore_n 2, 1) := by decide +kernel
theorem dX6_layOne_32 : decode cX6_layOne 32 = .ok (.iload_n 2, 1) := by decide +kernel
theorem dX6_layOne_33 : decode cX6_layOne 33 = .ok (.sipush 169, 3) := by decide +kernel
theorem dX6_layOne_36 : decode cX6_layOne 36 = .ok (.if_icmp .ge 60, 3) := by decide +kernel
theorem dX6_layOne_39 : decode cX6_layOne 39 = .ok (.aload_n 0, 1) := by decide +kernel
theorem dX6_layOne_40 : decode cX6_layOne 40 = .ok (.iload_n 2, 1) := by decide +kernel
theorem dX6_layOne_41 : decode cX6_layOne 41 = .ok (.invokevirtual 175, 3) := by decide +kernel
theorem dX6_layOne_44 : decode cX6_layOne 44 = .ok (.ifCond .eq 46, 3) := by decide +kernel
theorem dX6_layOne_47 : decode cX6_layOne 47 = .ok (.aload_n 0, 1) := by decide +kernel
theorem dX6_layOne_48 : decode cX6_layOne 48 = .ok (.aload_n 0, 1) := by decide +kernel
theorem dX6_layOne_49 : decode cX6_layOne 49 = .ok (.getfield 23, 3) := by decide +kernel
theorem dX6_layOne_52 : decode cX6_layOne 52 = .ok (.aload_n 0, 1) := by decide +kernel
theorem dX6_layOne_53 : decode cX6_layOne 53 = .ok (.iload_n 2, 1) := by decide +kernel
theorem dX6_layOne_54 : decode cX6_layOne 54 = .ok (.iconst 1, 1) := by decide +kernel
theorem dX6_layOne_55 : decode cX6_layOne 55 = .ok (.invokevirtual 178, 3) := by decide +kernel
theorem dX6_layOne_58 : decode cX6_layOne 58 = .ok (.iaload, 1) := by decide +kernel
theorem dX6_layOne_59 : decode cX6_layOne 59 = .ok (.aload_n 0, 1) := by decide +kernel
theorem dX6_layOne_60 : decode cX6_layOne 60 = .ok (.getfield 23, 3) := by decide +kernel
theorem dX6_layOne_63 : decode cX6_layOne 63 = .ok (.aload_n 0, 1) := by decide +kernel
theorem dX6_layOne_64 : decode cX6_layOne 64 = .ok (.iload_n 2, 1) := by decide +kernel
theorem dX6_layOne_65 : decode cX6_layOne 65 = .ok (.iconst 0, 1) := by decide +kernel
theorem dX6_layOne_66 : decode cX6_layOne 66 = .ok (.invokevirtual 178, 3) := by decide +kernel
theorem dX6_layOne_69 : decode cX6_layOne 69 = .ok (.iaload, 1) := by decide +kernel
theorem dX6_layOne_70 : decode cX6_layOne 70 = .ok (.invokevirtual 184, 3) := by decide +kernel
theorem dX6_layOne_73 : decode cX6_layOne 73 = .ok (.iconst 1, 1) := by decide +kernel
theorem dX6_layOne_74 : decode cX6_layOne 74 = .ok (.if_icmp .ne 16, 3) := by decide +kernel
theorem dX6_layOne_77 : decode cX6_layOne 77 = .ok (.aload_n 0, 1) := by decide +kernel
theorem dX6_layOne_78 : decode cX6_layOne 78 = .ok (.getfield 50, 3) := by decide +kernel
theorem dX6_layOne_81 : decode cX6_layOne 81 = .ok (.iload_n 1, 1) := by decide +kernel
theorem dX6_layOne_82 : decode cX6_layOne 82 = .ok (.iload_n 2, 1) := by decide +kernel
theorem dX6_layOne_83 : decode cX6_layOne 83 = .ok (.invokestatic 217, 3) := by decide +kernel
theorem dX6_layOne_86 : decode cX6_layOne 86 = .ok (.iastore, 1) := by decide +kernel
theorem dX6_layOne_87 : decode cX6_layOne 87 = .ok (.iinc 1 1, 3) := by decide +kernel
theorem dX6_layOne_90 : decode cX6_layOne 90 = .ok (.iinc 2 1, 3) := by decide +kernel
theorem dX6_layOne_93 : decode cX6_layOne 93 = .ok (.goto (-61), 3) := by decide +kernel
theorem dX6_layOne_96 : decode cX6_layOne 96 = .ok (.iload_n 1, 1) := by decide +kernel
theorem dX6_layOne_97 : decode cX6_layOne 97 = .ok (.aload_n 0, 1) := by decide +kernel
theorem dX6_layOne_98 : decode cX6_layOne 98 = .ok (.getfield 153, 3) := by decide +kernel
theorem dX6_layOne_101 : decode cX6_layOne 101 = .ok (.iconst 1, 1) := by decide +kernel
theorem dX6_layOne_102 : decode cX6_layOne 102 = .ok (.isub, 1) := by decide +kernel
theorem dX6_layOne_103 : decode cX6_layOne 103 = .ok (.if_icmp .ne 7, 3) := by decide +kernel
theorem dX6_layOne_106 : decode cX6_layOne 106 = .ok (.iload_n 1, 1) := by decide +kernel
theorem dX6_layOne_107 : decode cX6_layOne 107 = .ok (.goto 5, 3) := by decide +kernel
theorem dX6_layOne_110 : decode cX6_layOne 110 = .ok (.bipush (-9), 2) := by decide +kernel
theorem dX6_layOne_112 : decode cX6_layOne 112 = .ok (.ireturn, 1) := by decide +kernel
set_option maxRecDepth 20000 in
theorem ggX6_one_X6_layOne : GoodIn wsX6_one wsX6_layOne := goodIn_r _ [5, 6, 7, 8, 9, 10, 11, 12, 4, 13, 14, 15, 16, 17, 18, 19, 20, 21, 22, 23, 24, 25, 26, 27, 28, 29, 30, 31, 32, 33, 34, 35, 36, 37, 38, 39, 40, 41, 42, 43, 44, 45, 46, 47, 48, 49, 50, 51, 52, 53, 54, 55, 56, 57, 58, 59, 60, 61, 62, 63, 64, 65, 66, 67, 68, 69, 70, 71, 72, 73, 74, 75, 76, 77, 78, 79, 80, 81, 82, 83, 84, 85, 86, 87, 88, 89, 90, 91, 92, 93, 94, 95, 96, 97, 98, 99] (by decide +kernel) (by decide +kernel)
set_option maxRecDepth 20000 in
theorem gX6_one_X6_layOne : GoodIn wsX6_one (wsV RX6 225 RX6 yX6_layOne wsX6_layOne) := goodIn_app (goodIn_of _ (by decide +kernel)) ggX6_one_X6_layOne
theorem dX6_one_0 : decode cX6_one 0 = .ok (.aload_n 0, 1) := by decide +kernel
theorem dX6_one_1 : decode cX6_one 1 = .ok (.invokevirtual 225, 3) := by decide +kernel
theorem dX6_one_4 : decode cX6_one 4 = .ok (.ireturn, 1) := by decide +kernel
set_option maxRecDepth 20000 in
theorem ggX6_oneAt_X6_layOne : GoodIn wsX6_oneAt wsX6_layOne := goodIn_r _ [6, 7, 8, 9, 1, 10, 11, 12, 5, 13, 14, 15, 16, 17, 18, 19, 20, 21, 22, 23, 24, 25, 26, 27, 28, 29, 30, 31, 32, 33, 34, 35, 36, 37, 38, 39, 40, 41, 42, 43, 44, 45, 46, 47, 48, 49, 50, 51, 52, 53, 54, 55, 56, 57, 58, 59, 60, 61, 62, 63, 64, 65, 66, 67, 68, 69, 70, 71, 72, 73, 74, 75, 76, 77, 78, 79, 80, 81, 82, 83, 84, 85, 86, 87, 88, 89, 90, 91, 92, 93, 94, 95, 96, 97, 98, 99] (by decide +kernel) (by decide +kernel)
set_option maxRecDepth 20000 in
theorem gX6_oneAt_X6_layOne : GoodIn wsX6_oneAt (wsV RX6 225 RX6 yX6_layOne wsX6_layOne) := goodIn_app (goodIn_of _ (by decide +kernel)) ggX6_oneAt_X6_layOne
set_option maxRecDepth 20000 in
theorem ggX6_oneAt_X6_in : GoodIn wsX6_oneAt wsX6_in := goodIn_r _ [52] (by decide +kernel) (by decide +kernel)
set_option maxRecDepth 20000 in
theorem gX6_oneAt_X6_in : GoodIn wsX6_oneAt (va_wsS RX6 71 yX6_in wsX6_in) := goodIn_app (goodIn_of _ (by decide +kernel)) ggX6_oneAt_X6_in
theorem dX6_oneAt_0 : decode cX6_oneAt 0 = .ok (.iload_n 1, 1) := by decide +kernel
theorem dX6_oneAt_1 : decode cX6_oneAt 1 = .ok (.i2l, 1) := by decide +kernel
theorem dX6_oneAt_2 : decode cX6_oneAt 2 = .ok (.lconst 0, 1) := by decide +kernel
theorem dX6_oneAt_3 : decode cX6_oneAt 3 = .ok (.aload_n 0, 1) := by decide +kernel
theorem dX6_oneAt_4 : decode cX6_oneAt 4 = .ok (.invokevirtual 225, 3) := by decide +kernel
theorem dX6_oneAt_7 : decode cX6_oneAt 7 = .ok (.iconst 1, 1) := by decide +kernel
theorem dX6_oneAt_8 : decode cX6_oneAt 8 = .ok (.isub, 1) := by decide +kernel
theorem dX6_oneAt_9 : decode cX6_oneAt 9 = .ok (.i2l, 1) := by decide +kernel
theorem dX6_oneAt_10 : decode cX6_oneAt 10 = .ok (.invokestatic 71, 3) := by decide +kernel
theorem dX6_oneAt_13 : decode cX6_oneAt 13 = .ok (.ifCond .eq 12, 3) := by decide +kernel
theorem dX6_oneAt_16 : decode cX6_oneAt 16 = .ok (.aload_n 0, 1) := by decide +kernel
theorem dX6_oneAt_17 : decode cX6_oneAt 17 = .ok (.getfield 50, 3) := by decide +kernel
theorem dX6_oneAt_20 : decode cX6_oneAt 20 = .ok (.iload_n 1, 1) := by decide +kernel
theorem dX6_oneAt_21 : decode cX6_oneAt 21 = .ok (.iaload, 1) := by decide +kernel
theorem dX6_oneAt_22 : decode cX6_oneAt 22 = .ok (.goto 5, 3) := by decide +kernel
theorem dX6_oneAt_25 : decode cX6_oneAt 25 = .ok (.bipush (-9), 2) := by decide +kernel
theorem dX6_oneAt_27 : decode cX6_oneAt 27 = .ok (.ireturn, 1) := by decide +kernel
set_option maxRecDepth 20000 in
theorem ggX6_same_X6_in : GoodIn wsX6_same wsX6_in := goodIn_r _ [8] (by decide +kernel) (by decide +kernel)
set_option maxRecDepth 20000 in
theorem gX6_same_X6_in : GoodIn wsX6_same (va_wsS RX6 71 yX6_in wsX6_in) := goodIn_app (goodIn_of _ (by decide +kernel)) ggX6_same_X6_in
set_option maxRecDepth 20000 in
theorem ggX6_same_X6_isInner : GoodIn wsX6_same wsX6_isInner := goodIn_r _ [11, 5, 6, 7, 8] (by decide +kernel) (by decide +kernel)
set_option maxRecDepth 20000 in
theorem gX6_same_X6_isInner : GoodIn wsX6_same (va_wsS RX6 96 yX6_isInner wsX6_isInner) := goodIn_app (goodIn_of _ (by decide +kernel)) ggX6_same_X6_isInner
theorem dX6_same_0 : decode cX6_same 0 = .ok (.iload_n 1, 1) := by decide +kernel
theorem dX6_same_1 : decode cX6_same 1 = .ok (.i2l, 1) := by decide +kernel
theorem dX6_same_2 : decode cX6_same 2 = .ok (.lconst 0, 1) := by decide +kernel
theorem dX6_same_3 : decode cX6_same 3 = .ok (.ldc2_w 228, 3) := by decide +kernel
theorem dX6_same_6 : decode cX6_same 6 = .ok (.invokestatic 71, 3) := by decide +kernel
theorem dX6_same_9 : decode cX6_same 9 = .ok (.ifCond .ne 6, 3) := by decide +kernel
theorem dX6_same_12 : decode cX6_same 12 = .ok (.bipush (-2), 2) := by decide +kernel
theorem dX6_same_14 : decode cX6_same 14 = .ok (.ireturn, 1) := by decide +kernel
theorem dX6_same_15 : decode cX6_same 15 = .ok (.iload_n 1, 1) := by decide +kernel
theorem dX6_same_16 : decode cX6_same 16 = .ok (.iconst 2, 1) := by decide +kernel
theorem dX6_same_17 : decode cX6_same 17 = .ok (.irem, 1) := by decide +kernel
theorem dX6_same_18 : decode cX6_same 18 = .ok (.iconst 1, 1) := by decide +kernel
theorem dX6_same_19 : decode cX6_same 19 = .ok (.if_icmp .ne 7, 3) := by decide +kernel
theorem dX6_same_22 : decode cX6_same 22 = .ok (.iconst 1, 1) := by decide +kernel
theorem dX6_same_23 : decode cX6_same 23 = .ok (.goto 4, 3) := by decide +kernel
theorem dX6_same_26 : decode cX6_same 26 = .ok (.iconst 0, 1) := by decide +kernel
theorem dX6_same_27 : decode cX6_same 27 = .ok (.istore_n 2, 1) := by decide +kernel
theorem dX6_same_28 : decode cX6_same 28 = .ok (.iload_n 2, 1) := by decide +kernel
theorem dX6_same_29 : decode cX6_same 29 = .ok (.ifCond .eq 14, 3) := by decide +kernel
theorem dX6_same_32 : decode cX6_same 32 = .ok (.aload_n 0, 1) := by decide +kernel
theorem dX6_same_33 : decode cX6_same 33 = .ok (.getfield 62, 3) := by decide +kernel
theorem dX6_same_36 : decode cX6_same 36 = .ok (.aload_n 0, 1) := by decide +kernel
theorem dX6_same_37 : decode cX6_same 37 = .ok (.getfield 66, 3) := by decide +kernel
theorem dX6_same_40 : decode cX6_same 40 = .ok (.if_icmp .ne 7, 3) := by decide +kernel
theorem dX6_same_43 : decode cX6_same 43 = .ok (.iconst 1, 1) := by decide +kernel
theorem dX6_same_44 : decode cX6_same 44 = .ok (.goto 4, 3) := by decide +kernel
theorem dX6_same_47 : decode cX6_same 47 = .ok (.iconst 0, 1) := by decide +kernel
theorem dX6_same_48 : decode cX6_same 48 = .ok (.istore_n 3, 1) := by decide +kernel
theorem dX6_same_49 : decode cX6_same 49 = .ok (.iconst 0, 1) := by decide +kernel
theorem dX6_same_50 : decode cX6_same 50 = .ok (.istore 4, 2) := by decide +kernel
theorem dX6_same_52 : decode cX6_same 52 = .ok (.iload 4, 2) := by decide +kernel
theorem dX6_same_54 : decode cX6_same 54 = .ok (.sipush 169, 3) := by decide +kernel
theorem dX6_same_57 : decode cX6_same 57 = .ok (.if_icmp .ge 188, 3) := by decide +kernel
theorem dX6_same_60 : decode cX6_same 60 = .ok (.iload_n 3, 1) := by decide +kernel
theorem dX6_same_61 : decode cX6_same 61 = .ok (.ifCond .eq 184, 3) := by decide +kernel
theorem dX6_same_64 : decode cX6_same 64 = .ok (.aload_n 0, 1) := by decide +kernel
theorem dX6_same_65 : decode cX6_same 65 = .ok (.getfield 62, 3) := by decide +kernel
theorem dX6_same_68 : decode cX6_same 68 = .ok (.aload_n 0, 1) := by decide +kernel
theorem dX6_same_69 : decode cX6_same 69 = .ok (.getfield 66, 3) := by decide +kernel
theorem dX6_same_72 : decode cX6_same 72 = .ok (.iload 4, 2) := by decide +kernel
theorem dX6_same_74 : decode cX6_same 74 = .ok (.bipush 13, 2) := by decide +kernel
theorem dX6_same_76 : decode cX6_same 76 = .ok (.idiv, 1) := by decide +kernel
theorem dX6_same_77 : decode cX6_same 77 = .ok (.iload 4, 2) := by decide +kernel
theorem dX6_same_79 : decode cX6_same 79 = .ok (.bipush 13, 2) := by decide +kernel
theorem dX6_same_81 : decode cX6_same 81 = .ok (.irem, 1) := by decide +kernel
theorem dX6_same_82 : decode cX6_same 82 = .ok (.invokestatic 96, 3) := by decide +kernel
theorem dX6_same_85 : decode cX6_same 85 = .ok (.ifCond .eq 154, 3) := by decide +kernel
theorem dX6_same_88 : decode cX6_same 88 = .ok (.iload 4, 2) := by decide +kernel
theorem dX6_same_90 : decode cX6_same 90 = .ok (.bipush 13, 2) := by decide +kernel
theorem dX6_same_92 : decode cX6_same 92 = .ok (.idiv, 1) := by decide +kernel
theorem dX6_same_93 : decode cX6_same 93 = .ok (.istore 5, 2) := by decide +kernel
theorem dX6_same_95 : decode cX6_same 95 = .ok (.iload_n 1, 1) := by decide +kernel
theorem dX6_same_96 : decode cX6_same 96 = .ok (.iconst 4, 1) := by decide +kernel
theorem dX6_same_97 : decode cX6_same 97 = .ok (.if_icmp .ge 11, 3) := by decide +kernel
theorem dX6_same_100 : decode cX6_same 100 = .ok (.iload 4, 2) := by decide +kernel
theorem dX6_same_102 : decode cX6_same 102 = .ok (.bipush 13, 2) := by decide +kernel
theorem dX6_same_104 : decode cX6_same 104 = .ok (.irem, 1) := by decide +kernel
theorem dX6_same_105 : decode cX6_same 105 = .ok (.goto 15, 3) := by decide +kernel
theorem dX6_same_108 : decode cX6_same 108 = .ok (.iconst 2, 1) := by decide +kernel
theorem dX6_same_109 : decode cX6_same 109 = .ok (.aload_n 0, 1) := by decide +kernel
theorem dX6_same_110 : decode cX6_same 110 = .ok (.getfield 66, 3) := by decide +kernel
theorem dX6_same_113 : decode cX6_same 113 = .ok (.imul, 1) := by decide +kernel
theorem dX6_same_114 : decode cX6_same 114 = .ok (.iload 4, 2) := by decide +kernel
theorem dX6_same_116 : decode cX6_same 116 = .ok (.bipush 13, 2) := by decide +kernel
theorem dX6_same_118 : decode cX6_same 118 = .ok (.irem, 1) := by decide +kernel
theorem dX6_same_119 : decode cX6_same 119 = .ok (.isub, 1) := by decide +kernel
theorem dX6_same_120 : decode cX6_same 120 = .ok (.istore 6, 2) := by decide +kernel
theorem dX6_same_122 : decode cX6_same 122 = .ok (.iconst 2, 1) := by decide +kernel
theorem dX6_same_123 : decode cX6_same 123 = .ok (.aload_n 0, 1) := by decide +kernel
theorem dX6_same_124 : decode cX6_same 124 = .ok (.getfield 62, 3) := by decide +kernel
theorem dX6_same_127 : decode cX6_same 127 = .ok (.imul, 1) := by decide +kernel
theorem dX6_same_128 : decode cX6_same 128 = .ok (.istore 7, 2) := by decide +kernel
theorem dX6_same_130 : decode cX6_same 130 = .ok (.iconst 2, 1) := by decide +kernel
theorem dX6_same_131 : decode cX6_same 131 = .ok (.aload_n 0, 1) := by decide +kernel
theorem dX6_same_132 : decode cX6_same 132 = .ok (.getfield 66, 3) := by decide +kernel
theorem dX6_same_135 : decode cX6_same 135 = .ok (.imul, 1) := by decide +kernel
theorem dX6_same_136 : decode cX6_same 136 = .ok (.istore 8, 2) := by decide +kernel
theorem dX6_same_138 : decode cX6_same 138 = .ok (.iconst 0, 1) := by decide +kernel
theorem dX6_same_139 : decode cX6_same 139 = .ok (.istore 9, 2) := by decide +kernel
theorem dX6_same_141 : decode cX6_same 141 = .ok (.iload 9, 2) := by decide +kernel
theorem dX6_same_143 : decode cX6_same 143 = .ok (.iload_n 1, 1) := by decide +kernel
theorem dX6_same_144 : decode cX6_same 144 = .ok (.iconst 4, 1) := by decide +kernel
theorem dX6_same_145 : decode cX6_same 145 = .ok (.irem, 1) := by decide +kernel
theorem dX6_same_146 : decode cX6_same 146 = .ok (.if_icmp .ge 36, 3) := by decide +kernel
theorem dX6_same_149 : decode cX6_same 149 = .ok (.iload 5, 2) := by decide +kernel
theorem dX6_same_151 : decode cX6_same 151 = .ok (.istore 10, 2) := by decide +kernel
theorem dX6_same_153 : decode cX6_same 153 = .ok (.iload 6, 2) := by decide +kernel
theorem dX6_same_155 : decode cX6_same 155 = .ok (.istore 5, 2) := by decide +kernel
theorem dX6_same_157 : decode cX6_same 157 = .ok (.iload 7, 2) := by decide +kernel
theorem dX6_same_159 : decode cX6_same 159 = .ok (.iload 10, 2) := by decide +kernel
theorem dX6_same_161 : decode cX6_same 161 = .ok (.isub, 1) := by decide +kernel
theorem dX6_same_162 : decode cX6_same 162 = .ok (.istore 6, 2) := by decide +kernel
theorem dX6_same_164 : decode cX6_same 164 = .ok (.iload 7, 2) := by decide +kernel
theorem dX6_same_166 : decode cX6_same 166 = .ok (.istore 11, 2) := by decide +kernel
theorem dX6_same_168 : decode cX6_same 168 = .ok (.iload 8, 2) := by decide +kernel
theorem dX6_same_170 : decode cX6_same 170 = .ok (.istore 7, 2) := by decide +kernel
theorem dX6_same_172 : decode cX6_same 172 = .ok (.iload 11, 2) := by decide +kernel
theorem dX6_same_174 : decode cX6_same 174 = .ok (.istore 8, 2) := by decide +kernel
theorem dX6_same_176 : decode cX6_same 176 = .ok (.iinc 9 1, 3) := by decide +kernel
theorem dX6_same_179 : decode cX6_same 179 = .ok (.goto (-38), 3) := by decide +kernel
theorem dX6_same_182 : decode cX6_same 182 = .ok (.aload_n 0, 1) := by decide +kernel
theorem dX6_same_183 : decode cX6_same 183 = .ok (.getfield 7, 3) := by decide +kernel
theorem dX6_same_186 : decode cX6_same 186 = .ok (.iload 4, 2) := by decide +kernel
theorem dX6_same_188 : decode cX6_same 188 = .ok (.iaload, 1) := by decide +kernel
theorem dX6_same_189 : decode cX6_same 189 = .ok (.iconst 3, 1) := by decide +kernel
theorem dX6_same_190 : decode cX6_same 190 = .ok (.irem, 1) := by decide +kernel
theorem dX6_same_191 : decode cX6_same 191 = .ok (.istore 9, 2) := by decide +kernel
theorem dX6_same_193 : decode cX6_same 193 = .ok (.iload_n 2, 1) := by decide +kernel
theorem dX6_same_194 : decode cX6_same 194 = .ok (.ifCond .eq 15, 3) := by decide +kernel
theorem dX6_same_197 : decode cX6_same 197 = .ok (.iload 9, 2) := by decide +kernel
theorem dX6_same_199 : decode cX6_same 199 = .ok (.ifCond .le 10, 3) := by decide +kernel
theorem dX6_same_202 : decode cX6_same 202 = .ok (.iconst 3, 1) := by decide +kernel
theorem dX6_same_203 : decode cX6_same 203 = .ok (.iload 9, 2) := by decide +kernel
theorem dX6_same_205 : decode cX6_same 205 = .ok (.isub, 1) := by decide +kernel
theorem dX6_same_206 : decode cX6_same 206 = .ok (.goto 5, 3) := by decide +kernel
theorem dX6_same_209 : decode cX6_same 209 = .ok (.iload 9, 2) := by decide +kernel
theorem dX6_same_211 : decode cX6_same 211 = .ok (.istore 10, 2) := by decide +kernel
theorem dX6_same_213 : decode cX6_same 213 = .ok (.aload_n 0, 1) := by decide +kernel
theorem dX6_same_214 : decode cX6_same 214 = .ok (.getfield 7, 3) := by decide +kernel
theorem dX6_same_217 : decode cX6_same 217 = .ok (.bipush 13, 2) := by decide +kernel
theorem dX6_same_219 : decode cX6_same 219 = .ok (.iload 5, 2) := by decide +kernel
theorem dX6_same_221 : decode cX6_same 221 = .ok (.imul, 1) := by decide +kernel
theorem dX6_same_222 : decode cX6_same 222 = .ok (.iload 6, 2) := by decide +kernel
theorem dX6_same_224 : decode cX6_same 224 = .ok (.iadd, 1) := by decide +kernel
theorem dX6_same_225 : decode cX6_same 225 = .ok (.iaload, 1) := by decide +kernel
theorem dX6_same_226 : decode cX6_same 226 = .ok (.iconst 3, 1) := by decide +kernel
theorem dX6_same_227 : decode cX6_same 227 = .ok (.irem, 1) := by decide +kernel
theorem dX6_same_228 : decode cX6_same 228 = .ok (.iload 10, 2) := by decide +kernel
theorem dX6_same_230 : decode cX6_same 230 = .ok (.if_icmp .ne 7, 3) := by decide +kernel
theorem dX6_same_233 : decode cX6_same 233 = .ok (.iconst 1, 1) := by decide +kernel
theorem dX6_same_234 : decode cX6_same 234 = .ok (.goto 4, 3) := by decide +kernel
theorem dX6_same_237 : decode cX6_same 237 = .ok (.iconst 0, 1) := by decide +kernel
theorem dX6_same_238 : decode cX6_same 238 = .ok (.istore_n 3, 1) := by decide +kernel
theorem dX6_same_239 : decode cX6_same 239 = .ok (.iinc 4 1, 3) := by decide +kernel
theorem dX6_same_242 : decode cX6_same 242 = .ok (.goto (-190), 3) := by decide +kernel
theorem dX6_same_245 : decode cX6_same 245 = .ok (.iload_n 3, 1) := by decide +kernel
theorem dX6_same_246 : decode cX6_same 246 = .ok (.ifCond .eq 7, 3) := by decide +kernel
theorem dX6_same_249 : decode cX6_same 249 = .ok (.iconst 1, 1) := by decide +kernel
theorem dX6_same_250 : decode cX6_same 250 = .ok (.goto 4, 3) := by decide +kernel
theorem dX6_same_253 : decode cX6_same 253 = .ok (.iconst 0, 1) := by decide +kernel
theorem dX6_same_254 : decode cX6_same 254 = .ok (.ireturn, 1) := by decide +kernel
set_option maxRecDepth 20000 in
theorem ggX6_keep_X6_in : GoodIn wsX6_keep wsX6_in := goodIn_r _ [10] (by decide +kernel) (by decide +kernel)
set_option maxRecDepth 20000 in
theorem gX6_keep_X6_in : GoodIn wsX6_keep (va_wsS RX6 71 yX6_in wsX6_in) := goodIn_app (goodIn_of _ (by decide +kernel)) ggX6_keep_X6_in
set_option maxRecDepth 20000 in
theorem ggX6_keep_X6_inner : GoodIn wsX6_keep wsX6_inner := goodIn_r _ [14, 5, 6, 15, 16, 9, 17, 7, 8, 10, 18, 19, 20, 21, 22, 23, 24, 25, 26, 27, 28, 29, 30, 31, 32, 33, 34, 35, 36, 37, 38, 39, 40, 41, 42, 43, 44, 45, 46] (by decide +kernel) (by decide +kernel)
set_option maxRecDepth 20000 in
theorem gX6_keep_X6_inner : GoodIn wsX6_keep (wsV RX6 115 RX6 yX6_inner wsX6_inner) := goodIn_app (goodIn_of _ (by decide +kernel)) ggX6_keep_X6_inner
theorem dX6_keep_0 : decode cX6_keep 0 = .ok (.iload_n 1, 1) := by decide +kernel
theorem dX6_keep_1 : decode cX6_keep 1 = .ok (.i2l, 1) := by decide +kernel
theorem dX6_keep_2 : decode cX6_keep 2 = .ok (.lconst 0, 1) := by decide +kernel
theorem dX6_keep_3 : decode cX6_keep 3 = .ok (.lconst 1, 1) := by decide +kernel
theorem dX6_keep_4 : decode cX6_keep 4 = .ok (.invokestatic 71, 3) := by decide +kernel
theorem dX6_keep_7 : decode cX6_keep 7 = .ok (.ifCond .ne 5, 3) := by decide +kernel
theorem dX6_keep_10 : decode cX6_keep 10 = .ok (.iconst (-1), 1) := by decide +kernel
theorem dX6_keep_11 : decode cX6_keep 11 = .ok (.ireturn, 1) := by decide +kernel
theorem dX6_keep_12 : decode cX6_keep 12 = .ok (.aload_n 0, 1) := by decide +kernel
theorem dX6_keep_13 : decode cX6_keep 13 = .ok (.getfield 53, 3) := by decide +kernel
theorem dX6_keep_16 : decode cX6_keep 16 = .ok (.iload_n 1, 1) := by decide +kernel
theorem dX6_keep_17 : decode cX6_keep 17 = .ok (.iconst 1, 1) := by decide +kernel
theorem dX6_keep_18 : decode cX6_keep 18 = .ok (.bastore, 1) := by decide +kernel
theorem dX6_keep_19 : decode cX6_keep 19 = .ok (.iconst 0, 1) := by decide +kernel
theorem dX6_keep_20 : decode cX6_keep 20 = .ok (.istore_n 2, 1) := by decide +kernel
theorem dX6_keep_21 : decode cX6_keep 21 = .ok (.iload_n 2, 1) := by decide +kernel
theorem dX6_keep_22 : decode cX6_keep 22 = .ok (.sipush 169, 3) := by decide +kernel
theorem dX6_keep_25 : decode cX6_keep 25 = .ok (.if_icmp .ge 27, 3) := by decide +kernel
theorem dX6_keep_28 : decode cX6_keep 28 = .ok (.aload_n 0, 1) := by decide +kernel
theorem dX6_keep_29 : decode cX6_keep 29 = .ok (.getfield 56, 3) := by decide +kernel
theorem dX6_keep_32 : decode cX6_keep 32 = .ok (.sipush 169, 3) := by decide +kernel
theorem dX6_keep_35 : decode cX6_keep 35 = .ok (.iload_n 1, 1) := by decide +kernel
theorem dX6_keep_36 : decode cX6_keep 36 = .ok (.imul, 1) := by decide +kernel
theorem dX6_keep_37 : decode cX6_keep 37 = .ok (.iload_n 2, 1) := by decide +kernel
theorem dX6_keep_38 : decode cX6_keep 38 = .ok (.iadd, 1) := by decide +kernel
theorem dX6_keep_39 : decode cX6_keep 39 = .ok (.aload_n 0, 1) := by decide +kernel
theorem dX6_keep_40 : decode cX6_keep 40 = .ok (.getfield 7, 3) := by decide +kernel
theorem dX6_keep_43 : decode cX6_keep 43 = .ok (.iload_n 2, 1) := by decide +kernel
theorem dX6_keep_44 : decode cX6_keep 44 = .ok (.iaload, 1) := by decide +kernel
theorem dX6_keep_45 : decode cX6_keep 45 = .ok (.iastore, 1) := by decide +kernel
theorem dX6_keep_46 : decode cX6_keep 46 = .ok (.iinc 2 1, 3) := by decide +kernel
theorem dX6_keep_49 : decode cX6_keep 49 = .ok (.goto (-28), 3) := by decide +kernel
theorem dX6_keep_52 : decode cX6_keep 52 = .ok (.aload_n 0, 1) := by decide +kernel
theorem dX6_keep_53 : decode cX6_keep 53 = .ok (.getfield 59, 3) := by decide +kernel
theorem dX6_keep_56 : decode cX6_keep 56 = .ok (.iconst 2, 1) := by decide +kernel
theorem dX6_keep_57 : decode cX6_keep 57 = .ok (.iload_n 1, 1) := by decide +kernel
theorem dX6_keep_58 : decode cX6_keep 58 = .ok (.imul, 1) := by decide +kernel
theorem dX6_keep_59 : decode cX6_keep 59 = .ok (.aload_n 0, 1) := by decide +kernel
theorem dX6_keep_60 : decode cX6_keep 60 = .ok (.getfield 62, 3) := by decide +kernel
theorem dX6_keep_63 : decode cX6_keep 63 = .ok (.iastore, 1) := by decide +kernel
theorem dX6_keep_64 : decode cX6_keep 64 = .ok (.aload_n 0, 1) := by decide +kernel
theorem dX6_keep_65 : decode cX6_keep 65 = .ok (.getfield 59, 3) := by decide +kernel
theorem dX6_keep_68 : decode cX6_keep 68 = .ok (.iconst 2, 1) := by decide +kernel
theorem dX6_keep_69 : decode cX6_keep 69 = .ok (.iload_n 1, 1) := by decide +kernel
theorem dX6_keep_70 : decode cX6_keep 70 = .ok (.imul, 1) := by decide +kernel
theorem dX6_keep_71 : decode cX6_keep 71 = .ok (.iconst 1, 1) := by decide +kernel
theorem dX6_keep_72 : decode cX6_keep 72 = .ok (.iadd, 1) := by decide +kernel
theorem dX6_keep_73 : decode cX6_keep 73 = .ok (.aload_n 0, 1) := by decide +kernel
theorem dX6_keep_74 : decode cX6_keep 74 = .ok (.getfield 66, 3) := by decide +kernel
theorem dX6_keep_77 : decode cX6_keep 77 = .ok (.iastore, 1) := by decide +kernel
theorem dX6_keep_78 : decode cX6_keep 78 = .ok (.aload_n 0, 1) := by decide +kernel
theorem dX6_keep_79 : decode cX6_keep 79 = .ok (.invokevirtual 115, 3) := by decide +kernel
theorem dX6_keep_82 : decode cX6_keep 82 = .ok (.ireturn, 1) := by decide +kernel
set_option maxRecDepth 20000 in
theorem ggX6_again_X6_in : GoodIn wsX6_again wsX6_in := goodIn_r _ [10] (by decide +kernel) (by decide +kernel)
set_option maxRecDepth 20000 in
theorem gX6_again_X6_in : GoodIn wsX6_again (va_wsS RX6 71 yX6_in wsX6_in) := goodIn_app (goodIn_of _ (by decide +kernel)) ggX6_again_X6_in
set_option maxRecDepth 20000 in
theorem ggX6_again_X6_inner : GoodIn wsX6_again wsX6_inner := goodIn_r _ [14, 5, 6, 15, 16, 9, 17, 7, 8, 10, 18, 19, 20, 21, 22, 23, 24, 25, 26, 27, 28, 29, 30, 31, 32, 33, 34, 35, 36, 37, 38, 39, 40, 41, 42, 43, 44, 45, 46] (by decide +kernel) (by decide +kernel)
set_option maxRecDepth 20000 in
theorem gX6_again_X6_inner : GoodIn wsX6_again (wsV RX6 115 RX6 yX6_inner wsX6_inner) := goodIn_app (goodIn_of _ (by decide +kernel)) ggX6_again_X6_inner
theorem dX6_again_0 : decode cX6_again 0 = .ok (.iload_n 1, 1) := by decide +kernel
theorem dX6_again_1 : decode cX6_again 1 = .ok (.i2l, 1) := by decide +kernel
theorem dX6_again_2 : decode cX6_again 2 = .ok (.lconst 0, 1) := by decide +kernel
theorem dX6_again_3 : decode cX6_again 3 = .ok (.lconst 1, 1) := by decide +kernel
theorem dX6_again_4 : decode cX6_again 4 = .ok (.invokestatic 71, 3) := by decide +kernel
theorem dX6_again_7 : decode cX6_again 7 = .ok (.ifCond .ne 5, 3) := by decide +kernel
theorem dX6_again_10 : decode cX6_again 10 = .ok (.iconst (-1), 1) := by decide +kernel
theorem dX6_again_11 : decode cX6_again 11 = .ok (.ireturn, 1) := by decide +kernel
theorem dX6_again_12 : decode cX6_again 12 = .ok (.aload_n 0, 1) := by decide +kernel
theorem dX6_again_13 : decode cX6_again 13 = .ok (.getfield 53, 3) := by decide +kernel
theorem dX6_again_16 : decode cX6_again 16 = .ok (.iload_n 1, 1) := by decide +kernel
theorem dX6_again_17 : decode cX6_again 17 = .ok (.baload, 1) := by decide +kernel
theorem dX6_again_18 : decode cX6_again 18 = .ok (.ifCond .ne 6, 3) := by decide +kernel
theorem dX6_again_21 : decode cX6_again 21 = .ok (.bipush (-3), 2) := by decide +kernel
theorem dX6_again_23 : decode cX6_again 23 = .ok (.ireturn, 1) := by decide +kernel
theorem dX6_again_24 : decode cX6_again 24 = .ok (.iconst 0, 1) := by decide +kernel
theorem dX6_again_25 : decode cX6_again 25 = .ok (.istore_n 2, 1) := by decide +kernel
theorem dX6_again_26 : decode cX6_again 26 = .ok (.iload_n 2, 1) := by decide +kernel
theorem dX6_again_27 : decode cX6_again 27 = .ok (.sipush 169, 3) := by decide +kernel
theorem dX6_again_30 : decode cX6_again 30 = .ok (.if_icmp .ge 27, 3) := by decide +kernel
theorem dX6_again_33 : decode cX6_again 33 = .ok (.aload_n 0, 1) := by decide +kernel
theorem dX6_again_34 : decode cX6_again 34 = .ok (.getfield 7, 3) := by decide +kernel
theorem dX6_again_37 : decode cX6_again 37 = .ok (.iload_n 2, 1) := by decide +kernel
theorem dX6_again_38 : decode cX6_again 38 = .ok (.aload_n 0, 1) := by decide +kernel
theorem dX6_again_39 : decode cX6_again 39 = .ok (.getfield 56, 3) := by decide +kernel
theorem dX6_again_42 : decode cX6_again 42 = .ok (.sipush 169, 3) := by decide +kernel
theorem dX6_again_45 : decode cX6_again 45 = .ok (.iload_n 1, 1) := by decide +kernel
theorem dX6_again_46 : decode cX6_again 46 = .ok (.imul, 1) := by decide +kernel
theorem dX6_again_47 : decode cX6_again 47 = .ok (.iload_n 2, 1) := by decide +kernel
theorem dX6_again_48 : decode cX6_again 48 = .ok (.iadd, 1) := by decide +kernel
theorem dX6_again_49 : decode cX6_again 49 = .ok (.iaload, 1) := by decide +kernel
theorem dX6_again_50 : decode cX6_again 50 = .ok (.iastore, 1) := by decide +kernel
theorem dX6_again_51 : decode cX6_again 51 = .ok (.iinc 2 1, 3) := by decide +kernel
theorem dX6_again_54 : decode cX6_again 54 = .ok (.goto (-28), 3) := by decide +kernel
theorem dX6_again_57 : decode cX6_again 57 = .ok (.aload_n 0, 1) := by decide +kernel
theorem dX6_again_58 : decode cX6_again 58 = .ok (.aload_n 0, 1) := by decide +kernel
theorem dX6_again_59 : decode cX6_again 59 = .ok (.getfield 59, 3) := by decide +kernel
theorem dX6_again_62 : decode cX6_again 62 = .ok (.iconst 2, 1) := by decide +kernel
theorem dX6_again_63 : decode cX6_again 63 = .ok (.iload_n 1, 1) := by decide +kernel
theorem dX6_again_64 : decode cX6_again 64 = .ok (.imul, 1) := by decide +kernel
theorem dX6_again_65 : decode cX6_again 65 = .ok (.iaload, 1) := by decide +kernel
theorem dX6_again_66 : decode cX6_again 66 = .ok (.putfield 62, 3) := by decide +kernel
theorem dX6_again_69 : decode cX6_again 69 = .ok (.aload_n 0, 1) := by decide +kernel
theorem dX6_again_70 : decode cX6_again 70 = .ok (.aload_n 0, 1) := by decide +kernel
theorem dX6_again_71 : decode cX6_again 71 = .ok (.getfield 59, 3) := by decide +kernel
theorem dX6_again_74 : decode cX6_again 74 = .ok (.iconst 2, 1) := by decide +kernel
theorem dX6_again_75 : decode cX6_again 75 = .ok (.iload_n 1, 1) := by decide +kernel
theorem dX6_again_76 : decode cX6_again 76 = .ok (.imul, 1) := by decide +kernel
theorem dX6_again_77 : decode cX6_again 77 = .ok (.iconst 1, 1) := by decide +kernel
theorem dX6_again_78 : decode cX6_again 78 = .ok (.iadd, 1) := by decide +kernel
theorem dX6_again_79 : decode cX6_again 79 = .ok (.iaload, 1) := by decide +kernel
theorem dX6_again_80 : decode cX6_again 80 = .ok (.putfield 66, 3) := by decide +kernel
theorem dX6_again_83 : decode cX6_again 83 = .ok (.aload_n 0, 1) := by decide +kernel
theorem dX6_again_84 : decode cX6_again 84 = .ok (.invokevirtual 115, 3) := by decide +kernel
theorem dX6_again_87 : decode cX6_again 87 = .ok (.ireturn, 1) := by decide +kernel
theorem dJ9_max_7cf53_0 : decode cJ9_max_7cf53 0 = .ok (.iload_n 0, 1) := by decide +kernel
theorem dJ9_max_7cf53_1 : decode cJ9_max_7cf53 1 = .ok (.iload_n 1, 1) := by decide +kernel
theorem dJ9_max_7cf53_2 : decode cJ9_max_7cf53 2 = .ok (.if_icmp .lt 7, 3) := by decide +kernel
theorem dJ9_max_7cf53_5 : decode cJ9_max_7cf53 5 = .ok (.iload_n 0, 1) := by decide +kernel
theorem dJ9_max_7cf53_6 : decode cJ9_max_7cf53 6 = .ok (.goto 4, 3) := by decide +kernel
theorem dJ9_max_7cf53_9 : decode cJ9_max_7cf53 9 = .ok (.iload_n 1, 1) := by decide +kernel
theorem dJ9_max_7cf53_10 : decode cJ9_max_7cf53 10 = .ok (.ireturn, 1) := by decide +kernel
theorem dJ9_min_7cf53_0 : decode cJ9_min_7cf53 0 = .ok (.iload_n 0, 1) := by decide +kernel
theorem dJ9_min_7cf53_1 : decode cJ9_min_7cf53 1 = .ok (.iload_n 1, 1) := by decide +kernel
theorem dJ9_min_7cf53_2 : decode cJ9_min_7cf53 2 = .ok (.if_icmp .gt 7, 3) := by decide +kernel
theorem dJ9_min_7cf53_5 : decode cJ9_min_7cf53 5 = .ok (.iload_n 0, 1) := by decide +kernel
theorem dJ9_min_7cf53_6 : decode cJ9_min_7cf53 6 = .ok (.goto 4, 3) := by decide +kernel
theorem dJ9_min_7cf53_9 : decode cJ9_min_7cf53 9 = .ok (.iload_n 1, 1) := by decide +kernel
theorem dJ9_min_7cf53_10 : decode cJ9_min_7cf53 10 = .ok (.ireturn, 1) := by decide +kernel
theorem dJ7_fill_53178_0 : decode cJ7_fill_53178 0 = .ok (.iconst 0, 1) := by decide +kernel
theorem dJ7_fill_53178_1 : decode cJ7_fill_53178 1 = .ok (.istore_n 2, 1) := by decide +kernel
theorem dJ7_fill_53178_2 : decode cJ7_fill_53178 2 = .ok (.aload_n 0, 1) := by decide +kernel
theorem dJ7_fill_53178_3 : decode cJ7_fill_53178 3 = .ok (.arraylength, 1) := by decide +kernel
theorem dJ7_fill_53178_4 : decode cJ7_fill_53178 4 = .ok (.istore_n 3, 1) := by decide +kernel
theorem dJ7_fill_53178_5 : decode cJ7_fill_53178 5 = .ok (.iload_n 2, 1) := by decide +kernel
theorem dJ7_fill_53178_6 : decode cJ7_fill_53178 6 = .ok (.iload_n 3, 1) := by decide +kernel
theorem dJ7_fill_53178_7 : decode cJ7_fill_53178 7 = .ok (.if_icmp .ge 13, 3) := by decide +kernel
theorem dJ7_fill_53178_10 : decode cJ7_fill_53178 10 = .ok (.aload_n 0, 1) := by decide +kernel
theorem dJ7_fill_53178_11 : decode cJ7_fill_53178 11 = .ok (.iload_n 2, 1) := by decide +kernel
theorem dJ7_fill_53178_12 : decode cJ7_fill_53178 12 = .ok (.iload_n 1, 1) := by decide +kernel
theorem dJ7_fill_53178_13 : decode cJ7_fill_53178 13 = .ok (.iastore, 1) := by decide +kernel
theorem dJ7_fill_53178_14 : decode cJ7_fill_53178 14 = .ok (.iinc 2 1, 3) := by decide +kernel
theorem dJ7_fill_53178_17 : decode cJ7_fill_53178 17 = .ok (.goto (-12), 3) := by decide +kernel
theorem dJ7_fill_53178_20 : decode cJ7_fill_53178 20 = .ok (.return_, 1) := by decide +kernel
set_option maxRecDepth 20000 in
theorem ggL_law_X5_init : GoodIn wsL_law wsX5_init := goodIn_r _ [9, 10, 11, 12, 13, 14, 15, 16, 17, 18, 19, 20, 21, 22, 23, 24, 25, 26, 27, 28, 29, 30, 31, 32, 33, 34, 35, 36, 37, 38, 39, 40, 41, 42, 43, 44, 45, 46, 47, 48, 49, 50, 51, 52, 53, 54, 55, 56, 57, 58, 59, 60, 61, 62, 63, 64, 65, 66, 67, 68, 69, 70, 71, 72, 73, 74, 75, 76, 77, 78, 2, 79, 80, 81, 82, 83, 84, 85, 86, 87, 88, 89, 90, 91, 92, 93, 94, 95, 96, 97, 98, 99, 100, 101, 102, 103, 104, 105, 106, 107, 108, 109, 110, 111, 112, 113, 114, 115, 116, 117, 118, 119, 120, 121, 122, 123, 124, 125, 126, 127, 128, 129, 130, 131, 132, 133, 134, 135, 136, 137, 138, 139, 140, 141, 142, 143, 144, 145, 146, 147, 148, 149, 150, 151, 152, 153, 154, 155, 156, 157, 158, 159, 160, 161, 162, 163, 164, 165, 166, 167, 168, 169, 170, 171, 172, 173, 174, 762, 763, 764, 765, 766, 724, 725, 726, 727, 728, 729, 730, 731, 732, 767, 768, 769, 770, 771, 772, 773, 774, 775, 776, 777, 778, 779, 780, 781, 782, 783, 784, 785, 786, 787, 788, 789, 790, 791, 792] (by decide +kernel) (by decide +kernel)
set_option maxRecDepth 20000 in
theorem gL_law_X5_init : GoodIn wsL_law (wsX5_init) := ggL_law_X5_init
set_option maxRecDepth 20000 in
theorem ggL_law_X6_init : GoodIn wsL_law wsX6_init := goodIn_r _ [177, 178, 11, 12, 40, 179, 180, 181, 182, 183, 184, 185, 186, 187, 188, 189, 190, 191, 192, 193, 194, 195, 196, 197, 198, 733, 734, 735, 736, 737, 738, 739, 740, 741, 742, 743, 744, 745, 746, 747, 748, 749, 750, 751, 752, 753, 754, 755, 756, 757, 758, 759, 760, 761] (by decide +kernel) (by decide +kernel)
set_option maxRecDepth 20000 in
theorem gL_law_X6_init : GoodIn wsL_law (wsX6_init) := ggL_law_X6_init
set_option maxRecDepth 20000 in
theorem ggL_law_X5_write : GoodIn wsL_law wsX5_write := goodIn_r _ [202, 16, 203, 15, 204, 205, 206, 207, 208, 209, 41, 724, 725, 726, 727, 728, 729, 730, 731, 732, 762, 763, 764, 765, 766] (by decide +kernel) (by decide +kernel)
set_option maxRecDepth 20000 in
theorem gL_law_X5_write : GoodIn wsL_law (wsV RL 15 RX5 yX5_write wsX5_write) := goodIn_app (goodIn_of _ (by decide +kernel)) ggL_law_X5_write
set_option maxRecDepth 20000 in
theorem ggL_law_X6_write : GoodIn wsL_law wsX6_write := goodIn_r _ [213, 214, 215, 183, 216, 217, 218, 5, 219, 733, 734, 735, 736, 737, 738, 739, 740, 741, 742, 743, 744, 745, 746, 747, 748, 749, 750, 751, 752, 753, 754, 755, 756, 757, 758, 759, 760, 761] (by decide +kernel) (by decide +kernel)
set_option maxRecDepth 20000 in
theorem gL_law_X6_write : GoodIn wsL_law (wsV RL 19 RX6 yX6_write wsX6_write) := goodIn_app (goodIn_of _ (by decide +kernel)) ggL_law_X6_write
set_option maxRecDepth 20000 in
theorem ggL_law_X5_wipe : GoodIn wsL_law wsX5_wipe := goodIn_r _ [223, 16, 724, 725, 726, 727, 728, 729, 730, 731, 732, 762, 763, 764, 765, 766] (by decide +kernel) (by decide +kernel)
set_option maxRecDepth 20000 in
theorem gL_law_X5_wipe : GoodIn wsL_law (wsV RL 20 RX5 yX5_wipe wsX5_wipe) := goodIn_app (goodIn_of _ (by decide +kernel)) ggL_law_X5_wipe
set_option maxRecDepth 20000 in
theorem ggL_law_X6_wipe : GoodIn wsL_law wsX6_wipe := goodIn_r _ [227, 215, 733, 734, 735, 736, 737, 738, 739, 740, 741, 742, 743, 744, 745, 746, 747, 748, 749, 750, 751, 752, 753, 754, 755, 756, 757, 758, 759, 760, 761] (by decide +kernel) (by decide +kernel)
set_option maxRecDepth 20000 in
theorem gL_law_X6_wipe : GoodIn wsL_law (wsV RL 24 RX6 yX6_wipe wsX6_wipe) := goodIn_app (goodIn_of _ (by decide +kernel)) ggL_law_X6_wipe
set_option maxRecDepth 20000 in
theorem ggL_law_X5_fault : GoodIn wsL_law wsX5_fault := goodIn_r _ [231, 16, 33, 232, 15, 233, 234, 206, 41, 235, 236, 237, 238, 239, 240, 241, 242, 78, 2, 79, 72, 19, 73, 74, 75, 76, 77, 46, 47, 45, 80, 81, 82, 83, 243, 244, 245, 246, 247, 248, 249, 250, 251, 252, 253, 254, 112, 113, 114, 115, 116, 117, 255, 256, 257, 108, 109, 110, 111, 258, 259, 260, 153, 154, 724, 725, 726, 727, 728, 729, 730, 731, 732, 762, 763, 764, 765, 766, 767, 768, 769, 770, 771, 772] (by decide +kernel) (by decide +kernel)
set_option maxRecDepth 20000 in
theorem gL_law_X5_fault : GoodIn wsL_law (wsV RL 25 RX5 yX5_fault wsX5_fault) := goodIn_app (goodIn_of _ (by decide +kernel)) ggL_law_X5_fault
set_option maxRecDepth 20000 in
theorem ggL_law_X6_fault : GoodIn wsL_law wsX6_fault := goodIn_r _ [264, 265, 266, 267, 5, 268, 180, 182, 269, 270, 215, 183, 271, 272, 273, 274, 275, 276, 277, 278, 217, 218, 219, 279, 280, 281, 282, 283, 284, 285, 286, 287, 288, 289, 733, 734, 735, 736, 737, 738, 739, 740, 741, 742, 743, 744, 745, 746, 747, 748, 749, 750, 751, 752, 753, 754, 755, 756, 757, 758, 759, 760, 761] (by decide +kernel) (by decide +kernel)
set_option maxRecDepth 20000 in
theorem gL_law_X6_fault : GoodIn wsL_law (wsV RL 28 RX6 yX6_fault wsX6_fault) := goodIn_app (goodIn_of _ (by decide +kernel)) ggL_law_X6_fault
set_option maxRecDepth 20000 in
theorem ggL_law_X5_plait : GoodIn wsL_law wsX5_plait := goodIn_r _ [293, 16, 33, 20, 232, 15, 233, 234, 206, 41, 235, 236, 237, 238, 239, 240, 241, 242, 78, 2, 79, 72, 19, 73, 74, 75, 76, 77, 46, 47, 45, 80, 81, 82, 83, 243, 244, 245, 246, 247, 248, 249, 250, 251, 252, 253, 254, 112, 113, 114, 115, 116, 117, 255, 256, 257, 108, 109, 110, 111, 258, 259, 260, 153, 154, 294, 295, 296, 297, 298, 299, 300, 84, 85, 86, 87, 24, 28, 88, 23, 89, 90, 91, 92, 51, 52, 93, 94, 95, 96, 97, 98, 99, 100, 101, 102, 103, 104, 53, 54, 55, 56, 57, 105, 106, 107, 118, 27, 119, 120, 63, 64, 61, 121, 122, 123, 124, 125, 126, 127, 128, 129, 130, 131, 132, 133, 134, 135, 136, 137, 138, 139, 140, 141, 142, 143, 144, 145, 62, 146, 147, 148, 149, 150, 151, 152, 155, 156, 157, 158, 159, 160, 161, 162, 163, 66, 65, 164, 165, 166, 167, 168, 169, 170, 171, 172, 173, 174, 724, 725, 726, 727, 728, 729, 730, 731, 732, 767, 768, 769, 770, 771, 772, 762, 763, 764, 765, 766, 773, 774, 775, 776, 777, 778, 779, 780, 781, 782, 783, 784, 785, 786, 787, 788, 789] (by decide +kernel) (by decide +kernel)
set_option maxRecDepth 20000 in
theorem gL_law_X5_plait : GoodIn wsL_law (wsV RL 29 RX5 yX5_plait wsX5_plait) := goodIn_app (goodIn_of _ (by decide +kernel)) ggL_law_X5_plait
set_option maxRecDepth 20000 in
theorem ggL_law_X6_plait : GoodIn wsL_law wsX6_plait := goodIn_r _ [304, 179, 180, 271, 197, 272, 198, 265, 266, 267, 5, 268, 182, 269, 270, 215, 183, 273, 274, 275, 276, 277, 278, 217, 218, 219, 279, 280, 281, 282, 283, 284, 285, 286, 287, 288, 289, 305, 306, 307, 308, 733, 734, 735, 736, 737, 738, 739, 740, 741, 742, 743, 744, 745, 746, 747, 748, 749, 750, 751, 752, 753, 754, 755, 756, 757, 758, 759, 760, 761] (by decide +kernel) (by decide +kernel)
set_option maxRecDepth 20000 in
theorem gL_law_X6_plait : GoodIn wsL_law (wsV RL 32 RX6 yX6_plait wsX6_plait) := goodIn_app (goodIn_of _ (by decide +kernel)) ggL_law_X6_plait
set_option maxRecDepth 20000 in
theorem ggL_law_X5_make : GoodIn wsL_law wsX5_make := goodIn_r _ [312, 20, 313, 78, 2, 79, 72, 19, 73, 74, 75, 76, 77, 46, 47, 45, 80, 81, 82, 83, 314, 315, 316, 317, 318, 319, 84, 85, 86, 87, 24, 28, 88, 23, 89, 90, 91, 92, 51, 52, 93, 94, 95, 96, 97, 98, 99, 100, 101, 102, 103, 104, 53, 54, 55, 56, 57, 105, 106, 107, 108, 109, 110, 111, 112, 113, 114, 115, 116, 117, 118, 27, 119, 120, 63, 64, 61, 121, 122, 123, 124, 125, 126, 127, 128, 129, 130, 131, 132, 133, 134, 135, 136, 137, 138, 139, 140, 141, 142, 143, 144, 145, 62, 146, 147, 148, 149, 150, 151, 152, 153, 154, 155, 156, 157, 158, 159, 160, 161, 162, 163, 66, 65, 164, 165, 166, 167, 168, 169, 170, 171, 172, 173, 174, 724, 725, 726, 727, 728, 729, 730, 731, 732, 767, 768, 769, 770, 771, 772, 773, 774, 775, 776, 777, 778, 779, 780, 781, 782, 783, 784, 785, 786, 787, 788, 789] (by decide +kernel) (by decide +kernel)
set_option maxRecDepth 20000 in
theorem gL_law_X5_make : GoodIn wsL_law (wsV RL 33 RX5 yX5_make wsX5_make) := goodIn_app (goodIn_of _ (by decide +kernel)) ggL_law_X5_make
set_option maxRecDepth 20000 in
theorem ggL_law_X6_make : GoodIn wsL_law wsX6_make := goodIn_r _ [323, 324, 325, 197, 198, 179, 326, 327, 217, 218, 5, 219, 287, 288, 289, 305, 306, 307, 308, 733, 734, 735, 736, 737, 738, 739, 740, 741, 742, 743, 744, 745, 746, 747, 748, 749, 750, 751, 752, 753, 754, 755, 756, 757, 758, 759, 760, 761] (by decide +kernel) (by decide +kernel)
set_option maxRecDepth 20000 in
theorem gL_law_X6_make : GoodIn wsL_law (wsV RL 37 RX6 yX6_make wsX6_make) := goodIn_app (goodIn_of _ (by decide +kernel)) ggL_law_X6_make
set_option maxRecDepth 20000 in
theorem ggL_law_X5_point : GoodIn wsL_law wsX5_point := goodIn_r _ [331, 20, 130, 19, 131, 132, 108, 109, 110, 111, 47, 113, 114, 115, 46, 116, 2, 117, 724, 725, 726, 727, 728, 729, 730, 731, 732, 767, 768, 769, 770, 771, 772] (by decide +kernel) (by decide +kernel)
set_option maxRecDepth 20000 in
theorem gL_law_X5_point : GoodIn wsL_law (wsV RL 38 RX5 yX5_point wsX5_point) := goodIn_app (goodIn_of _ (by decide +kernel)) ggL_law_X5_point
set_option maxRecDepth 20000 in
theorem ggL_law_X6_point : GoodIn wsL_law wsX6_point := goodIn_r _ [335, 179, 336, 337, 338, 5, 339, 197, 198, 287, 288, 289, 217, 218, 219, 733, 734, 735, 736, 737, 738, 739, 740, 741, 742, 743, 744, 745, 746, 747, 748, 749, 750, 751, 752, 753, 754, 755, 756, 757, 758, 759, 760, 761] (by decide +kernel) (by decide +kernel)
set_option maxRecDepth 20000 in
theorem gL_law_X6_point : GoodIn wsL_law (wsV RL 42 RX6 yX6_point wsX6_point) := goodIn_app (goodIn_of _ (by decide +kernel)) ggL_law_X6_point
set_option maxRecDepth 20000 in
theorem ggL_law_X5_set : GoodIn wsL_law wsX5_set := goodIn_r _ [343, 20, 130, 19, 131, 132, 108, 109, 110, 111, 47, 113, 114, 115, 46, 116, 2, 117, 258, 259, 260, 153, 154, 84, 85, 86, 87, 24, 28, 88, 23, 89, 90, 91, 92, 51, 52, 93, 81, 82, 83, 94, 95, 96, 97, 98, 99, 100, 75, 76, 101, 102, 103, 104, 53, 54, 55, 56, 57, 105, 106, 107, 112, 118, 27, 119, 120, 63, 64, 61, 121, 122, 123, 124, 125, 126, 127, 128, 129, 133, 134, 135, 136, 137, 138, 139, 140, 141, 142, 143, 144, 145, 62, 146, 147, 148, 149, 150, 151, 152, 155, 156, 157, 158, 159, 160, 161, 162, 163, 66, 65, 164, 165, 166, 167, 168, 169, 170, 171, 172, 173, 174, 724, 725, 726, 727, 728, 729, 730, 731, 732, 767, 768, 769, 770, 771, 772, 773, 774, 775, 776, 777, 778, 779, 780, 781, 782, 783, 784, 785, 786, 787, 788, 789] (by decide +kernel) (by decide +kernel)
set_option maxRecDepth 20000 in
theorem gL_law_X5_set : GoodIn wsL_law (wsV RL 43 RX5 yX5_set wsX5_set) := goodIn_app (goodIn_of _ (by decide +kernel)) ggL_law_X5_set
set_option maxRecDepth 20000 in
theorem ggL_law_X6_set : GoodIn wsL_law wsX6_set := goodIn_r _ [347, 348, 179, 336, 337, 338, 5, 339, 197, 198, 287, 288, 289, 217, 218, 219, 733, 734, 735, 736, 737, 738, 739, 740, 741, 742, 743, 744, 745, 746, 747, 748, 749, 750, 751, 752, 753, 754, 755, 756, 757, 758, 759, 760, 761] (by decide +kernel) (by decide +kernel)
set_option maxRecDepth 20000 in
theorem gL_law_X6_set : GoodIn wsL_law (wsV RL 47 RX6 yX6_set wsX6_set) := goodIn_app (goodIn_of _ (by decide +kernel)) ggL_law_X6_set
set_option maxRecDepth 20000 in
theorem ggL_law_X5_about : GoodIn wsL_law wsX5_about := goodIn_r _ [352, 20, 24, 28, 16, 353, 19, 354, 355, 356, 252, 253, 254, 77, 112, 113, 114, 115, 46, 116, 2, 117, 357, 358, 359, 360, 724, 725, 726, 727, 728, 729, 730, 731, 732, 767, 768, 769, 770, 771, 772, 773, 774, 775, 776, 777, 778, 779, 780, 781, 782, 783, 784, 785, 786, 787, 788, 789, 762, 763, 764, 765, 766] (by decide +kernel) (by decide +kernel)
set_option maxRecDepth 20000 in
theorem gL_law_X5_about : GoodIn wsL_law (wsV RL 48 RX5 yX5_about wsX5_about) := goodIn_app (goodIn_of _ (by decide +kernel)) ggL_law_X5_about
set_option maxRecDepth 20000 in
theorem ggL_law_X6_about : GoodIn wsL_law wsX6_about := goodIn_r _ [364, 197, 198, 179, 365, 366, 215, 287, 288, 5, 289, 217, 218, 219, 367, 368, 369, 370, 371, 372, 373, 374, 187, 186, 185, 189, 190, 191, 375, 376, 377, 378, 184, 379, 380, 381, 382, 383, 384, 385, 386, 387, 388, 389, 390, 391, 392, 393, 394, 395, 396, 397, 398, 399, 400, 401, 402, 403, 404, 405, 406, 407, 408, 409, 305, 306, 307, 308, 410, 411, 412, 413, 188, 414, 415, 416, 417, 418, 419, 420, 421, 422, 423, 424, 733, 734, 735, 736, 737, 738, 739, 740, 741, 742, 743, 744, 745, 746, 747, 748, 749, 750, 751, 752, 753, 754, 755, 756, 757, 758, 759, 760, 761] (by decide +kernel) (by decide +kernel)
set_option maxRecDepth 20000 in
theorem gL_law_X6_about : GoodIn wsL_law (wsV RL 51 RX6 yX6_about wsX6_about) := goodIn_app (goodIn_of _ (by decide +kernel)) ggL_law_X6_about
set_option maxRecDepth 20000 in
theorem ggL_law_X5_loop : GoodIn wsL_law wsX5_loop := goodIn_r _ [428, 24, 429, 23, 430, 431, 51, 724, 725, 726, 727, 728, 729, 730, 731, 732, 773, 774, 775, 776, 777, 778, 779, 780, 781] (by decide +kernel) (by decide +kernel)
set_option maxRecDepth 20000 in
theorem gL_law_X5_loop : GoodIn wsL_law (wsV RL 52 RX5 yX5_loop wsX5_loop) := goodIn_app (goodIn_of _ (by decide +kernel)) ggL_law_X5_loop
set_option maxRecDepth 20000 in
theorem ggL_law_X6_loop : GoodIn wsL_law wsX6_loop := goodIn_r _ [435, 197, 198, 184, 375, 376, 377, 5, 378, 365, 187, 379, 380, 185, 186, 381, 382, 383, 384, 385, 386, 387, 388, 389, 390, 391, 392, 393, 394, 395, 396, 397, 398, 399, 400, 401, 179, 733, 734, 735, 736, 737, 738, 739, 740, 741, 742, 743, 744, 745, 746, 747, 748, 749, 750, 751, 752, 753, 754, 755, 756, 757, 758, 759, 760, 761] (by decide +kernel) (by decide +kernel)
set_option maxRecDepth 20000 in
theorem gL_law_X6_loop : GoodIn wsL_law (wsV RL 55 RX6 yX6_loop wsX6_loop) := goodIn_app (goodIn_of _ (by decide +kernel)) ggL_law_X6_loop
set_option maxRecDepth 20000 in
theorem ggL_law_X5_along : GoodIn wsL_law wsX5_along := goodIn_r _ [439, 24, 28, 440, 23, 441, 442, 91, 150, 151, 152, 52, 92, 153, 2, 154, 443, 444, 445, 54, 116, 117, 446, 447, 448, 449, 450, 27, 451, 452, 155, 156, 157, 158, 61, 453, 454, 455, 456, 457, 458, 459, 460, 461, 462, 463, 464, 465, 466, 467, 63, 164, 165, 166, 53, 468, 469, 470, 471, 472, 473, 474, 475, 64, 476, 477, 478, 479, 480, 481, 482, 724, 725, 726, 727, 728, 729, 730, 731, 732, 773, 774, 775, 776, 777, 778, 779, 780, 781, 782, 783, 784, 785, 786, 787, 788, 789] (by decide +kernel) (by decide +kernel)
set_option maxRecDepth 20000 in
theorem gL_law_X5_along : GoodIn wsL_law (wsV RL 56 RX5 yX5_along wsX5_along) := goodIn_app (goodIn_of _ (by decide +kernel)) ggL_law_X5_along
set_option maxRecDepth 20000 in
theorem ggL_law_X6_along : GoodIn wsL_law wsX6_along := goodIn_r _ [486, 187, 186, 185, 487, 488, 489, 5, 490, 365, 375, 376, 377, 378, 184, 379, 380, 381, 382, 383, 384, 197, 198, 385, 386, 387, 388, 389, 390, 391, 392, 393, 394, 395, 396, 397, 398, 399, 400, 401, 179, 217, 218, 219, 367, 368, 369, 370, 287, 288, 289, 402, 403, 404, 405, 406, 407, 408, 409, 491, 492, 493, 494, 495, 496, 497, 498, 414, 415, 416, 417, 418, 419, 420, 499, 500, 501, 502, 733, 734, 735, 736, 737, 738, 739, 740, 741, 742, 743, 744, 745, 746, 747, 748, 749, 750, 751, 752, 753, 754, 755, 756, 757, 758, 759, 760, 761] (by decide +kernel) (by decide +kernel)
set_option maxRecDepth 20000 in
theorem gL_law_X6_along : GoodIn wsL_law (wsV RL 59 RX6 yX6_along wsX6_along) := goodIn_app (goodIn_of _ (by decide +kernel)) ggL_law_X6_along
set_option maxRecDepth 20000 in
theorem ggL_law_X5_step : GoodIn wsL_law wsX5_step := goodIn_r _ [506, 24, 440, 23, 441, 442, 91, 507, 508, 509, 510, 446, 447, 448, 449, 150, 151, 152, 52, 92, 153, 2, 154, 443, 444, 445, 54, 116, 117, 724, 725, 726, 727, 728, 729, 730, 731, 732, 773, 774, 775, 776, 777, 778, 779, 780, 781] (by decide +kernel) (by decide +kernel)
set_option maxRecDepth 20000 in
theorem gL_law_X5_step : GoodIn wsL_law (wsV RL 60 RX5 yX5_step wsX5_step) := goodIn_app (goodIn_of _ (by decide +kernel)) ggL_law_X5_step
set_option maxRecDepth 20000 in
theorem ggL_law_X6_step : GoodIn wsL_law wsX6_step := goodIn_r _ [514, 515, 487, 488, 489, 5, 490, 365, 375, 376, 377, 378, 184, 187, 379, 380, 185, 186, 381, 382, 383, 384, 197, 198, 385, 386, 387, 388, 389, 390, 391, 392, 393, 394, 395, 396, 397, 398, 399, 400, 401, 179, 217, 218, 219, 516, 517, 518, 519, 491, 492, 493, 733, 734, 735, 736, 737, 738, 739, 740, 741, 742, 743, 744, 745, 746, 747, 748, 749, 750, 751, 752, 753, 754, 755, 756, 757, 758, 759, 760, 761] (by decide +kernel) (by decide +kernel)
set_option maxRecDepth 20000 in
theorem gL_law_X6_step : GoodIn wsL_law (wsV RL 63 RX6 yX6_step wsX6_step) := goodIn_app (goodIn_of _ (by decide +kernel)) ggL_law_X6_step
set_option maxRecDepth 20000 in
theorem ggL_law_X5_end : GoodIn wsL_law wsX5_end := goodIn_r _ [523, 24, 440, 23, 441, 442, 91, 507, 508, 509, 510, 446, 447, 448, 449, 150, 151, 152, 52, 92, 153, 2, 154, 127, 128, 129, 55, 116, 117, 724, 725, 726, 727, 728, 729, 730, 731, 732, 773, 774, 775, 776, 777, 778, 779, 780, 781] (by decide +kernel) (by decide +kernel)
set_option maxRecDepth 20000 in
theorem gL_law_X5_end : GoodIn wsL_law (wsV RL 64 RX5 yX5_end wsX5_end) := goodIn_app (goodIn_of _ (by decide +kernel)) ggL_law_X5_end
set_option maxRecDepth 20000 in
theorem ggL_law_X6_end : GoodIn wsL_law wsX6_end := goodIn_r _ [527, 515, 185, 487, 488, 489, 5, 490, 365, 375, 376, 377, 378, 184, 187, 379, 380, 186, 381, 382, 383, 384, 197, 198, 385, 386, 387, 388, 389, 390, 391, 392, 393, 394, 395, 396, 397, 398, 399, 400, 401, 179, 217, 218, 219, 516, 517, 518, 519, 528, 529, 530, 733, 734, 735, 736, 737, 738, 739, 740, 741, 742, 743, 744, 745, 746, 747, 748, 749, 750, 751, 752, 753, 754, 755, 756, 757, 758, 759, 760, 761] (by decide +kernel) (by decide +kernel)
set_option maxRecDepth 20000 in
theorem gL_law_X6_end : GoodIn wsL_law (wsV RL 67 RX6 yX6_end wsX6_end) := goodIn_app (goodIn_of _ (by decide +kernel)) ggL_law_X6_end
set_option maxRecDepth 20000 in
theorem ggL_law_X5_between : GoodIn wsL_law wsX5_between := goodIn_r _ [534, 24, 28, 440, 23, 441, 442, 91, 453, 27, 454, 455, 456, 457, 458, 459, 460, 461, 462, 463, 464, 465, 466, 467, 63, 116, 2, 117, 164, 165, 166, 53, 468, 469, 470, 471, 472, 473, 474, 475, 64, 724, 725, 726, 727, 728, 729, 730, 731, 732, 773, 774, 775, 776, 777, 778, 779, 780, 781, 782, 783, 784, 785, 786, 787, 788, 789] (by decide +kernel) (by decide +kernel)
set_option maxRecDepth 20000 in
theorem gL_law_X5_between : GoodIn wsL_law (wsV RL 68 RX5 yX5_between wsX5_between) := goodIn_app (goodIn_of _ (by decide +kernel)) ggL_law_X5_between
set_option maxRecDepth 20000 in
theorem ggL_law_X6_between : GoodIn wsL_law wsX6_between := goodIn_r _ [538, 487, 488, 489, 5, 490, 365, 375, 376, 377, 378, 184, 187, 379, 380, 185, 186, 381, 382, 383, 384, 197, 198, 385, 386, 387, 388, 389, 390, 391, 392, 393, 394, 395, 396, 397, 398, 399, 400, 401, 179, 217, 218, 219, 494, 495, 496, 497, 498, 367, 368, 369, 370, 287, 288, 289, 414, 415, 416, 417, 406, 407, 408, 409, 418, 419, 420, 499, 500, 501, 502, 733, 734, 735, 736, 737, 738, 739, 740, 741, 742, 743, 744, 745, 746, 747, 748, 749, 750, 751, 752, 753, 754, 755, 756, 757, 758, 759, 760, 761] (by decide +kernel) (by decide +kernel)
set_option maxRecDepth 20000 in
theorem gL_law_X6_between : GoodIn wsL_law (wsV RL 71 RX6 yX6_between wsX6_between) := goodIn_app (goodIn_of _ (by decide +kernel)) ggL_law_X6_between
set_option maxRecDepth 20000 in
theorem ggL_law_X5_which : GoodIn wsL_law wsX5_which := goodIn_r _ [542, 20, 28, 24, 130, 19, 131, 132, 108, 109, 110, 111, 47, 133, 134, 135, 112, 113, 114, 115, 46, 116, 2, 117, 461, 27, 462, 463, 464, 465, 466, 467, 63, 164, 23, 165, 166, 53, 469, 470, 471, 472, 473, 474, 475, 64, 724, 725, 726, 727, 728, 729, 730, 731, 732, 767, 768, 769, 770, 771, 772, 782, 783, 784, 785, 786, 787, 788, 789, 773, 774, 775, 776, 777, 778, 779, 780, 781] (by decide +kernel) (by decide +kernel)
set_option maxRecDepth 20000 in
theorem gL_law_X5_which : GoodIn wsL_law (wsV RL 72 RX5 yX5_which wsX5_which) := goodIn_app (goodIn_of _ (by decide +kernel)) ggL_law_X5_which
set_option maxRecDepth 20000 in
theorem ggL_law_X6_which : GoodIn wsL_law wsX6_which := goodIn_r _ [546, 184, 336, 337, 338, 5, 339, 197, 198, 287, 288, 289, 217, 218, 219, 375, 376, 377, 378, 365, 187, 379, 380, 185, 186, 381, 382, 383, 384, 385, 386, 387, 388, 389, 390, 391, 392, 393, 394, 395, 396, 397, 398, 399, 400, 401, 179, 367, 368, 369, 370, 414, 415, 416, 417, 406, 407, 408, 409, 418, 419, 420, 733, 734, 735, 736, 737, 738, 739, 740, 741, 742, 743, 744, 745, 746, 747, 748, 749, 750, 751, 752, 753, 754, 755, 756, 757, 758, 759, 760, 761] (by decide +kernel) (by decide +kernel)
set_option maxRecDepth 20000 in
theorem gL_law_X6_which : GoodIn wsL_law (wsV RL 76 RX6 yX6_which wsX6_which) := goodIn_app (goodIn_of _ (by decide +kernel)) ggL_law_X6_which
set_option maxRecDepth 20000 in
theorem ggL_law_X5_sign : GoodIn wsL_law wsX5_sign := goodIn_r _ [550, 20, 28, 24, 130, 19, 131, 132, 108, 109, 110, 111, 47, 133, 134, 135, 112, 113, 114, 115, 46, 116, 2, 117, 551, 27, 552, 553, 464, 465, 466, 467, 63, 472, 473, 474, 475, 64, 136, 23, 137, 138, 56, 139, 140, 141, 57, 724, 725, 726, 727, 728, 729, 730, 731, 732, 767, 768, 769, 770, 771, 772, 782, 783, 784, 785, 786, 787, 788, 789, 773, 774, 775, 776, 777, 778, 779, 780, 781] (by decide +kernel) (by decide +kernel)
set_option maxRecDepth 20000 in
theorem gL_law_X5_sign : GoodIn wsL_law (wsV RL 77 RX5 yX5_sign wsX5_sign) := goodIn_app (goodIn_of _ (by decide +kernel)) ggL_law_X5_sign
set_option maxRecDepth 20000 in
theorem ggL_law_X6_sign : GoodIn wsL_law wsX6_sign := goodIn_r _ [557, 336, 337, 338, 5, 339, 197, 198, 287, 288, 289, 217, 218, 219, 375, 376, 377, 378, 184, 365, 187, 379, 380, 185, 186, 381, 382, 383, 384, 385, 386, 387, 388, 389, 390, 391, 392, 393, 394, 395, 396, 397, 398, 399, 400, 401, 179, 367, 368, 369, 370, 499, 500, 501, 502, 414, 415, 416, 417, 406, 407, 408, 409, 418, 419, 420, 733, 734, 735, 736, 737, 738, 739, 740, 741, 742, 743, 744, 745, 746, 747, 748, 749, 750, 751, 752, 753, 754, 755, 756, 757, 758, 759, 760, 761] (by decide +kernel) (by decide +kernel)
set_option maxRecDepth 20000 in
theorem gL_law_X6_sign : GoodIn wsL_law (wsV RL 80 RX6 yX6_sign wsX6_sign) := goodIn_app (goodIn_of _ (by decide +kernel)) ggL_law_X6_sign
set_option maxRecDepth 20000 in
theorem ggL_law_X5_writhe : GoodIn wsL_law wsX5_writhe := goodIn_r _ [561, 28, 24, 562, 27, 563, 564, 565, 566, 567, 568, 464, 465, 466, 467, 63, 116, 2, 117, 472, 473, 474, 475, 64, 569, 551, 552, 553, 136, 23, 137, 138, 56, 139, 140, 141, 57, 724, 725, 726, 727, 728, 729, 730, 731, 732, 782, 783, 784, 785, 786, 787, 788, 789, 773, 774, 775, 776, 777, 778, 779, 780, 781] (by decide +kernel) (by decide +kernel)
set_option maxRecDepth 20000 in
theorem gL_law_X5_writhe : GoodIn wsL_law (wsV RL 81 RX5 yX5_writhe wsX5_writhe) := goodIn_app (goodIn_of _ (by decide +kernel)) ggL_law_X5_writhe
set_option maxRecDepth 20000 in
theorem ggL_law_X6_writhe : GoodIn wsL_law wsX6_writhe := goodIn_r _ [573, 375, 376, 377, 5, 378, 184, 365, 187, 379, 380, 185, 186, 381, 382, 383, 384, 197, 198, 385, 386, 387, 388, 389, 390, 391, 392, 393, 394, 395, 396, 397, 398, 399, 400, 401, 179, 367, 368, 369, 370, 287, 288, 289, 217, 218, 219, 499, 500, 501, 502, 414, 415, 416, 417, 406, 407, 408, 409, 418, 419, 420, 733, 734, 735, 736, 737, 738, 739, 740, 741, 742, 743, 744, 745, 746, 747, 748, 749, 750, 751, 752, 753, 754, 755, 756, 757, 758, 759, 760, 761] (by decide +kernel) (by decide +kernel)
set_option maxRecDepth 20000 in
theorem gL_law_X6_writhe : GoodIn wsL_law (wsV RL 84 RX6 yX6_writhe wsX6_writhe) := goodIn_app (goodIn_of _ (by decide +kernel)) ggL_law_X6_writhe
set_option maxRecDepth 20000 in
theorem ggL_law_X5_linked : GoodIn wsL_law wsX5_linked := goodIn_r _ [577, 24, 28, 440, 23, 441, 442, 91, 578, 27, 579, 580, 456, 457, 458, 459, 460, 461, 462, 463, 464, 465, 466, 467, 63, 116, 2, 117, 164, 165, 166, 53, 468, 469, 470, 471, 472, 473, 474, 475, 64, 569, 551, 552, 553, 136, 137, 138, 56, 139, 140, 141, 57, 724, 725, 726, 727, 728, 729, 730, 731, 732, 773, 774, 775, 776, 777, 778, 779, 780, 781, 782, 783, 784, 785, 786, 787, 788, 789] (by decide +kernel) (by decide +kernel)
set_option maxRecDepth 20000 in
theorem gL_law_X5_linked : GoodIn wsL_law (wsV RL 85 RX5 yX5_linked wsX5_linked) := goodIn_app (goodIn_of _ (by decide +kernel)) ggL_law_X5_linked
set_option maxRecDepth 20000 in
theorem ggL_law_X6_linked : GoodIn wsL_law wsX6_linked := goodIn_r _ [584, 498, 487, 488, 489, 5, 490, 365, 375, 376, 377, 378, 184, 187, 379, 380, 185, 186, 381, 382, 383, 384, 197, 198, 385, 386, 387, 388, 389, 390, 391, 392, 393, 394, 395, 396, 397, 398, 399, 400, 401, 179, 217, 218, 219, 494, 495, 496, 497, 367, 368, 369, 370, 287, 288, 289, 414, 415, 416, 417, 406, 407, 408, 409, 418, 419, 420, 499, 500, 501, 502, 733, 734, 735, 736, 737, 738, 739, 740, 741, 742, 743, 744, 745, 746, 747, 748, 749, 750, 751, 752, 753, 754, 755, 756, 757, 758, 759, 760, 761] (by decide +kernel) (by decide +kernel)
set_option maxRecDepth 20000 in
theorem gL_law_X6_linked : GoodIn wsL_law (wsV RL 88 RX6 yX6_linked wsX6_linked) := goodIn_app (goodIn_of _ (by decide +kernel)) ggL_law_X6_linked
set_option maxRecDepth 20000 in
theorem ggL_law_X5_colours : GoodIn wsL_law wsX5_colours := goodIn_r _ [588, 32, 24, 28, 589, 31, 590, 591, 592, 593, 594, 595, 596, 597, 598, 599, 148, 600, 71, 566, 27, 567, 568, 464, 465, 466, 467, 63, 116, 2, 117, 472, 473, 474, 475, 64, 601, 81, 82, 83, 602, 603, 604, 62, 605, 606, 607, 153, 154, 608, 23, 609, 610, 611, 164, 165, 166, 53, 449, 150, 151, 152, 52, 92, 612, 613, 614, 615, 616, 617, 618, 619, 620, 621, 622, 623, 724, 725, 726, 727, 728, 729, 730, 731, 732, 790, 791, 792, 782, 783, 784, 785, 786, 787, 788, 789, 773, 774, 775, 776, 777, 778, 779, 780, 781] (by decide +kernel) (by decide +kernel)
set_option maxRecDepth 20000 in
theorem gL_law_X5_colours : GoodIn wsL_law (wsV RL 89 RX5 yX5_colours wsX5_colours) := goodIn_app (goodIn_of _ (by decide +kernel)) ggL_law_X5_colours
set_option maxRecDepth 20000 in
theorem ggL_law_X6_colours : GoodIn wsL_law wsX6_colours := goodIn_r _ [627, 366, 192, 191, 189, 190, 371, 372, 373, 5, 374, 365, 187, 186, 185, 375, 376, 377, 378, 184, 379, 380, 381, 382, 383, 384, 197, 198, 385, 386, 387, 388, 389, 390, 391, 392, 393, 394, 395, 396, 397, 398, 399, 400, 401, 179, 402, 403, 404, 405, 367, 368, 369, 370, 287, 288, 289, 217, 218, 219, 406, 407, 408, 409, 628, 629, 630, 631, 733, 734, 735, 736, 737, 738, 739, 740, 741, 742, 743, 744, 745, 746, 747, 748, 749, 750, 751, 752, 753, 754, 755, 756, 757, 758, 759, 760, 761] (by decide +kernel) (by decide +kernel)
set_option maxRecDepth 20000 in
theorem gL_law_X6_colours : GoodIn wsL_law (wsV RL 92 RX6 yX6_colours wsX6_colours) := goodIn_app (goodIn_of _ (by decide +kernel)) ggL_law_X6_colours
set_option maxRecDepth 20000 in
theorem ggL_law_X5_by : GoodIn wsL_law wsX5_by := goodIn_r _ [635, 20, 130, 19, 131, 132, 108, 109, 110, 111, 47, 636, 637, 638, 2, 639, 34, 35, 294, 295, 296, 75, 76, 77, 45, 297, 298, 299, 300, 46, 258, 259, 260, 153, 154, 88, 23, 89, 90, 91, 92, 51, 52, 93, 81, 82, 83, 94, 95, 96, 97, 98, 99, 100, 101, 102, 103, 104, 53, 54, 55, 56, 57, 105, 106, 107, 112, 113, 114, 115, 116, 117, 724, 725, 726, 727, 728, 729, 730, 731, 732, 767, 768, 769, 770, 771, 772, 773, 774, 775, 776, 777, 778, 779, 780, 781] (by decide +kernel) (by decide +kernel)
set_option maxRecDepth 20000 in
theorem gL_law_X5_by : GoodIn wsL_law (wsV RL 93 RX5 yX5_by wsX5_by) := goodIn_app (goodIn_of _ (by decide +kernel)) ggL_law_X5_by
set_option maxRecDepth 20000 in
theorem ggL_law_X6_by : GoodIn wsL_law wsX6_by := goodIn_r _ [643, 644, 336, 337, 338, 5, 339, 197, 198, 287, 288, 289, 217, 218, 219, 645, 646, 647, 648, 179, 375, 376, 377, 378, 184, 365, 187, 379, 380, 185, 186, 381, 382, 383, 384, 385, 386, 387, 388, 389, 390, 391, 392, 393, 394, 395, 396, 397, 398, 399, 400, 401, 733, 734, 735, 736, 737, 738, 739, 740, 741, 742, 743, 744, 745, 746, 747, 748, 749, 750, 751, 752, 753, 754, 755, 756, 757, 758, 759, 760, 761] (by decide +kernel) (by decide +kernel)
set_option maxRecDepth 20000 in
theorem gL_law_X6_by : GoodIn wsL_law (wsV RL 96 RX6 yX6_by wsX6_by) := goodIn_app (goodIn_of _ (by decide +kernel)) ggL_law_X6_by
set_option maxRecDepth 20000 in
theorem ggL_law_X5_most : GoodIn wsL_law wsX5_most := goodIn_r _ [652, 20, 133, 19, 134, 135, 112, 113, 114, 115, 46, 116, 2, 117, 636, 637, 638, 639, 34, 35, 294, 295, 296, 75, 76, 77, 45, 297, 298, 299, 300, 47, 258, 259, 260, 153, 154, 88, 23, 89, 90, 91, 92, 51, 52, 93, 81, 82, 83, 94, 95, 96, 97, 98, 99, 100, 101, 102, 103, 104, 53, 54, 55, 56, 57, 105, 106, 107, 108, 109, 110, 111, 653, 654, 655, 724, 725, 726, 727, 728, 729, 730, 731, 732, 767, 768, 769, 770, 771, 772, 773, 774, 775, 776, 777, 778, 779, 780, 781] (by decide +kernel) (by decide +kernel)
set_option maxRecDepth 20000 in
theorem gL_law_X5_most : GoodIn wsL_law (wsV RL 97 RX5 yX5_most wsX5_most) := goodIn_app (goodIn_of _ (by decide +kernel)) ggL_law_X5_most
set_option maxRecDepth 20000 in
theorem ggL_law_X6_most : GoodIn wsL_law wsX6_most := goodIn_r _ [659, 644, 217, 218, 5, 219, 367, 368, 369, 370, 197, 198, 179, 287, 288, 289, 645, 646, 647, 648, 375, 376, 377, 378, 184, 365, 187, 379, 380, 185, 186, 381, 382, 383, 384, 385, 386, 387, 388, 389, 390, 391, 392, 393, 394, 395, 396, 397, 398, 399, 400, 401, 528, 529, 530, 733, 734, 735, 736, 737, 738, 739, 740, 741, 742, 743, 744, 745, 746, 747, 748, 749, 750, 751, 752, 753, 754, 755, 756, 757, 758, 759, 760, 761] (by decide +kernel) (by decide +kernel)
set_option maxRecDepth 20000 in
theorem gL_law_X6_most : GoodIn wsL_law (wsV RL 100 RX6 yX6_most wsX6_most) := goodIn_app (goodIn_of _ (by decide +kernel)) ggL_law_X6_most
set_option maxRecDepth 20000 in
theorem ggL_law_X5_one : GoodIn wsL_law wsX5_one := goodIn_r _ [663, 28, 357, 358, 359, 2, 360, 24, 724, 725, 726, 727, 728, 729, 730, 731, 732, 782, 783, 784, 785, 786, 787, 788, 789, 773, 774, 775, 776, 777, 778, 779, 780, 781] (by decide +kernel) (by decide +kernel)
set_option maxRecDepth 20000 in
theorem gL_law_X5_one : GoodIn wsL_law (wsV RL 101 RX5 yX5_one wsX5_one) := goodIn_app (goodIn_of _ (by decide +kernel)) ggL_law_X5_one
set_option maxRecDepth 20000 in
theorem ggL_law_X6_one : GoodIn wsL_law wsX6_one := goodIn_r _ [667, 668, 669, 670, 5, 671, 365, 188, 184, 193, 375, 376, 377, 378, 187, 379, 380, 185, 186, 381, 382, 383, 384, 197, 198, 385, 386, 387, 388, 389, 390, 391, 392, 393, 394, 395, 396, 397, 398, 399, 400, 401, 179, 367, 368, 369, 370, 287, 288, 289, 217, 218, 219, 414, 415, 416, 417, 406, 407, 408, 409, 418, 419, 420, 421, 422, 423, 424, 528, 529, 530, 733, 734, 735, 736, 737, 738, 739, 740, 741, 742, 743, 744, 745, 746, 747, 748, 749, 750, 751, 752, 753, 754, 755, 756, 757, 758, 759, 760, 761] (by decide +kernel) (by decide +kernel)
set_option maxRecDepth 20000 in
theorem gL_law_X6_one : GoodIn wsL_law (wsV RL 104 RX6 yX6_one wsX6_one) := goodIn_app (goodIn_of _ (by decide +kernel)) ggL_law_X6_one
set_option maxRecDepth 20000 in
theorem ggL_law_X5_oneAt : GoodIn wsL_law wsX5_oneAt := goodIn_r _ [675, 28, 20, 357, 358, 359, 2, 360, 24, 676, 27, 677, 678, 65, 116, 117, 653, 19, 654, 655, 45, 724, 725, 726, 727, 728, 729, 730, 731, 732, 782, 783, 784, 785, 786, 787, 788, 789, 773, 774, 775, 776, 777, 778, 779, 780, 781, 767, 768, 769, 770, 771, 772] (by decide +kernel) (by decide +kernel)
set_option maxRecDepth 20000 in
theorem gL_law_X5_oneAt : GoodIn wsL_law (wsV RL 105 RX5 yX5_oneAt wsX5_oneAt) := goodIn_app (goodIn_of _ (by decide +kernel)) ggL_law_X5_oneAt
set_option maxRecDepth 20000 in
theorem ggL_law_X6_oneAt : GoodIn wsL_law wsX6_oneAt := goodIn_r _ [682, 193, 668, 669, 670, 5, 671, 365, 188, 184, 375, 376, 377, 378, 187, 379, 380, 185, 186, 381, 382, 383, 384, 197, 198, 385, 386, 387, 388, 389, 390, 391, 392, 393, 394, 395, 396, 397, 398, 399, 400, 401, 179, 367, 368, 369, 370, 287, 288, 289, 217, 218, 219, 414, 415, 416, 417, 406, 407, 408, 409, 418, 419, 420, 421, 422, 423, 424, 528, 529, 530, 733, 734, 735, 736, 737, 738, 739, 740, 741, 742, 743, 744, 745, 746, 747, 748, 749, 750, 751, 752, 753, 754, 755, 756, 757, 758, 759, 760, 761] (by decide +kernel) (by decide +kernel)
set_option maxRecDepth 20000 in
theorem gL_law_X6_oneAt : GoodIn wsL_law (wsV RL 108 RX6 yX6_oneAt wsX6_oneAt) := goodIn_app (goodIn_of _ (by decide +kernel)) ggL_law_X6_oneAt
set_option maxRecDepth 20000 in
theorem ggL_law_X5_same : GoodIn wsL_law wsX5_same := goodIn_r _ [686, 20, 687, 19, 688, 689, 75, 76, 77, 690, 691, 692, 693, 694, 653, 654, 655, 45, 116, 2, 117, 108, 109, 110, 111, 47, 695, 696, 697, 698, 699, 133, 134, 135, 112, 113, 114, 115, 46, 700, 701, 702, 724, 725, 726, 727, 728, 729, 730, 731, 732, 767, 768, 769, 770, 771, 772] (by decide +kernel) (by decide +kernel)
set_option maxRecDepth 20000 in
theorem gL_law_X5_same : GoodIn wsL_law (wsV RL 109 RX5 yX5_same wsX5_same) := goodIn_app (goodIn_of _ (by decide +kernel)) ggL_law_X5_same
set_option maxRecDepth 20000 in
theorem ggL_law_X6_same : GoodIn wsL_law wsX6_same := goodIn_r _ [706, 707, 197, 198, 179, 217, 218, 5, 219, 287, 288, 289, 733, 734, 735, 736, 737, 738, 739, 740, 741, 742, 743, 744, 745, 746, 747, 748, 749, 750, 751, 752, 753, 754, 755, 756, 757, 758, 759, 760, 761] (by decide +kernel) (by decide +kernel)
set_option maxRecDepth 20000 in
theorem gL_law_X6_same : GoodIn wsL_law (wsV RL 112 RX6 yX6_same wsX6_same) := goodIn_app (goodIn_of _ (by decide +kernel)) ggL_law_X6_same
set_option maxRecDepth 20000 in
theorem ggL_law_X5_keep : GoodIn wsL_law wsX5_keep := goodIn_r _ [711, 36, 17, 18, 19, 20, 42, 43, 44, 11, 12, 40, 45, 46, 47, 294, 295, 296, 75, 76, 77, 297, 298, 299, 300, 724, 725, 726, 727, 728, 729, 730, 731, 732, 767, 768, 769, 770, 771, 772] (by decide +kernel) (by decide +kernel)
set_option maxRecDepth 20000 in
theorem gL_law_X5_keep : GoodIn wsL_law (wsV RL 113 RX5 yX5_keep wsX5_keep) := goodIn_app (goodIn_of _ (by decide +kernel)) ggL_law_X5_keep
set_option maxRecDepth 20000 in
theorem ggL_law_X6_keep : GoodIn wsL_law wsX6_keep := goodIn_r _ [715, 194, 195, 179, 196, 197, 198, 217, 218, 5, 219, 305, 306, 307, 308, 287, 288, 289, 733, 734, 735, 736, 737, 738, 739, 740, 741, 742, 743, 744, 745, 746, 747, 748, 749, 750, 751, 752, 753, 754, 755, 756, 757, 758, 759, 760, 761] (by decide +kernel) (by decide +kernel)
set_option maxRecDepth 20000 in
theorem gL_law_X6_keep : GoodIn wsL_law (wsV RL 116 RX6 yX6_keep wsX6_keep) := goodIn_app (goodIn_of _ (by decide +kernel)) ggL_law_X6_keep
set_option maxRecDepth 20000 in
theorem ggL_law_X5_again : GoodIn wsL_law wsX5_again := goodIn_r _ [719, 36, 20, 294, 19, 295, 296, 75, 76, 77, 45, 297, 298, 299, 300, 46, 47, 84, 85, 86, 2, 87, 24, 28, 88, 23, 89, 90, 91, 92, 51, 52, 93, 81, 82, 83, 94, 95, 96, 97, 98, 99, 100, 101, 102, 103, 104, 53, 54, 55, 56, 57, 105, 106, 107, 108, 109, 110, 111, 112, 113, 114, 115, 116, 117, 118, 27, 119, 120, 63, 64, 61, 121, 122, 123, 124, 125, 126, 127, 128, 129, 130, 131, 132, 133, 134, 135, 136, 137, 138, 139, 140, 141, 142, 143, 144, 145, 62, 146, 147, 148, 149, 150, 151, 152, 153, 154, 155, 156, 157, 158, 159, 160, 161, 162, 163, 66, 65, 164, 165, 166, 167, 168, 169, 170, 171, 172, 173, 174, 724, 725, 726, 727, 728, 729, 730, 731, 732, 767, 768, 769, 770, 771, 772, 773, 774, 775, 776, 777, 778, 779, 780, 781, 782, 783, 784, 785, 786, 787, 788, 789] (by decide +kernel) (by decide +kernel)
set_option maxRecDepth 20000 in
theorem gL_law_X5_again : GoodIn wsL_law (wsV RL 117 RX5 yX5_again wsX5_again) := goodIn_app (goodIn_of _ (by decide +kernel)) ggL_law_X5_again
set_option maxRecDepth 20000 in
theorem ggL_law_X6_again : GoodIn wsL_law wsX6_again := goodIn_r _ [723, 194, 179, 195, 196, 197, 198, 217, 218, 5, 219, 305, 306, 307, 308, 287, 288, 289, 733, 734, 735, 736, 737, 738, 739, 740, 741, 742, 743, 744, 745, 746, 747, 748, 749, 750, 751, 752, 753, 754, 755, 756, 757, 758, 759, 760, 761] (by decide +kernel) (by decide +kernel)
set_option maxRecDepth 20000 in
theorem gL_law_X6_again : GoodIn wsL_law (wsV RL 120 RX6 yX6_again wsX6_again) := goodIn_app (goodIn_of _ (by decide +kernel)) ggL_law_X6_again
