theorem dX8_child_0 : decode cX8_child 0 = .ok (.aload_n 0, 1) := by decide +kernel
theorem dX8_child_1 : decode cX8_child 1 = .ok (.iload_n 1, 1) := by decide +kernel
theorem dX8_child_2 : decode cX8_child 2 = .ok (.invokevirtual 174, 3) := by decide +kernel
theorem dX8_child_5 : decode cX8_child 5 = .ok (.ifCond .eq 22, 3) := by decide +kernel
theorem dX8_child_8 : decode cX8_child 8 = .ok (.aload_n 0, 1) := by decide +kernel
theorem dX8_child_9 : decode cX8_child 9 = .ok (.iload_n 1, 1) := by decide +kernel
theorem dX8_child_10 : decode cX8_child 10 = .ok (.invokevirtual 168, 3) := by decide +kernel
theorem dX8_child_13 : decode cX8_child 13 = .ok (.ifCond .eq 14, 3) := by decide +kernel
theorem dX8_child_16 : decode cX8_child 16 = .ok (.iload_n 2, 1) := by decide +kernel
theorem dX8_child_17 : decode cX8_child 17 = .ok (.iconst 0, 1) := by decide +kernel
theorem dX8_child_18 : decode cX8_child 18 = .ok (.sipush 999, 3) := by decide +kernel
theorem dX8_child_21 : decode cX8_child 21 = .ok (.invokestatic 83, 3) := by decide +kernel
theorem dX8_child_24 : decode cX8_child 24 = .ok (.ifCond .ne 5, 3) := by decide +kernel
theorem dX8_child_27 : decode cX8_child 27 = .ok (.iconst (-1), 1) := by decide +kernel
theorem dX8_child_28 : decode cX8_child 28 = .ok (.ireturn, 1) := by decide +kernel
theorem dX8_child_29 : decode cX8_child 29 = .ok (.aload_n 0, 1) := by decide +kernel
theorem dX8_child_30 : decode cX8_child 30 = .ok (.invokevirtual 177, 3) := by decide +kernel
theorem dX8_child_33 : decode cX8_child 33 = .ok (.aload_n 0, 1) := by decide +kernel
theorem dX8_child_34 : decode cX8_child 34 = .ok (.invokevirtual 180, 3) := by decide +kernel
theorem dX8_child_37 : decode cX8_child 37 = .ok (.aload_n 0, 1) := by decide +kernel
theorem dX8_child_38 : decode cX8_child 38 = .ok (.iload_n 1, 1) := by decide +kernel
theorem dX8_child_39 : decode cX8_child 39 = .ok (.iload_n 2, 1) := by decide +kernel
theorem dX8_child_40 : decode cX8_child 40 = .ok (.bipush 9, 2) := by decide +kernel
theorem dX8_child_42 : decode cX8_child 42 = .ok (.isub, 1) := by decide +kernel
theorem dX8_child_43 : decode cX8_child 43 = .ok (.invokevirtual 164, 3) := by decide +kernel
theorem dX8_child_46 : decode cX8_child 46 = .ok (.ifCond .ge 7, 3) := by decide +kernel
theorem dX8_child_49 : decode cX8_child 49 = .ok (.iconst 0, 1) := by decide +kernel
theorem dX8_child_50 : decode cX8_child 50 = .ok (.goto 4, 3) := by decide +kernel
theorem dX8_child_53 : decode cX8_child 53 = .ok (.iconst 1, 1) := by decide +kernel
theorem dX8_child_54 : decode cX8_child 54 = .ok (.ireturn, 1) := by decide +kernel
set_option maxRecDepth 20000 in
theorem ggX8_isMated_X8_mateBy : GoodIn wsX8_isMated wsX8_mateBy := goodIn_r _ [6, 7, 8, 9, 10, 5, 11, 1, 12, 13, 14, 15, 16, 17, 18, 19, 20, 21, 22, 23, 24, 25, 26, 27, 28, 29, 30, 31, 32, 33, 34, 35, 36, 37, 38, 39, 40, 41, 42, 43, 44, 45, 46] rfl (by decide +kernel)
set_option maxRecDepth 20000 in
theorem gX8_isMated_X8_mateBy : GoodIn wsX8_isMated (wsV RX8 164 RX8 yX8_mateBy wsX8_mateBy) := goodIn_app (goodIn_of _ (by decide +kernel)) ggX8_isMated_X8_mateBy
theorem dX8_isMated_0 : decode cX8_isMated 0 = .ok (.aload_n 0, 1) := by decide +kernel
theorem dX8_isMated_1 : decode cX8_isMated 1 = .ok (.iload_n 1, 1) := by decide +kernel
theorem dX8_isMated_2 : decode cX8_isMated 2 = .ok (.aload_n 0, 1) := by decide +kernel
theorem dX8_isMated_3 : decode cX8_isMated 3 = .ok (.getfield 43, 3) := by decide +kernel
theorem dX8_isMated_6 : decode cX8_isMated 6 = .ok (.iconst 0, 1) := by decide +kernel
theorem dX8_isMated_7 : decode cX8_isMated 7 = .ok (.iaload, 1) := by decide +kernel
theorem dX8_isMated_8 : decode cX8_isMated 8 = .ok (.invokevirtual 164, 3) := by decide +kernel
theorem dX8_isMated_11 : decode cX8_isMated 11 = .ok (.ifCond .lt 7, 3) := by decide +kernel
theorem dX8_isMated_14 : decode cX8_isMated 14 = .ok (.iconst 1, 1) := by decide +kernel
theorem dX8_isMated_15 : decode cX8_isMated 15 = .ok (.goto 4, 3) := by decide +kernel
theorem dX8_isMated_18 : decode cX8_isMated 18 = .ok (.iconst 0, 1) := by decide +kernel
theorem dX8_isMated_19 : decode cX8_isMated 19 = .ok (.ireturn, 1) := by decide +kernel
set_option maxRecDepth 20000 in
theorem ggX8_isBrought_X8_isWoman : GoodIn wsX8_isBrought wsX8_isWoman := goodIn_r _ [7, 8, 93, 94, 95, 96, 97, 98, 99, 100, 101, 102, 103, 104, 105, 106, 107, 108, 109, 110, 111, 112, 113, 114, 115, 116, 117, 118, 119] rfl (by decide +kernel)
set_option maxRecDepth 20000 in
theorem gX8_isBrought_X8_isWoman : GoodIn wsX8_isBrought (wsV RX8 168 RX8 yX8_isWoman wsX8_isWoman) := goodIn_app (goodIn_of _ (by decide +kernel)) ggX8_isBrought_X8_isWoman
set_option maxRecDepth 20000 in
theorem ggX8_isBrought_X8_isMated : GoodIn wsX8_isBrought wsX8_isMated := goodIn_r _ [12, 2, 13, 14, 15, 6, 16, 17, 18, 19, 20, 21, 22, 23, 24, 25, 26, 27, 28, 29, 93, 94, 95, 96, 97, 98, 99, 100, 101, 102, 103, 104, 105, 106, 107, 108, 109, 110, 111, 112, 113, 114, 115, 116, 117, 118, 119] rfl (by decide +kernel)
set_option maxRecDepth 20000 in
theorem gX8_isBrought_X8_isMated : GoodIn wsX8_isBrought (wsV RX8 245 RX8 yX8_isMated wsX8_isMated) := goodIn_app (goodIn_of _ (by decide +kernel)) ggX8_isBrought_X8_isMated
set_option maxRecDepth 20000 in
theorem ggX8_isBrought_X8_canWed : GoodIn wsX8_isBrought wsX8_canWed := goodIn_r _ [33, 34, 35, 36, 37, 6, 38, 39, 40, 41, 42, 3, 4, 5, 7, 8, 43, 44, 45, 46, 47, 48, 49, 50, 51, 52, 53, 54, 2, 55, 56, 57, 58, 59, 93, 94, 95, 96, 97, 98, 99, 100, 101, 102, 103, 104, 105, 106, 107, 108, 109, 110, 111, 112, 113, 114, 115, 116, 117, 118, 119] rfl (by decide +kernel)
set_option maxRecDepth 20000 in
theorem gX8_isBrought_X8_canWed : GoodIn wsX8_isBrought (wsV RX8 224 RX8 yX8_canWed wsX8_canWed) := goodIn_app (goodIn_of _ (by decide +kernel)) ggX8_isBrought_X8_canWed
set_option maxRecDepth 20000 in
theorem ggX8_isBrought_X8_weds : GoodIn wsX8_isBrought wsX8_weds := goodIn_r _ [63, 34, 64, 65, 66, 6, 67, 2, 39, 40, 41, 42, 3, 4, 5, 7, 8, 43, 44, 45, 46, 68, 69, 70, 71, 72, 73, 74, 75, 93, 94, 95, 96, 97, 98, 99, 100, 101, 102, 103, 104, 105, 106, 107, 108, 109, 110, 111, 112, 113, 114, 115, 116, 117, 118, 119] rfl (by decide +kernel)
set_option maxRecDepth 20000 in
theorem gX8_isBrought_X8_weds : GoodIn wsX8_isBrought (wsV RX8 230 RX8 yX8_weds wsX8_weds) := goodIn_app (goodIn_of _ (by decide +kernel)) ggX8_isBrought_X8_weds
set_option maxRecDepth 20000 in
theorem ggX8_isBrought_X8_findHolds : GoodIn wsX8_isBrought wsX8_findHolds := goodIn_r _ [79, 17, 80, 81, 82, 83, 6, 84, 85, 86, 87, 88, 89, 90, 91, 92, 2, 22, 23, 24, 25, 18, 19, 20, 21, 26, 27, 28, 29, 93, 94, 95, 96, 97, 98, 99, 100, 101, 102, 103, 104, 105, 106, 107, 108, 109, 110, 111, 112, 113, 114, 115, 116, 117, 118, 119] rfl (by decide +kernel)
set_option maxRecDepth 20000 in
theorem gX8_isBrought_X8_findHolds : GoodIn wsX8_isBrought (wsV RX8 180 RX8 yX8_findHolds wsX8_findHolds) := goodIn_app (goodIn_of _ (by decide +kernel)) ggX8_isBrought_X8_findHolds
theorem dX8_isBrought_0 : decode cX8_isBrought 0 = .ok (.iconst 0, 1) := by decide +kernel
theorem dX8_isBrought_1 : decode cX8_isBrought 1 = .ok (.istore_n 2, 1) := by decide +kernel
theorem dX8_isBrought_2 : decode cX8_isBrought 2 = .ok (.iload_n 2, 1) := by decide +kernel
theorem dX8_isBrought_3 : decode cX8_isBrought 3 = .ok (.aload_n 0, 1) := by decide +kernel
theorem dX8_isBrought_4 : decode cX8_isBrought 4 = .ok (.getfield 80, 3) := by decide +kernel
theorem dX8_isBrought_7 : decode cX8_isBrought 7 = .ok (.if_icmp .ge 69, 3) := by decide +kernel
theorem dX8_isBrought_10 : decode cX8_isBrought 10 = .ok (.aload_n 0, 1) := by decide +kernel
theorem dX8_isBrought_11 : decode cX8_isBrought 11 = .ok (.iload_n 2, 1) := by decide +kernel
theorem dX8_isBrought_12 : decode cX8_isBrought 12 = .ok (.invokevirtual 168, 3) := by decide +kernel
theorem dX8_isBrought_15 : decode cX8_isBrought 15 = .ok (.ifCond .ne 37, 3) := by decide +kernel
theorem dX8_isBrought_18 : decode cX8_isBrought 18 = .ok (.aload_n 0, 1) := by decide +kernel
theorem dX8_isBrought_19 : decode cX8_isBrought 19 = .ok (.iload_n 2, 1) := by decide +kernel
theorem dX8_isBrought_20 : decode cX8_isBrought 20 = .ok (.invokevirtual 245, 3) := by decide +kernel
theorem dX8_isBrought_23 : decode cX8_isBrought 23 = .ok (.ifCond .ne 29, 3) := by decide +kernel
theorem dX8_isBrought_26 : decode cX8_isBrought 26 = .ok (.aload_n 0, 1) := by decide +kernel
theorem dX8_isBrought_27 : decode cX8_isBrought 27 = .ok (.iconst 0, 1) := by decide +kernel
theorem dX8_isBrought_28 : decode cX8_isBrought 28 = .ok (.iload_n 2, 1) := by decide +kernel
theorem dX8_isBrought_29 : decode cX8_isBrought 29 = .ok (.iload_n 1, 1) := by decide +kernel
theorem dX8_isBrought_30 : decode cX8_isBrought 30 = .ok (.invokevirtual 224, 3) := by decide +kernel
theorem dX8_isBrought_33 : decode cX8_isBrought 33 = .ok (.ifCond .eq 19, 3) := by decide +kernel
theorem dX8_isBrought_36 : decode cX8_isBrought 36 = .ok (.aload_n 0, 1) := by decide +kernel
theorem dX8_isBrought_37 : decode cX8_isBrought 37 = .ok (.getfield 43, 3) := by decide +kernel
theorem dX8_isBrought_40 : decode cX8_isBrought 40 = .ok (.bipush 12, 2) := by decide +kernel
theorem dX8_isBrought_42 : decode cX8_isBrought 42 = .ok (.iaload, 1) := by decide +kernel
theorem dX8_isBrought_43 : decode cX8_isBrought 43 = .ok (.bipush 8, 2) := by decide +kernel
theorem dX8_isBrought_45 : decode cX8_isBrought 45 = .ok (.if_icmp .ge 7, 3) := by decide +kernel
theorem dX8_isBrought_48 : decode cX8_isBrought 48 = .ok (.iconst 1, 1) := by decide +kernel
theorem dX8_isBrought_49 : decode cX8_isBrought 49 = .ok (.goto 4, 3) := by decide +kernel
theorem dX8_isBrought_52 : decode cX8_isBrought 52 = .ok (.iconst 0, 1) := by decide +kernel
theorem dX8_isBrought_53 : decode cX8_isBrought 53 = .ok (.istore_n 3, 1) := by decide +kernel
theorem dX8_isBrought_54 : decode cX8_isBrought 54 = .ok (.iload_n 3, 1) := by decide +kernel
theorem dX8_isBrought_55 : decode cX8_isBrought 55 = .ok (.ifCond .eq 15, 3) := by decide +kernel
theorem dX8_isBrought_58 : decode cX8_isBrought 58 = .ok (.aload_n 0, 1) := by decide +kernel
theorem dX8_isBrought_59 : decode cX8_isBrought 59 = .ok (.iconst 0, 1) := by decide +kernel
theorem dX8_isBrought_60 : decode cX8_isBrought 60 = .ok (.iload_n 2, 1) := by decide +kernel
theorem dX8_isBrought_61 : decode cX8_isBrought 61 = .ok (.iload_n 1, 1) := by decide +kernel
theorem dX8_isBrought_62 : decode cX8_isBrought 62 = .ok (.invokevirtual 230, 3) := by decide +kernel
theorem dX8_isBrought_65 : decode cX8_isBrought 65 = .ok (.aload_n 0, 1) := by decide +kernel
theorem dX8_isBrought_66 : decode cX8_isBrought 66 = .ok (.invokevirtual 180, 3) := by decide +kernel
theorem dX8_isBrought_69 : decode cX8_isBrought 69 = .ok (.return_, 1) := by decide +kernel
theorem dX8_isBrought_70 : decode cX8_isBrought 70 = .ok (.iinc 2 1, 3) := by decide +kernel
theorem dX8_isBrought_73 : decode cX8_isBrought 73 = .ok (.goto (-71), 3) := by decide +kernel
theorem dX8_isBrought_76 : decode cX8_isBrought 76 = .ok (.return_, 1) := by decide +kernel
set_option maxRecDepth 20000 in
theorem ggX8_mated_X8_isWoman : GoodIn wsX8_mated wsX8_isWoman := goodIn_r _ [6, 7, 30, 31, 32, 33, 34, 35, 36, 37, 38, 39, 40, 41, 42, 43, 44, 45, 46, 47, 48, 49, 50, 51, 52, 53, 54, 55, 56] rfl (by decide +kernel)
set_option maxRecDepth 20000 in
theorem gX8_mated_X8_isWoman : GoodIn wsX8_mated (wsV RX8 168 RX8 yX8_isWoman wsX8_isWoman) := goodIn_app (goodIn_of _ (by decide +kernel)) ggX8_mated_X8_isWoman
set_option maxRecDepth 20000 in
theorem ggX8_mated_X8_isMated : GoodIn wsX8_mated wsX8_isMated := goodIn_r _ [11, 12, 13, 14, 15, 5, 16, 17, 18, 19, 20, 21, 22, 23, 24, 25, 26, 27, 28, 29, 30, 31, 32, 33, 34, 35, 36, 37, 38, 39, 40, 41, 42, 43, 44, 45, 46, 47, 48, 49, 50, 51, 52, 53, 54, 55, 56] rfl (by decide +kernel)
set_option maxRecDepth 20000 in
theorem gX8_mated_X8_isMated : GoodIn wsX8_mated (wsV RX8 245 RX8 yX8_isMated wsX8_isMated) := goodIn_app (goodIn_of _ (by decide +kernel)) ggX8_mated_X8_isMated
theorem dX8_mated_0 : decode cX8_mated 0 = .ok (.iconst 0, 1) := by decide +kernel
theorem dX8_mated_1 : decode cX8_mated 1 = .ok (.istore_n 1, 1) := by decide +kernel
theorem dX8_mated_2 : decode cX8_mated 2 = .ok (.iconst 0, 1) := by decide +kernel
theorem dX8_mated_3 : decode cX8_mated 3 = .ok (.istore_n 2, 1) := by decide +kernel
theorem dX8_mated_4 : decode cX8_mated 4 = .ok (.iload_n 2, 1) := by decide +kernel
theorem dX8_mated_5 : decode cX8_mated 5 = .ok (.aload_n 0, 1) := by decide +kernel
theorem dX8_mated_6 : decode cX8_mated 6 = .ok (.getfield 80, 3) := by decide +kernel
theorem dX8_mated_9 : decode cX8_mated 9 = .ok (.if_icmp .ge 33, 3) := by decide +kernel
theorem dX8_mated_12 : decode cX8_mated 12 = .ok (.iload_n 1, 1) := by decide +kernel
theorem dX8_mated_13 : decode cX8_mated 13 = .ok (.aload_n 0, 1) := by decide +kernel
theorem dX8_mated_14 : decode cX8_mated 14 = .ok (.iload_n 2, 1) := by decide +kernel
theorem dX8_mated_15 : decode cX8_mated 15 = .ok (.invokevirtual 168, 3) := by decide +kernel
theorem dX8_mated_18 : decode cX8_mated 18 = .ok (.ifCond .eq 15, 3) := by decide +kernel
theorem dX8_mated_21 : decode cX8_mated 21 = .ok (.aload_n 0, 1) := by decide +kernel
theorem dX8_mated_22 : decode cX8_mated 22 = .ok (.iload_n 2, 1) := by decide +kernel
theorem dX8_mated_23 : decode cX8_mated 23 = .ok (.invokevirtual 245, 3) := by decide +kernel
theorem dX8_mated_26 : decode cX8_mated 26 = .ok (.ifCond .eq 7, 3) := by decide +kernel
theorem dX8_mated_29 : decode cX8_mated 29 = .ok (.iconst 1, 1) := by decide +kernel
theorem dX8_mated_30 : decode cX8_mated 30 = .ok (.goto 4, 3) := by decide +kernel
theorem dX8_mated_33 : decode cX8_mated 33 = .ok (.iconst 0, 1) := by decide +kernel
theorem dX8_mated_34 : decode cX8_mated 34 = .ok (.iadd, 1) := by decide +kernel
theorem dX8_mated_35 : decode cX8_mated 35 = .ok (.istore_n 1, 1) := by decide +kernel
theorem dX8_mated_36 : decode cX8_mated 36 = .ok (.iinc 2 1, 3) := by decide +kernel
theorem dX8_mated_39 : decode cX8_mated 39 = .ok (.goto (-35), 3) := by decide +kernel
theorem dX8_mated_42 : decode cX8_mated 42 = .ok (.iload_n 1, 1) := by decide +kernel
theorem dX8_mated_43 : decode cX8_mated 43 = .ok (.ireturn, 1) := by decide +kernel
set_option maxRecDepth 20000 in
theorem ggX8_singles_X8_asItIs : GoodIn wsX8_singles wsX8_asItIs := goodIn_r _ [6, 7, 8, 9, 10, 5, 11, 55, 56, 57, 58, 59, 60, 61, 62, 63, 64, 65, 66, 67, 68, 69, 70, 71, 72, 73, 74, 75, 76, 77, 78, 79, 80, 81] rfl (by decide +kernel)
set_option maxRecDepth 20000 in
theorem gX8_singles_X8_asItIs : GoodIn wsX8_singles (wsV RX8 177 RX8 yX8_asItIs wsX8_asItIs) := goodIn_app (goodIn_of _ (by decide +kernel)) ggX8_singles_X8_asItIs
set_option maxRecDepth 20000 in
theorem ggX8_singles_X8_findHolds : GoodIn wsX8_singles wsX8_findHolds := goodIn_r _ [15, 16, 17, 18, 19, 20, 5, 21, 22, 23, 24, 25, 26, 27, 28, 29, 7, 30, 31, 32, 33, 34, 35, 36, 37, 38, 39, 40, 41, 55, 56, 57, 58, 59, 60, 61, 62, 63, 64, 65, 66, 67, 68, 69, 70, 71, 72, 73, 74, 75, 76, 77, 78, 79, 80, 81] rfl (by decide +kernel)
set_option maxRecDepth 20000 in
theorem gX8_singles_X8_findHolds : GoodIn wsX8_singles (wsV RX8 180 RX8 yX8_findHolds wsX8_findHolds) := goodIn_app (goodIn_of _ (by decide +kernel)) ggX8_singles_X8_findHolds
set_option maxRecDepth 20000 in
theorem ggX8_singles_X8_isWoman : GoodIn wsX8_singles wsX8_isWoman := goodIn_r _ [45, 46, 55, 56, 57, 58, 59, 60, 61, 62, 63, 64, 65, 66, 67, 68, 69, 70, 71, 72, 73, 74, 75, 76, 77, 78, 79, 80, 81] rfl (by decide +kernel)
set_option maxRecDepth 20000 in
theorem gX8_singles_X8_isWoman : GoodIn wsX8_singles (wsV RX8 168 RX8 yX8_isWoman wsX8_isWoman) := goodIn_app (goodIn_of _ (by decide +kernel)) ggX8_singles_X8_isWoman
set_option maxRecDepth 20000 in
theorem ggX8_singles_X8_isMated : GoodIn wsX8_singles wsX8_isMated := goodIn_r _ [50, 7, 51, 52, 53, 5, 54, 16, 34, 35, 36, 37, 30, 31, 32, 33, 38, 39, 40, 41, 55, 56, 57, 58, 59, 60, 61, 62, 63, 64, 65, 66, 67, 68, 69, 70, 71, 72, 73, 74, 75, 76, 77, 78, 79, 80, 81] rfl (by decide +kernel)
set_option maxRecDepth 20000 in
theorem gX8_singles_X8_isMated : GoodIn wsX8_singles (wsV RX8 245 RX8 yX8_isMated wsX8_isMated) := goodIn_app (goodIn_of _ (by decide +kernel)) ggX8_singles_X8_isMated
theorem dX8_singles_0 : decode cX8_singles 0 = .ok (.aload_n 0, 1) := by decide +kernel
theorem dX8_singles_1 : decode cX8_singles 1 = .ok (.invokevirtual 177, 3) := by decide +kernel
theorem dX8_singles_4 : decode cX8_singles 4 = .ok (.aload_n 0, 1) := by decide +kernel
theorem dX8_singles_5 : decode cX8_singles 5 = .ok (.invokevirtual 180, 3) := by decide +kernel
theorem dX8_singles_8 : decode cX8_singles 8 = .ok (.iconst 0, 1) := by decide +kernel
theorem dX8_singles_9 : decode cX8_singles 9 = .ok (.istore_n 1, 1) := by decide +kernel
theorem dX8_singles_10 : decode cX8_singles 10 = .ok (.iconst 0, 1) := by decide +kernel
theorem dX8_singles_11 : decode cX8_singles 11 = .ok (.istore_n 2, 1) := by decide +kernel
theorem dX8_singles_12 : decode cX8_singles 12 = .ok (.iload_n 2, 1) := by decide +kernel
theorem dX8_singles_13 : decode cX8_singles 13 = .ok (.aload_n 0, 1) := by decide +kernel
theorem dX8_singles_14 : decode cX8_singles 14 = .ok (.getfield 80, 3) := by decide +kernel
theorem dX8_singles_17 : decode cX8_singles 17 = .ok (.if_icmp .ge 35, 3) := by decide +kernel
theorem dX8_singles_20 : decode cX8_singles 20 = .ok (.iload_n 1, 1) := by decide +kernel
theorem dX8_singles_21 : decode cX8_singles 21 = .ok (.aload_n 0, 1) := by decide +kernel
theorem dX8_singles_22 : decode cX8_singles 22 = .ok (.iload_n 2, 1) := by decide +kernel
theorem dX8_singles_23 : decode cX8_singles 23 = .ok (.invokevirtual 168, 3) := by decide +kernel
theorem dX8_singles_26 : decode cX8_singles 26 = .ok (.ifCond .eq 17, 3) := by decide +kernel
theorem dX8_singles_29 : decode cX8_singles 29 = .ok (.aload_n 0, 1) := by decide +kernel
theorem dX8_singles_30 : decode cX8_singles 30 = .ok (.iload_n 2, 1) := by decide +kernel
theorem dX8_singles_31 : decode cX8_singles 31 = .ok (.invokevirtual 245, 3) := by decide +kernel
theorem dX8_singles_34 : decode cX8_singles 34 = .ok (.ifCond .ne 9, 3) := by decide +kernel
theorem dX8_singles_37 : decode cX8_singles 37 = .ok (.iconst 1, 1) := by decide +kernel
theorem dX8_singles_38 : decode cX8_singles 38 = .ok (.iload_n 2, 1) := by decide +kernel
theorem dX8_singles_39 : decode cX8_singles 39 = .ok (.ishl, 1) := by decide +kernel
theorem dX8_singles_40 : decode cX8_singles 40 = .ok (.goto 4, 3) := by decide +kernel
theorem dX8_singles_43 : decode cX8_singles 43 = .ok (.iconst 0, 1) := by decide +kernel
theorem dX8_singles_44 : decode cX8_singles 44 = .ok (.ior, 1) := by decide +kernel
theorem dX8_singles_45 : decode cX8_singles 45 = .ok (.istore_n 1, 1) := by decide +kernel
theorem dX8_singles_46 : decode cX8_singles 46 = .ok (.iinc 2 1, 3) := by decide +kernel
theorem dX8_singles_49 : decode cX8_singles 49 = .ok (.goto (-37), 3) := by decide +kernel
theorem dX8_singles_52 : decode cX8_singles 52 = .ok (.iload_n 1, 1) := by decide +kernel
theorem dX8_singles_53 : decode cX8_singles 53 = .ok (.ireturn, 1) := by decide +kernel
set_option maxRecDepth 20000 in
theorem ggX8_matedBy_X8_asItIs : GoodIn wsX8_matedBy wsX8_asItIs := goodIn_r _ [7, 8, 9, 10, 11, 6, 12, 113, 114, 115, 116, 117, 118, 119, 120, 121, 122, 123, 124, 125, 126, 127, 128, 129, 130, 131, 132, 133, 134, 135, 136, 137, 138, 139] rfl (by decide +kernel)
set_option maxRecDepth 20000 in
theorem gX8_matedBy_X8_asItIs : GoodIn wsX8_matedBy (wsV RX8 177 RX8 yX8_asItIs wsX8_asItIs) := goodIn_app (goodIn_of _ (by decide +kernel)) ggX8_matedBy_X8_asItIs
set_option maxRecDepth 20000 in
theorem ggX8_matedBy_X8_findHolds : GoodIn wsX8_matedBy wsX8_findHolds := goodIn_r _ [16, 17, 18, 19, 20, 21, 6, 22, 23, 24, 25, 26, 27, 28, 29, 30, 8, 31, 32, 33, 34, 35, 36, 37, 38, 39, 40, 41, 42, 113, 114, 115, 116, 117, 118, 119, 120, 121, 122, 123, 124, 125, 126, 127, 128, 129, 130, 131, 132, 133, 134, 135, 136, 137, 138, 139] rfl (by decide +kernel)
set_option maxRecDepth 20000 in
theorem gX8_matedBy_X8_findHolds : GoodIn wsX8_matedBy (wsV RX8 180 RX8 yX8_findHolds wsX8_findHolds) := goodIn_app (goodIn_of _ (by decide +kernel)) ggX8_matedBy_X8_findHolds
set_option maxRecDepth 20000 in
theorem ggX8_matedBy_X8_has : GoodIn wsX8_matedBy wsX8_has := goodIn_r _ [45] rfl (by decide +kernel)
set_option maxRecDepth 20000 in
theorem gX8_matedBy_X8_has : GoodIn wsX8_matedBy (va_wsS RX8 251 yX8_has wsX8_has) := goodIn_app (goodIn_of _ (by decide +kernel)) ggX8_matedBy_X8_has
set_option maxRecDepth 20000 in
theorem ggX8_matedBy_X8_isBrought : GoodIn wsX8_matedBy wsX8_isBrought := goodIn_r _ [49, 2, 8, 50, 51, 52, 6, 53, 54, 55, 56, 57, 58, 59, 60, 61, 62, 17, 35, 36, 37, 38, 31, 32, 33, 34, 39, 40, 41, 42, 63, 64, 65, 66, 67, 68, 69, 70, 71, 72, 73, 74, 75, 76, 77, 78, 79, 80, 81, 82, 83, 84, 85, 86, 87, 88, 89, 90, 91, 92, 93, 94, 95, 96, 97, 98, 99, 100, 101, 102, 103, 104, 105, 106, 107, 108, 13, 14, 15, 16, 18, 19, 20, 21, 22, 23, 24, 25, 26, 27, 28, 29, 30, 113, 114, 115, 116, 117, 118, 119, 120, 121, 122, 123, 124, 125, 126, 127, 128, 129, 130, 131, 132, 133, 134, 135, 136, 137, 138, 139] rfl (by decide +kernel)
set_option maxRecDepth 20000 in
theorem gX8_matedBy_X8_isBrought : GoodIn wsX8_matedBy (wsV RX8 254 RX8 yX8_isBrought wsX8_isBrought) := goodIn_app (goodIn_of _ (by decide +kernel)) ggX8_matedBy_X8_isBrought
set_option maxRecDepth 20000 in
theorem ggX8_matedBy_X8_mated : GoodIn wsX8_matedBy wsX8_mated := goodIn_r _ [112, 2, 50, 51, 52, 6, 53, 54, 55, 56, 57, 58, 8, 59, 60, 61, 62, 17, 35, 36, 37, 38, 31, 32, 33, 34, 39, 40, 41, 42, 113, 114, 115, 116, 117, 118, 119, 120, 121, 122, 123, 124, 125, 126, 127, 128, 129, 130, 131, 132, 133, 134, 135, 136, 137, 138, 139] rfl (by decide +kernel)
set_option maxRecDepth 20000 in
theorem gX8_matedBy_X8_mated : GoodIn wsX8_matedBy (wsV RX8 258 RX8 yX8_mated wsX8_mated) := goodIn_app (goodIn_of _ (by decide +kernel)) ggX8_matedBy_X8_mated
theorem dX8_matedBy_0 : decode cX8_matedBy 0 = .ok (.aload_n 0, 1) := by decide +kernel
theorem dX8_matedBy_1 : decode cX8_matedBy 1 = .ok (.invokevirtual 177, 3) := by decide +kernel
theorem dX8_matedBy_4 : decode cX8_matedBy 4 = .ok (.aload_n 0, 1) := by decide +kernel
theorem dX8_matedBy_5 : decode cX8_matedBy 5 = .ok (.invokevirtual 180, 3) := by decide +kernel
theorem dX8_matedBy_8 : decode cX8_matedBy 8 = .ok (.aload_n 0, 1) := by decide +kernel
theorem dX8_matedBy_9 : decode cX8_matedBy 9 = .ok (.iconst 1, 1) := by decide +kernel
theorem dX8_matedBy_10 : decode cX8_matedBy 10 = .ok (.putfield 248, 3) := by decide +kernel
theorem dX8_matedBy_13 : decode cX8_matedBy 13 = .ok (.iconst 0, 1) := by decide +kernel
theorem dX8_matedBy_14 : decode cX8_matedBy 14 = .ok (.istore 4, 2) := by decide +kernel
theorem dX8_matedBy_16 : decode cX8_matedBy 16 = .ok (.iload 4, 2) := by decide +kernel
theorem dX8_matedBy_18 : decode cX8_matedBy 18 = .ok (.aload_n 0, 1) := by decide +kernel
theorem dX8_matedBy_19 : decode cX8_matedBy 19 = .ok (.getfield 80, 3) := by decide +kernel
theorem dX8_matedBy_22 : decode cX8_matedBy 22 = .ok (.if_icmp .ge 59, 3) := by decide +kernel
theorem dX8_matedBy_25 : decode cX8_matedBy 25 = .ok (.iload_n 1, 1) := by decide +kernel
theorem dX8_matedBy_26 : decode cX8_matedBy 26 = .ok (.iload 4, 2) := by decide +kernel
theorem dX8_matedBy_28 : decode cX8_matedBy 28 = .ok (.invokestatic 251, 3) := by decide +kernel
theorem dX8_matedBy_31 : decode cX8_matedBy 31 = .ok (.ifCond .eq 44, 3) := by decide +kernel
theorem dX8_matedBy_34 : decode cX8_matedBy 34 = .ok (.aload_n 0, 1) := by decide +kernel
theorem dX8_matedBy_35 : decode cX8_matedBy 35 = .ok (.dup, 1) := by decide +kernel
theorem dX8_matedBy_36 : decode cX8_matedBy 36 = .ok (.getfield 248, 3) := by decide +kernel
theorem dX8_matedBy_39 : decode cX8_matedBy 39 = .ok (.iload_n 2, 1) := by decide +kernel
theorem dX8_matedBy_40 : decode cX8_matedBy 40 = .ok (.iload 4, 2) := by decide +kernel
theorem dX8_matedBy_42 : decode cX8_matedBy 42 = .ok (.invokestatic 251, 3) := by decide +kernel
theorem dX8_matedBy_45 : decode cX8_matedBy 45 = .ok (.ifCond .eq 7, 3) := by decide +kernel
theorem dX8_matedBy_48 : decode cX8_matedBy 48 = .ok (.iload_n 3, 1) := by decide +kernel
theorem dX8_matedBy_49 : decode cX8_matedBy 49 = .ok (.goto 7, 3) := by decide +kernel
theorem dX8_matedBy_52 : decode cX8_matedBy 52 = .ok (.bipush 10, 2) := by decide +kernel
theorem dX8_matedBy_54 : decode cX8_matedBy 54 = .ok (.iload_n 3, 1) := by decide +kernel
theorem dX8_matedBy_55 : decode cX8_matedBy 55 = .ok (.isub, 1) := by decide +kernel
theorem dX8_matedBy_56 : decode cX8_matedBy 56 = .ok (.imul, 1) := by decide +kernel
theorem dX8_matedBy_57 : decode cX8_matedBy 57 = .ok (.putfield 248, 3) := by decide +kernel
theorem dX8_matedBy_60 : decode cX8_matedBy 60 = .ok (.iload_n 2, 1) := by decide +kernel
theorem dX8_matedBy_61 : decode cX8_matedBy 61 = .ok (.iload 4, 2) := by decide +kernel
theorem dX8_matedBy_63 : decode cX8_matedBy 63 = .ok (.invokestatic 251, 3) := by decide +kernel
theorem dX8_matedBy_66 : decode cX8_matedBy 66 = .ok (.ifCond .eq 9, 3) := by decide +kernel
theorem dX8_matedBy_69 : decode cX8_matedBy 69 = .ok (.aload_n 0, 1) := by decide +kernel
theorem dX8_matedBy_70 : decode cX8_matedBy 70 = .ok (.iload 4, 2) := by decide +kernel
theorem dX8_matedBy_72 : decode cX8_matedBy 72 = .ok (.invokevirtual 254, 3) := by decide +kernel
theorem dX8_matedBy_75 : decode cX8_matedBy 75 = .ok (.iinc 4 1, 3) := by decide +kernel
theorem dX8_matedBy_78 : decode cX8_matedBy 78 = .ok (.goto (-62), 3) := by decide +kernel
theorem dX8_matedBy_81 : decode cX8_matedBy 81 = .ok (.aload_n 0, 1) := by decide +kernel
theorem dX8_matedBy_82 : decode cX8_matedBy 82 = .ok (.invokevirtual 258, 3) := by decide +kernel
theorem dX8_matedBy_85 : decode cX8_matedBy 85 = .ok (.ireturn, 1) := by decide +kernel
set_option maxRecDepth 20000 in
theorem ggX8_touts_X8_in : GoodIn wsX8_touts wsX8_in := goodIn_r _ [6] rfl (by decide +kernel)
set_option maxRecDepth 20000 in
theorem gX8_touts_X8_in : GoodIn wsX8_touts (va_wsS RX8 83 yX8_in wsX8_in) := goodIn_app (goodIn_of _ (by decide +kernel)) ggX8_touts_X8_in
set_option maxRecDepth 20000 in
theorem ggX8_touts_X8_singles : GoodIn wsX8_touts wsX8_singles := goodIn_r _ [10, 1, 11, 12, 13, 5, 14, 15, 16, 17, 18, 19, 20, 21, 22, 23, 24, 25, 26, 27, 28, 29, 30, 31, 32, 33, 34, 35, 36, 37, 38, 39, 40, 41, 42, 43, 44, 45, 46, 47, 48, 49, 50, 51, 52, 53, 54, 55, 56, 57, 58, 59, 60, 61, 62, 124, 125, 126, 127, 128, 129, 130, 131, 132, 133, 134, 135, 136, 137, 138, 139, 140, 141, 142, 143, 144, 145, 146, 147, 148, 149, 150] rfl (by decide +kernel)
set_option maxRecDepth 20000 in
theorem gX8_touts_X8_singles : GoodIn wsX8_touts (wsV RX8 261 RX8 yX8_singles wsX8_singles) := goodIn_app (goodIn_of _ (by decide +kernel)) ggX8_touts_X8_singles
set_option maxRecDepth 20000 in
theorem ggX8_touts_X8_has : GoodIn wsX8_touts wsX8_has := goodIn_r _ [65] rfl (by decide +kernel)
set_option maxRecDepth 20000 in
theorem gX8_touts_X8_has : GoodIn wsX8_touts (va_wsS RX8 251 yX8_has wsX8_has) := goodIn_app (goodIn_of _ (by decide +kernel)) ggX8_touts_X8_has
set_option maxRecDepth 20000 in
theorem ggX8_touts_X8_matedBy : GoodIn wsX8_touts wsX8_matedBy := goodIn_r _ [69, 2, 1, 11, 12, 13, 5, 14, 15, 16, 17, 18, 19, 20, 21, 22, 23, 24, 25, 26, 27, 28, 29, 30, 31, 32, 33, 34, 35, 36, 37, 38, 39, 40, 41, 42, 43, 44, 45, 46, 47, 48, 49, 63, 64, 65, 70, 71, 72, 73, 50, 51, 52, 53, 54, 55, 56, 57, 58, 59, 60, 61, 62, 74, 75, 76, 77, 78, 79, 80, 81, 82, 83, 84, 85, 86, 87, 88, 89, 90, 91, 92, 93, 94, 95, 96, 97, 98, 99, 100, 101, 102, 103, 104, 105, 106, 107, 108, 109, 110, 111, 112, 113, 114, 115, 116, 117, 118, 119, 120, 121, 122, 123, 124, 125, 126, 127, 128, 129, 130, 131, 132, 133, 134, 135, 136, 137, 138, 139, 140, 141, 142, 143, 144, 145, 146, 147, 148, 149, 150] rfl (by decide +kernel)
set_option maxRecDepth 20000 in
theorem gX8_touts_X8_matedBy : GoodIn wsX8_touts (wsV RX8 264 RX8 yX8_matedBy wsX8_matedBy) := goodIn_app (goodIn_of _ (by decide +kernel)) ggX8_touts_X8_matedBy
theorem dX8_touts_0 : decode cX8_touts 0 = .ok (.iload_n 1, 1) := by decide +kernel
theorem dX8_touts_1 : decode cX8_touts 1 = .ok (.iconst 0, 1) := by decide +kernel
theorem dX8_touts_2 : decode cX8_touts 2 = .ok (.bipush 8, 2) := by decide +kernel
theorem dX8_touts_4 : decode cX8_touts 4 = .ok (.invokestatic 83, 3) := by decide +kernel
theorem dX8_touts_7 : decode cX8_touts 7 = .ok (.ifCond .eq 22, 3) := by decide +kernel
theorem dX8_touts_10 : decode cX8_touts 10 = .ok (.iload_n 2, 1) := by decide +kernel
theorem dX8_touts_11 : decode cX8_touts 11 = .ok (.iconst 0, 1) := by decide +kernel
theorem dX8_touts_12 : decode cX8_touts 12 = .ok (.bipush 10, 2) := by decide +kernel
theorem dX8_touts_14 : decode cX8_touts 14 = .ok (.invokestatic 83, 3) := by decide +kernel
theorem dX8_touts_17 : decode cX8_touts 17 = .ok (.ifCond .eq 12, 3) := by decide +kernel
theorem dX8_touts_20 : decode cX8_touts 20 = .ok (.iload_n 3, 1) := by decide +kernel
theorem dX8_touts_21 : decode cX8_touts 21 = .ok (.iconst 0, 1) := by decide +kernel
theorem dX8_touts_22 : decode cX8_touts 22 = .ok (.iconst 1, 1) := by decide +kernel
theorem dX8_touts_23 : decode cX8_touts 23 = .ok (.invokestatic 83, 3) := by decide +kernel
theorem dX8_touts_26 : decode cX8_touts 26 = .ok (.ifCond .ne 5, 3) := by decide +kernel
theorem dX8_touts_29 : decode cX8_touts 29 = .ok (.iconst (-1), 1) := by decide +kernel
theorem dX8_touts_30 : decode cX8_touts 30 = .ok (.ireturn, 1) := by decide +kernel
theorem dX8_touts_31 : decode cX8_touts 31 = .ok (.aload_n 0, 1) := by decide +kernel
theorem dX8_touts_32 : decode cX8_touts 32 = .ok (.invokevirtual 261, 3) := by decide +kernel
theorem dX8_touts_35 : decode cX8_touts 35 = .ok (.istore 4, 2) := by decide +kernel
theorem dX8_touts_37 : decode cX8_touts 37 = .ok (.iconst 1, 1) := by decide +kernel
theorem dX8_touts_38 : decode cX8_touts 38 = .ok (.istore 5, 2) := by decide +kernel
theorem dX8_touts_40 : decode cX8_touts 40 = .ok (.iconst 0, 1) := by decide +kernel
theorem dX8_touts_41 : decode cX8_touts 41 = .ok (.istore 6, 2) := by decide +kernel
theorem dX8_touts_43 : decode cX8_touts 43 = .ok (.iload 6, 2) := by decide +kernel
theorem dX8_touts_45 : decode cX8_touts 45 = .ok (.aload_n 0, 1) := by decide +kernel
theorem dX8_touts_46 : decode cX8_touts 46 = .ok (.getfield 80, 3) := by decide +kernel
theorem dX8_touts_49 : decode cX8_touts 49 = .ok (.if_icmp .ge 30, 3) := by decide +kernel
theorem dX8_touts_52 : decode cX8_touts 52 = .ok (.iload 5, 2) := by decide +kernel
theorem dX8_touts_54 : decode cX8_touts 54 = .ok (.iload 4, 2) := by decide +kernel
theorem dX8_touts_56 : decode cX8_touts 56 = .ok (.iload 6, 2) := by decide +kernel
theorem dX8_touts_58 : decode cX8_touts 58 = .ok (.invokestatic 251, 3) := by decide +kernel
theorem dX8_touts_61 : decode cX8_touts 61 = .ok (.ifCond .eq 8, 3) := by decide +kernel
theorem dX8_touts_64 : decode cX8_touts 64 = .ok (.bipush 10, 2) := by decide +kernel
theorem dX8_touts_66 : decode cX8_touts 66 = .ok (.goto 4, 3) := by decide +kernel
theorem dX8_touts_69 : decode cX8_touts 69 = .ok (.iconst 1, 1) := by decide +kernel
theorem dX8_touts_70 : decode cX8_touts 70 = .ok (.imul, 1) := by decide +kernel
theorem dX8_touts_71 : decode cX8_touts 71 = .ok (.istore 5, 2) := by decide +kernel
theorem dX8_touts_73 : decode cX8_touts 73 = .ok (.iinc 6 1, 3) := by decide +kernel
theorem dX8_touts_76 : decode cX8_touts 76 = .ok (.goto (-33), 3) := by decide +kernel
theorem dX8_touts_79 : decode cX8_touts 79 = .ok (.iconst 0, 1) := by decide +kernel
theorem dX8_touts_80 : decode cX8_touts 80 = .ok (.istore 6, 2) := by decide +kernel
theorem dX8_touts_82 : decode cX8_touts 82 = .ok (.iconst 0, 1) := by decide +kernel
theorem dX8_touts_83 : decode cX8_touts 83 = .ok (.istore 7, 2) := by decide +kernel
theorem dX8_touts_85 : decode cX8_touts 85 = .ok (.iload 7, 2) := by decide +kernel
theorem dX8_touts_87 : decode cX8_touts 87 = .ok (.iconst 1, 1) := by decide +kernel
theorem dX8_touts_88 : decode cX8_touts 88 = .ok (.aload_n 0, 1) := by decide +kernel
theorem dX8_touts_89 : decode cX8_touts 89 = .ok (.getfield 80, 3) := by decide +kernel
theorem dX8_touts_92 : decode cX8_touts 92 = .ok (.ishl, 1) := by decide +kernel
theorem dX8_touts_93 : decode cX8_touts 93 = .ok (.if_icmp .ge 49, 3) := by decide +kernel
theorem dX8_touts_96 : decode cX8_touts 96 = .ok (.iload 7, 2) := by decide +kernel
theorem dX8_touts_98 : decode cX8_touts 98 = .ok (.iload 4, 2) := by decide +kernel
theorem dX8_touts_100 : decode cX8_touts 100 = .ok (.iconst (-1), 1) := by decide +kernel
theorem dX8_touts_101 : decode cX8_touts 101 = .ok (.ixor, 1) := by decide +kernel
theorem dX8_touts_102 : decode cX8_touts 102 = .ok (.iand, 1) := by decide +kernel
theorem dX8_touts_103 : decode cX8_touts 103 = .ok (.ifCond .ne 33, 3) := by decide +kernel
theorem dX8_touts_106 : decode cX8_touts 106 = .ok (.aload_n 0, 1) := by decide +kernel
theorem dX8_touts_107 : decode cX8_touts 107 = .ok (.iload 4, 2) := by decide +kernel
theorem dX8_touts_109 : decode cX8_touts 109 = .ok (.iload 7, 2) := by decide +kernel
theorem dX8_touts_111 : decode cX8_touts 111 = .ok (.iload_n 2, 1) := by decide +kernel
theorem dX8_touts_112 : decode cX8_touts 112 = .ok (.invokevirtual 264, 3) := by decide +kernel
theorem dX8_touts_115 : decode cX8_touts 115 = .ok (.istore 8, 2) := by decide +kernel
theorem dX8_touts_117 : decode cX8_touts 117 = .ok (.iload 6, 2) := by decide +kernel
theorem dX8_touts_119 : decode cX8_touts 119 = .ok (.iload 8, 2) := by decide +kernel
theorem dX8_touts_121 : decode cX8_touts 121 = .ok (.iload_n 1, 1) := by decide +kernel
theorem dX8_touts_122 : decode cX8_touts 122 = .ok (.if_icmp .lt 10, 3) := by decide +kernel
theorem dX8_touts_125 : decode cX8_touts 125 = .ok (.aload_n 0, 1) := by decide +kernel
theorem dX8_touts_126 : decode cX8_touts 126 = .ok (.getfield 248, 3) := by decide +kernel
theorem dX8_touts_129 : decode cX8_touts 129 = .ok (.goto 4, 3) := by decide +kernel
theorem dX8_touts_132 : decode cX8_touts 132 = .ok (.iconst 0, 1) := by decide +kernel
theorem dX8_touts_133 : decode cX8_touts 133 = .ok (.iadd, 1) := by decide +kernel
theorem dX8_touts_134 : decode cX8_touts 134 = .ok (.istore 6, 2) := by decide +kernel
theorem dX8_touts_136 : decode cX8_touts 136 = .ok (.iinc 7 1, 3) := by decide +kernel
theorem dX8_touts_139 : decode cX8_touts 139 = .ok (.goto (-54), 3) := by decide +kernel
theorem dX8_touts_142 : decode cX8_touts 142 = .ok (.iload 6, 2) := by decide +kernel
theorem dX8_touts_144 : decode cX8_touts 144 = .ok (.istore 7, 2) := by decide +kernel
theorem dX8_touts_146 : decode cX8_touts 146 = .ok (.iload 5, 2) := by decide +kernel
theorem dX8_touts_148 : decode cX8_touts 148 = .ok (.istore 8, 2) := by decide +kernel
theorem dX8_touts_150 : decode cX8_touts 150 = .ok (.iload 8, 2) := by decide +kernel
theorem dX8_touts_152 : decode cX8_touts 152 = .ok (.ifCond .le 21, 3) := by decide +kernel
theorem dX8_touts_155 : decode cX8_touts 155 = .ok (.iload 7, 2) := by decide +kernel
theorem dX8_touts_157 : decode cX8_touts 157 = .ok (.iload 8, 2) := by decide +kernel
theorem dX8_touts_159 : decode cX8_touts 159 = .ok (.irem, 1) := by decide +kernel
theorem dX8_touts_160 : decode cX8_touts 160 = .ok (.istore 9, 2) := by decide +kernel
theorem dX8_touts_162 : decode cX8_touts 162 = .ok (.iload 8, 2) := by decide +kernel
theorem dX8_touts_164 : decode cX8_touts 164 = .ok (.istore 7, 2) := by decide +kernel
theorem dX8_touts_166 : decode cX8_touts 166 = .ok (.iload 9, 2) := by decide +kernel
theorem dX8_touts_168 : decode cX8_touts 168 = .ok (.istore 8, 2) := by decide +kernel
theorem dX8_touts_170 : decode cX8_touts 170 = .ok (.goto (-20), 3) := by decide +kernel
theorem dX8_touts_173 : decode cX8_touts 173 = .ok (.iload_n 3, 1) := by decide +kernel
theorem dX8_touts_174 : decode cX8_touts 174 = .ok (.ifCond .ne 8, 3) := by decide +kernel
theorem dX8_touts_177 : decode cX8_touts 177 = .ok (.iload 6, 2) := by decide +kernel
theorem dX8_touts_179 : decode cX8_touts 179 = .ok (.goto 5, 3) := by decide +kernel
theorem dX8_touts_182 : decode cX8_touts 182 = .ok (.iload 5, 2) := by decide +kernel
theorem dX8_touts_184 : decode cX8_touts 184 = .ok (.iload 7, 2) := by decide +kernel
theorem dX8_touts_186 : decode cX8_touts 186 = .ok (.idiv, 1) := by decide +kernel
theorem dX8_touts_187 : decode cX8_touts 187 = .ok (.ireturn, 1) := by decide +kernel
set_option maxRecDepth 20000 in
theorem ggX8_gaol_X8_in : GoodIn wsX8_gaol wsX8_in := goodIn_r _ [10] rfl (by decide +kernel)
set_option maxRecDepth 20000 in
theorem gX8_gaol_X8_in : GoodIn wsX8_gaol (va_wsS RX8 83 yX8_in wsX8_in) := goodIn_app (goodIn_of _ (by decide +kernel)) ggX8_gaol_X8_in
set_option maxRecDepth 20000 in
theorem ggX8_gaol_X8_asItIs : GoodIn wsX8_gaol wsX8_asItIs := goodIn_r _ [14, 1, 15, 16, 17, 9, 18, 116, 117, 118, 119, 120, 121, 122, 123, 124, 125, 126, 127, 128, 129, 130, 131, 132, 133, 134, 135, 136, 137, 138, 139, 140, 141, 142] rfl (by decide +kernel)
set_option maxRecDepth 20000 in
theorem gX8_gaol_X8_asItIs : GoodIn wsX8_gaol (wsV RX8 177 RX8 yX8_asItIs wsX8_asItIs) := goodIn_app (goodIn_of _ (by decide +kernel)) ggX8_gaol_X8_asItIs
set_option maxRecDepth 20000 in
theorem ggX8_gaol_X8_canWed : GoodIn wsX8_gaol wsX8_canWed := goodIn_r _ [22, 23, 24, 25, 26, 9, 27, 28, 29, 30, 31, 32, 33, 34, 35, 36, 37, 38, 39, 40, 41, 42, 43, 44, 45, 46, 47, 48, 1, 49, 50, 51, 52, 53, 116, 117, 118, 119, 120, 121, 122, 123, 124, 125, 126, 127, 128, 129, 130, 131, 132, 133, 134, 135, 136, 137, 138, 139, 140, 141, 142] rfl (by decide +kernel)
set_option maxRecDepth 20000 in
theorem gX8_gaol_X8_canWed : GoodIn wsX8_gaol (wsV RX8 224 RX8 yX8_canWed wsX8_canWed) := goodIn_app (goodIn_of _ (by decide +kernel)) ggX8_gaol_X8_canWed
set_option maxRecDepth 20000 in
theorem ggX8_gaol_X8_weds : GoodIn wsX8_gaol wsX8_weds := goodIn_r _ [57, 23, 58, 59, 60, 9, 61, 1, 28, 29, 30, 31, 32, 33, 34, 35, 36, 37, 38, 39, 40, 62, 63, 64, 65, 66, 67, 68, 69, 116, 117, 118, 119, 120, 121, 122, 123, 124, 125, 126, 127, 128, 129, 130, 131, 132, 133, 134, 135, 136, 137, 138, 139, 140, 141, 142] rfl (by decide +kernel)
set_option maxRecDepth 20000 in
theorem gX8_gaol_X8_weds : GoodIn wsX8_gaol (wsV RX8 230 RX8 yX8_weds wsX8_weds) := goodIn_app (goodIn_of _ (by decide +kernel)) ggX8_gaol_X8_weds
set_option maxRecDepth 20000 in
theorem ggX8_gaol_X8_canLeave : GoodIn wsX8_gaol wsX8_canLeave := goodIn_r _ [73, 23, 45, 46, 47, 9, 48, 1, 49, 74, 75, 76, 77, 78, 79, 80, 81, 82, 83, 84, 85, 86, 87, 88, 89, 116, 117, 118, 119, 120, 121, 122, 123, 124, 125, 126, 127, 128, 129, 130, 131, 132, 133, 134, 135, 136, 137, 138, 139, 140, 141, 142] rfl (by decide +kernel)
set_option maxRecDepth 20000 in
theorem gX8_gaol_X8_canLeave : GoodIn wsX8_gaol (wsV RX8 233 RX8 yX8_canLeave wsX8_canLeave) := goodIn_app (goodIn_of _ (by decide +kernel)) ggX8_gaol_X8_canLeave
set_option maxRecDepth 20000 in
theorem ggX8_gaol_X8_begins : GoodIn wsX8_gaol wsX8_begins := goodIn_r _ [65, 1, 116, 117, 118, 119, 120, 121, 122, 123, 124, 125, 126, 127, 128, 129, 130, 131, 132, 133, 134, 135, 136, 137, 138, 139, 140, 141, 142] rfl (by decide +kernel)
set_option maxRecDepth 20000 in
theorem gX8_gaol_X8_begins : GoodIn wsX8_gaol (wsV RX8 217 RX8 yX8_begins wsX8_begins) := goodIn_app (goodIn_of _ (by decide +kernel)) ggX8_gaol_X8_begins
set_option maxRecDepth 20000 in
theorem ggX8_gaol_X8_findHolds : GoodIn wsX8_gaol wsX8_findHolds := goodIn_r _ [93, 94, 95, 96, 97, 98, 9, 99, 100, 101, 102, 103, 82, 83, 84, 85, 1, 86, 87, 88, 89, 104, 105, 106, 107, 108, 109, 110, 111, 116, 117, 118, 119, 120, 121, 122, 123, 124, 125, 126, 127, 128, 129, 130, 131, 132, 133, 134, 135, 136, 137, 138, 139, 140, 141, 142] rfl (by decide +kernel)
set_option maxRecDepth 20000 in
theorem gX8_gaol_X8_findHolds : GoodIn wsX8_gaol (wsV RX8 180 RX8 yX8_findHolds wsX8_findHolds) := goodIn_app (goodIn_of _ (by decide +kernel)) ggX8_gaol_X8_findHolds
set_option maxRecDepth 20000 in
theorem ggX8_gaol_X8_manyHold : GoodIn wsX8_gaol wsX8_manyHold := goodIn_r _ [115, 94, 116, 117, 118, 119, 120, 121, 122, 123, 124, 125, 126, 127, 128, 129, 130, 131, 132, 133, 134, 135, 136, 137, 138, 139, 140, 141, 142] rfl (by decide +kernel)
set_option maxRecDepth 20000 in
theorem gX8_gaol_X8_manyHold : GoodIn wsX8_gaol (wsV RX8 239 RX8 yX8_manyHold wsX8_manyHold) := goodIn_app (goodIn_of _ (by decide +kernel)) ggX8_gaol_X8_manyHold
theorem dX8_gaol_0 : decode cX8_gaol 0 = .ok (.iload_n 1, 1) := by decide +kernel
theorem dX8_gaol_1 : decode cX8_gaol 1 = .ok (.iconst 0, 1) := by decide +kernel
theorem dX8_gaol_2 : decode cX8_gaol 2 = .ok (.sipush 9999, 3) := by decide +kernel
theorem dX8_gaol_5 : decode cX8_gaol 5 = .ok (.invokestatic 83, 3) := by decide +kernel
theorem dX8_gaol_8 : decode cX8_gaol 8 = .ok (.ifCond .eq 22, 3) := by decide +kernel
theorem dX8_gaol_11 : decode cX8_gaol 11 = .ok (.iload_n 2, 1) := by decide +kernel
theorem dX8_gaol_12 : decode cX8_gaol 12 = .ok (.iconst 1, 1) := by decide +kernel
theorem dX8_gaol_13 : decode cX8_gaol 13 = .ok (.bipush 40, 2) := by decide +kernel
theorem dX8_gaol_15 : decode cX8_gaol 15 = .ok (.invokestatic 83, 3) := by decide +kernel
theorem dX8_gaol_18 : decode cX8_gaol 18 = .ok (.ifCond .eq 12, 3) := by decide +kernel
theorem dX8_gaol_21 : decode cX8_gaol 21 = .ok (.iload_n 3, 1) := by decide +kernel
theorem dX8_gaol_22 : decode cX8_gaol 22 = .ok (.iconst 0, 1) := by decide +kernel
theorem dX8_gaol_23 : decode cX8_gaol 23 = .ok (.iconst 1, 1) := by decide +kernel
theorem dX8_gaol_24 : decode cX8_gaol 24 = .ok (.invokestatic 83, 3) := by decide +kernel
theorem dX8_gaol_27 : decode cX8_gaol 27 = .ok (.ifCond .ne 5, 3) := by decide +kernel
theorem dX8_gaol_30 : decode cX8_gaol 30 = .ok (.iconst (-1), 1) := by decide +kernel
theorem dX8_gaol_31 : decode cX8_gaol 31 = .ok (.ireturn, 1) := by decide +kernel
theorem dX8_gaol_32 : decode cX8_gaol 32 = .ok (.aload_n 0, 1) := by decide +kernel
theorem dX8_gaol_33 : decode cX8_gaol 33 = .ok (.invokevirtual 177, 3) := by decide +kernel
theorem dX8_gaol_36 : decode cX8_gaol 36 = .ok (.aload_n 0, 1) := by decide +kernel
theorem dX8_gaol_37 : decode cX8_gaol 37 = .ok (.getfield 43, 3) := by decide +kernel
theorem dX8_gaol_40 : decode cX8_gaol 40 = .ok (.bipush 9, 2) := by decide +kernel
theorem dX8_gaol_42 : decode cX8_gaol 42 = .ok (.iaload, 1) := by decide +kernel
theorem dX8_gaol_43 : decode cX8_gaol 43 = .ok (.aload_n 0, 1) := by decide +kernel
theorem dX8_gaol_44 : decode cX8_gaol 44 = .ok (.getfield 43, 3) := by decide +kernel
theorem dX8_gaol_47 : decode cX8_gaol 47 = .ok (.bipush 10, 2) := by decide +kernel
theorem dX8_gaol_49 : decode cX8_gaol 49 = .ok (.iaload, 1) := by decide +kernel
theorem dX8_gaol_50 : decode cX8_gaol 50 = .ok (.iadd, 1) := by decide +kernel
theorem dX8_gaol_51 : decode cX8_gaol 51 = .ok (.aload_n 0, 1) := by decide +kernel
theorem dX8_gaol_52 : decode cX8_gaol 52 = .ok (.getfield 43, 3) := by decide +kernel
theorem dX8_gaol_55 : decode cX8_gaol 55 = .ok (.bipush 11, 2) := by decide +kernel
theorem dX8_gaol_57 : decode cX8_gaol 57 = .ok (.iaload, 1) := by decide +kernel
theorem dX8_gaol_58 : decode cX8_gaol 58 = .ok (.iadd, 1) := by decide +kernel
theorem dX8_gaol_59 : decode cX8_gaol 59 = .ok (.istore 4, 2) := by decide +kernel
theorem dX8_gaol_61 : decode cX8_gaol 61 = .ok (.iconst 0, 1) := by decide +kernel
theorem dX8_gaol_62 : decode cX8_gaol 62 = .ok (.istore 5, 2) := by decide +kernel
theorem dX8_gaol_64 : decode cX8_gaol 64 = .ok (.iload 5, 2) := by decide +kernel
theorem dX8_gaol_66 : decode cX8_gaol 66 = .ok (.iload_n 2, 1) := by decide +kernel
theorem dX8_gaol_67 : decode cX8_gaol 67 = .ok (.if_icmp .ge 174, 3) := by decide +kernel
theorem dX8_gaol_70 : decode cX8_gaol 70 = .ok (.ldc2_w 268, 3) := by decide +kernel
theorem dX8_gaol_73 : decode cX8_gaol 73 = .ok (.iload_n 1, 1) := by decide +kernel
theorem dX8_gaol_74 : decode cX8_gaol 74 = .ok (.i2l, 1) := by decide +kernel
theorem dX8_gaol_75 : decode cX8_gaol 75 = .ok (.lmul, 1) := by decide +kernel
theorem dX8_gaol_76 : decode cX8_gaol 76 = .ok (.ldc2_w 270, 3) := by decide +kernel
theorem dX8_gaol_79 : decode cX8_gaol 79 = .ok (.iload 5, 2) := by decide +kernel
theorem dX8_gaol_81 : decode cX8_gaol 81 = .ok (.i2l, 1) := by decide +kernel
theorem dX8_gaol_82 : decode cX8_gaol 82 = .ok (.lmul, 1) := by decide +kernel
theorem dX8_gaol_83 : decode cX8_gaol 83 = .ok (.ladd, 1) := by decide +kernel
theorem dX8_gaol_84 : decode cX8_gaol 84 = .ok (.lconst 1, 1) := by decide +kernel
theorem dX8_gaol_85 : decode cX8_gaol 85 = .ok (.ladd, 1) := by decide +kernel
theorem dX8_gaol_86 : decode cX8_gaol 86 = .ok (.lstore 6, 2) := by decide +kernel
theorem dX8_gaol_88 : decode cX8_gaol 88 = .ok (.lload 6, 2) := by decide +kernel
theorem dX8_gaol_90 : decode cX8_gaol 90 = .ok (.lload 6, 2) := by decide +kernel
theorem dX8_gaol_92 : decode cX8_gaol 92 = .ok (.lmul, 1) := by decide +kernel
theorem dX8_gaol_93 : decode cX8_gaol 93 = .ok (.ldc2_w 272, 3) := by decide +kernel
theorem dX8_gaol_96 : decode cX8_gaol 96 = .ok (.lrem, 1) := by decide +kernel
theorem dX8_gaol_97 : decode cX8_gaol 97 = .ok (.l2i, 1) := by decide +kernel
theorem dX8_gaol_98 : decode cX8_gaol 98 = .ok (.istore 8, 2) := by decide +kernel
theorem dX8_gaol_100 : decode cX8_gaol 100 = .ok (.iload 8, 2) := by decide +kernel
theorem dX8_gaol_102 : decode cX8_gaol 102 = .ok (.aload_n 0, 1) := by decide +kernel
theorem dX8_gaol_103 : decode cX8_gaol 103 = .ok (.getfield 87, 3) := by decide +kernel
theorem dX8_gaol_106 : decode cX8_gaol 106 = .ok (.irem, 1) := by decide +kernel
theorem dX8_gaol_107 : decode cX8_gaol 107 = .ok (.istore 9, 2) := by decide +kernel
theorem dX8_gaol_109 : decode cX8_gaol 109 = .ok (.iload 8, 2) := by decide +kernel
theorem dX8_gaol_111 : decode cX8_gaol 111 = .ok (.iconst 4, 1) := by decide +kernel
theorem dX8_gaol_112 : decode cX8_gaol 112 = .ok (.idiv, 1) := by decide +kernel
theorem dX8_gaol_113 : decode cX8_gaol 113 = .ok (.aload_n 0, 1) := by decide +kernel
theorem dX8_gaol_114 : decode cX8_gaol 114 = .ok (.getfield 80, 3) := by decide +kernel
theorem dX8_gaol_117 : decode cX8_gaol 117 = .ok (.irem, 1) := by decide +kernel
theorem dX8_gaol_118 : decode cX8_gaol 118 = .ok (.istore 10, 2) := by decide +kernel
theorem dX8_gaol_120 : decode cX8_gaol 120 = .ok (.iload 8, 2) := by decide +kernel
theorem dX8_gaol_122 : decode cX8_gaol 122 = .ok (.bipush 32, 2) := by decide +kernel
theorem dX8_gaol_124 : decode cX8_gaol 124 = .ok (.idiv, 1) := by decide +kernel
theorem dX8_gaol_125 : decode cX8_gaol 125 = .ok (.aload_n 0, 1) := by decide +kernel
theorem dX8_gaol_126 : decode cX8_gaol 126 = .ok (.getfield 80, 3) := by decide +kernel
theorem dX8_gaol_129 : decode cX8_gaol 129 = .ok (.irem, 1) := by decide +kernel
theorem dX8_gaol_130 : decode cX8_gaol 130 = .ok (.istore 11, 2) := by decide +kernel
theorem dX8_gaol_132 : decode cX8_gaol 132 = .ok (.aload_n 0, 1) := by decide +kernel
theorem dX8_gaol_133 : decode cX8_gaol 133 = .ok (.getfield 43, 3) := by decide +kernel
theorem dX8_gaol_136 : decode cX8_gaol 136 = .ok (.bipush 12, 2) := by decide +kernel
theorem dX8_gaol_138 : decode cX8_gaol 138 = .ok (.iload 9, 2) := by decide +kernel
theorem dX8_gaol_140 : decode cX8_gaol 140 = .ok (.iadd, 1) := by decide +kernel
theorem dX8_gaol_141 : decode cX8_gaol 141 = .ok (.iaload, 1) := by decide +kernel
theorem dX8_gaol_142 : decode cX8_gaol 142 = .ok (.bipush 8, 2) := by decide +kernel
theorem dX8_gaol_144 : decode cX8_gaol 144 = .ok (.if_icmp .ge 7, 3) := by decide +kernel
theorem dX8_gaol_147 : decode cX8_gaol 147 = .ok (.iconst 1, 1) := by decide +kernel
theorem dX8_gaol_148 : decode cX8_gaol 148 = .ok (.goto 4, 3) := by decide +kernel
theorem dX8_gaol_151 : decode cX8_gaol 151 = .ok (.iconst 0, 1) := by decide +kernel
theorem dX8_gaol_152 : decode cX8_gaol 152 = .ok (.istore 12, 2) := by decide +kernel
theorem dX8_gaol_154 : decode cX8_gaol 154 = .ok (.iload 10, 2) := by decide +kernel
theorem dX8_gaol_156 : decode cX8_gaol 156 = .ok (.iload 11, 2) := by decide +kernel
theorem dX8_gaol_158 : decode cX8_gaol 158 = .ok (.if_icmp .eq 34, 3) := by decide +kernel
theorem dX8_gaol_161 : decode cX8_gaol 161 = .ok (.iload 12, 2) := by decide +kernel
theorem dX8_gaol_163 : decode cX8_gaol 163 = .ok (.ifCond .eq 29, 3) := by decide +kernel
theorem dX8_gaol_166 : decode cX8_gaol 166 = .ok (.aload_n 0, 1) := by decide +kernel
theorem dX8_gaol_167 : decode cX8_gaol 167 = .ok (.iload 9, 2) := by decide +kernel
theorem dX8_gaol_169 : decode cX8_gaol 169 = .ok (.iload 10, 2) := by decide +kernel
theorem dX8_gaol_171 : decode cX8_gaol 171 = .ok (.iload 11, 2) := by decide +kernel
theorem dX8_gaol_173 : decode cX8_gaol 173 = .ok (.invokevirtual 224, 3) := by decide +kernel
theorem dX8_gaol_176 : decode cX8_gaol 176 = .ok (.ifCond .eq 16, 3) := by decide +kernel
theorem dX8_gaol_179 : decode cX8_gaol 179 = .ok (.aload_n 0, 1) := by decide +kernel
theorem dX8_gaol_180 : decode cX8_gaol 180 = .ok (.iload 9, 2) := by decide +kernel
theorem dX8_gaol_182 : decode cX8_gaol 182 = .ok (.iload 10, 2) := by decide +kernel
theorem dX8_gaol_184 : decode cX8_gaol 184 = .ok (.iload 11, 2) := by decide +kernel
theorem dX8_gaol_186 : decode cX8_gaol 186 = .ok (.invokevirtual 230, 3) := by decide +kernel
theorem dX8_gaol_189 : decode cX8_gaol 189 = .ok (.goto 36, 3) := by decide +kernel
theorem dX8_gaol_192 : decode cX8_gaol 192 = .ok (.iload 8, 2) := by decide +kernel
theorem dX8_gaol_194 : decode cX8_gaol 194 = .ok (.sipush 256, 3) := by decide +kernel
theorem dX8_gaol_197 : decode cX8_gaol 197 = .ok (.idiv, 1) := by decide +kernel
theorem dX8_gaol_198 : decode cX8_gaol 198 = .ok (.iconst 2, 1) := by decide +kernel
theorem dX8_gaol_199 : decode cX8_gaol 199 = .ok (.irem, 1) := by decide +kernel
theorem dX8_gaol_200 : decode cX8_gaol 200 = .ok (.ifCond .ne 25, 3) := by decide +kernel
theorem dX8_gaol_203 : decode cX8_gaol 203 = .ok (.iload 12, 2) := by decide +kernel
theorem dX8_gaol_205 : decode cX8_gaol 205 = .ok (.ifCond .eq 20, 3) := by decide +kernel
theorem dX8_gaol_208 : decode cX8_gaol 208 = .ok (.aload_n 0, 1) := by decide +kernel
theorem dX8_gaol_209 : decode cX8_gaol 209 = .ok (.iload 9, 2) := by decide +kernel
theorem dX8_gaol_211 : decode cX8_gaol 211 = .ok (.invokevirtual 233, 3) := by decide +kernel
theorem dX8_gaol_214 : decode cX8_gaol 214 = .ok (.ifCond .eq 11, 3) := by decide +kernel
theorem dX8_gaol_217 : decode cX8_gaol 217 = .ok (.aload_n 0, 1) := by decide +kernel
theorem dX8_gaol_218 : decode cX8_gaol 218 = .ok (.iload 9, 2) := by decide +kernel
theorem dX8_gaol_220 : decode cX8_gaol 220 = .ok (.invokevirtual 217, 3) := by decide +kernel
theorem dX8_gaol_223 : decode cX8_gaol 223 = .ok (.istore 13, 2) := by decide +kernel
theorem dX8_gaol_225 : decode cX8_gaol 225 = .ok (.aload_n 0, 1) := by decide +kernel
theorem dX8_gaol_226 : decode cX8_gaol 226 = .ok (.getfield 43, 3) := by decide +kernel
theorem dX8_gaol_229 : decode cX8_gaol 229 = .ok (.iconst 0, 1) := by decide +kernel
theorem dX8_gaol_230 : decode cX8_gaol 230 = .ok (.dup2, 1) := by decide +kernel
theorem dX8_gaol_231 : decode cX8_gaol 231 = .ok (.iaload, 1) := by decide +kernel
theorem dX8_gaol_232 : decode cX8_gaol 232 = .ok (.iconst 1, 1) := by decide +kernel
theorem dX8_gaol_233 : decode cX8_gaol 233 = .ok (.iadd, 1) := by decide +kernel
theorem dX8_gaol_234 : decode cX8_gaol 234 = .ok (.iastore, 1) := by decide +kernel
theorem dX8_gaol_235 : decode cX8_gaol 235 = .ok (.iinc 5 1, 3) := by decide +kernel
theorem dX8_gaol_238 : decode cX8_gaol 238 = .ok (.goto (-174), 3) := by decide +kernel
theorem dX8_gaol_241 : decode cX8_gaol 241 = .ok (.aload_n 0, 1) := by decide +kernel
theorem dX8_gaol_242 : decode cX8_gaol 242 = .ok (.invokevirtual 180, 3) := by decide +kernel
theorem dX8_gaol_245 : decode cX8_gaol 245 = .ok (.iload_n 3, 1) := by decide +kernel
theorem dX8_gaol_246 : decode cX8_gaol 246 = .ok (.ifCond .ne 10, 3) := by decide +kernel
theorem dX8_gaol_249 : decode cX8_gaol 249 = .ok (.aload_n 0, 1) := by decide +kernel
theorem dX8_gaol_250 : decode cX8_gaol 250 = .ok (.invokevirtual 239, 3) := by decide +kernel
theorem dX8_gaol_253 : decode cX8_gaol 253 = .ok (.goto 29, 3) := by decide +kernel
theorem dX8_gaol_256 : decode cX8_gaol 256 = .ok (.aload_n 0, 1) := by decide +kernel
theorem dX8_gaol_257 : decode cX8_gaol 257 = .ok (.getfield 43, 3) := by decide +kernel
theorem dX8_gaol_260 : decode cX8_gaol 260 = .ok (.bipush 9, 2) := by decide +kernel
theorem dX8_gaol_262 : decode cX8_gaol 262 = .ok (.iaload, 1) := by decide +kernel
theorem dX8_gaol_263 : decode cX8_gaol 263 = .ok (.aload_n 0, 1) := by decide +kernel
theorem dX8_gaol_264 : decode cX8_gaol 264 = .ok (.getfield 43, 3) := by decide +kernel
theorem dX8_gaol_267 : decode cX8_gaol 267 = .ok (.bipush 10, 2) := by decide +kernel
theorem dX8_gaol_269 : decode cX8_gaol 269 = .ok (.iaload, 1) := by decide +kernel
theorem dX8_gaol_270 : decode cX8_gaol 270 = .ok (.iadd, 1) := by decide +kernel
theorem dX8_gaol_271 : decode cX8_gaol 271 = .ok (.aload_n 0, 1) := by decide +kernel
theorem dX8_gaol_272 : decode cX8_gaol 272 = .ok (.getfield 43, 3) := by decide +kernel
theorem dX8_gaol_275 : decode cX8_gaol 275 = .ok (.bipush 11, 2) := by decide +kernel
theorem dX8_gaol_277 : decode cX8_gaol 277 = .ok (.iaload, 1) := by decide +kernel
theorem dX8_gaol_278 : decode cX8_gaol 278 = .ok (.iadd, 1) := by decide +kernel
theorem dX8_gaol_279 : decode cX8_gaol 279 = .ok (.iload 4, 2) := by decide +kernel
theorem dX8_gaol_281 : decode cX8_gaol 281 = .ok (.isub, 1) := by decide +kernel
theorem dX8_gaol_282 : decode cX8_gaol 282 = .ok (.ireturn, 1) := by decide +kernel
set_option maxRecDepth 20000 in
theorem ggX8_keep_X8_copies : GoodIn wsX8_keep wsX8_copies := goodIn_r _ [7] rfl (by decide +kernel)
set_option maxRecDepth 20000 in
theorem gX8_keep_X8_copies : GoodIn wsX8_keep (va_wsS RX8 133 yX8_copies wsX8_copies) := goodIn_app (goodIn_of _ (by decide +kernel)) ggX8_keep_X8_copies
theorem dX8_keep_0 : decode cX8_keep 0 = .ok (.aload_n 0, 1) := by decide +kernel
theorem dX8_keep_1 : decode cX8_keep 1 = .ok (.getfield 140, 3) := by decide +kernel
theorem dX8_keep_4 : decode cX8_keep 4 = .ok (.iconst 2, 1) := by decide +kernel
theorem dX8_keep_5 : decode cX8_keep 5 = .ok (.if_icmp .ne 6, 3) := by decide +kernel
theorem dX8_keep_8 : decode cX8_keep 8 = .ok (.bipush (-3), 2) := by decide +kernel
theorem dX8_keep_10 : decode cX8_keep 10 = .ok (.ireturn, 1) := by decide +kernel
theorem dX8_keep_11 : decode cX8_keep 11 = .ok (.aload_n 0, 1) := by decide +kernel
theorem dX8_keep_12 : decode cX8_keep 12 = .ok (.getfield 22, 3) := by decide +kernel
theorem dX8_keep_15 : decode cX8_keep 15 = .ok (.bipush 111, 2) := by decide +kernel
theorem dX8_keep_17 : decode cX8_keep 17 = .ok (.aload_n 0, 1) := by decide +kernel
theorem dX8_keep_18 : decode cX8_keep 18 = .ok (.getfield 140, 3) := by decide +kernel
theorem dX8_keep_21 : decode cX8_keep 21 = .ok (.imul, 1) := by decide +kernel
theorem dX8_keep_22 : decode cX8_keep 22 = .ok (.aload_n 0, 1) := by decide +kernel
theorem dX8_keep_23 : decode cX8_keep 23 = .ok (.getfield 16, 3) := by decide +kernel
theorem dX8_keep_26 : decode cX8_keep 26 = .ok (.iconst 0, 1) := by decide +kernel
theorem dX8_keep_27 : decode cX8_keep 27 = .ok (.bipush 111, 2) := by decide +kernel
theorem dX8_keep_29 : decode cX8_keep 29 = .ok (.invokestatic 133, 3) := by decide +kernel
theorem dX8_keep_32 : decode cX8_keep 32 = .ok (.aload_n 0, 1) := by decide +kernel
theorem dX8_keep_33 : decode cX8_keep 33 = .ok (.dup, 1) := by decide +kernel
theorem dX8_keep_34 : decode cX8_keep 34 = .ok (.getfield 140, 3) := by decide +kernel
theorem dX8_keep_37 : decode cX8_keep 37 = .ok (.iconst 1, 1) := by decide +kernel
theorem dX8_keep_38 : decode cX8_keep 38 = .ok (.iadd, 1) := by decide +kernel
theorem dX8_keep_39 : decode cX8_keep 39 = .ok (.putfield 140, 3) := by decide +kernel
theorem dX8_keep_42 : decode cX8_keep 42 = .ok (.aload_n 0, 1) := by decide +kernel
theorem dX8_keep_43 : decode cX8_keep 43 = .ok (.getfield 140, 3) := by decide +kernel
theorem dX8_keep_46 : decode cX8_keep 46 = .ok (.ireturn, 1) := by decide +kernel
set_option maxRecDepth 20000 in
theorem ggX8_back_X8_copies : GoodIn wsX8_back wsX8_copies := goodIn_r _ [8] rfl (by decide +kernel)
set_option maxRecDepth 20000 in
theorem gX8_back_X8_copies : GoodIn wsX8_back (va_wsS RX8 133 yX8_copies wsX8_copies) := goodIn_app (goodIn_of _ (by decide +kernel)) ggX8_back_X8_copies
theorem dX8_back_0 : decode cX8_back 0 = .ok (.aload_n 0, 1) := by decide +kernel
theorem dX8_back_1 : decode cX8_back 1 = .ok (.getfield 140, 3) := by decide +kernel
theorem dX8_back_4 : decode cX8_back 4 = .ok (.ifCond .ne 6, 3) := by decide +kernel
theorem dX8_back_7 : decode cX8_back 7 = .ok (.bipush (-2), 2) := by decide +kernel
theorem dX8_back_9 : decode cX8_back 9 = .ok (.ireturn, 1) := by decide +kernel
theorem dX8_back_10 : decode cX8_back 10 = .ok (.aload_n 0, 1) := by decide +kernel
theorem dX8_back_11 : decode cX8_back 11 = .ok (.dup, 1) := by decide +kernel
theorem dX8_back_12 : decode cX8_back 12 = .ok (.getfield 140, 3) := by decide +kernel
theorem dX8_back_15 : decode cX8_back 15 = .ok (.iconst 1, 1) := by decide +kernel
theorem dX8_back_16 : decode cX8_back 16 = .ok (.isub, 1) := by decide +kernel
theorem dX8_back_17 : decode cX8_back 17 = .ok (.putfield 140, 3) := by decide +kernel
theorem dX8_back_20 : decode cX8_back 20 = .ok (.aload_n 0, 1) := by decide +kernel
theorem dX8_back_21 : decode cX8_back 21 = .ok (.getfield 16, 3) := by decide +kernel
theorem dX8_back_24 : decode cX8_back 24 = .ok (.iconst 0, 1) := by decide +kernel
theorem dX8_back_25 : decode cX8_back 25 = .ok (.aload_n 0, 1) := by decide +kernel
theorem dX8_back_26 : decode cX8_back 26 = .ok (.getfield 22, 3) := by decide +kernel
theorem dX8_back_29 : decode cX8_back 29 = .ok (.bipush 111, 2) := by decide +kernel
theorem dX8_back_31 : decode cX8_back 31 = .ok (.aload_n 0, 1) := by decide +kernel
theorem dX8_back_32 : decode cX8_back 32 = .ok (.getfield 140, 3) := by decide +kernel
theorem dX8_back_35 : decode cX8_back 35 = .ok (.imul, 1) := by decide +kernel
theorem dX8_back_36 : decode cX8_back 36 = .ok (.bipush 111, 2) := by decide +kernel
theorem dX8_back_38 : decode cX8_back 38 = .ok (.invokestatic 133, 3) := by decide +kernel
theorem dX8_back_41 : decode cX8_back 41 = .ok (.aload_n 0, 1) := by decide +kernel
theorem dX8_back_42 : decode cX8_back 42 = .ok (.iconst 0, 1) := by decide +kernel
theorem dX8_back_43 : decode cX8_back 43 = .ok (.putfield 137, 3) := by decide +kernel
theorem dX8_back_46 : decode cX8_back 46 = .ok (.aload_n 0, 1) := by decide +kernel
theorem dX8_back_47 : decode cX8_back 47 = .ok (.getfield 140, 3) := by decide +kernel
theorem dX8_back_50 : decode cX8_back 50 = .ok (.ireturn, 1) := by decide +kernel
set_option maxRecDepth 20000 in
theorem ggX8_linesSuch_X8_isBlank : GoodIn wsX8_linesSuch wsX8_isBlank := goodIn_r _ [5, 6, 7, 8, 4, 9, 10, 11, 12, 13, 14, 19, 20, 21, 22, 23, 24, 25, 26, 27, 28, 29, 30, 31, 32, 33, 34, 35, 36, 37, 38, 39, 40, 41, 42, 43, 44, 45] rfl (by decide +kernel)
set_option maxRecDepth 20000 in
theorem gX8_linesSuch_X8_isBlank : GoodIn wsX8_linesSuch (wsV RX8 189 RX8 yX8_isBlank wsX8_isBlank) := goodIn_app (goodIn_of _ (by decide +kernel)) ggX8_linesSuch_X8_isBlank
set_option maxRecDepth 20000 in
theorem ggX8_linesSuch_X8_isOfTwo : GoodIn wsX8_linesSuch wsX8_isOfTwo := goodIn_r _ [18, 6, 7, 8, 4, 9, 10, 11, 12, 13, 14, 19, 20, 21, 22, 23, 24, 25, 26, 27, 28, 29, 30, 31, 32, 33, 34, 35, 36, 37, 38, 39, 40, 41, 42, 43, 44, 45] rfl (by decide +kernel)
set_option maxRecDepth 20000 in
theorem gX8_linesSuch_X8_isOfTwo : GoodIn wsX8_linesSuch (wsV RX8 152 RX8 yX8_isOfTwo wsX8_isOfTwo) := goodIn_app (goodIn_of _ (by decide +kernel)) ggX8_linesSuch_X8_isOfTwo
theorem dX8_linesSuch_0 : decode cX8_linesSuch 0 = .ok (.iconst 0, 1) := by decide +kernel
theorem dX8_linesSuch_1 : decode cX8_linesSuch 1 = .ok (.istore_n 2, 1) := by decide +kernel
theorem dX8_linesSuch_2 : decode cX8_linesSuch 2 = .ok (.iconst 0, 1) := by decide +kernel
theorem dX8_linesSuch_3 : decode cX8_linesSuch 3 = .ok (.istore_n 3, 1) := by decide +kernel
theorem dX8_linesSuch_4 : decode cX8_linesSuch 4 = .ok (.iload_n 3, 1) := by decide +kernel
theorem dX8_linesSuch_5 : decode cX8_linesSuch 5 = .ok (.bipush 24, 2) := by decide +kernel
theorem dX8_linesSuch_7 : decode cX8_linesSuch 7 = .ok (.if_icmp .ge 40, 3) := by decide +kernel
theorem dX8_linesSuch_10 : decode cX8_linesSuch 10 = .ok (.iload_n 2, 1) := by decide +kernel
theorem dX8_linesSuch_11 : decode cX8_linesSuch 11 = .ok (.iload_n 1, 1) := by decide +kernel
theorem dX8_linesSuch_12 : decode cX8_linesSuch 12 = .ok (.ifCond .eq 14, 3) := by decide +kernel
theorem dX8_linesSuch_15 : decode cX8_linesSuch 15 = .ok (.aload_n 0, 1) := by decide +kernel
theorem dX8_linesSuch_16 : decode cX8_linesSuch 16 = .ok (.iload_n 3, 1) := by decide +kernel
theorem dX8_linesSuch_17 : decode cX8_linesSuch 17 = .ok (.invokevirtual 189, 3) := by decide +kernel
theorem dX8_linesSuch_20 : decode cX8_linesSuch 20 = .ok (.ifCond .eq 18, 3) := by decide +kernel
theorem dX8_linesSuch_23 : decode cX8_linesSuch 23 = .ok (.goto 11, 3) := by decide +kernel
theorem dX8_linesSuch_26 : decode cX8_linesSuch 26 = .ok (.aload_n 0, 1) := by decide +kernel
theorem dX8_linesSuch_27 : decode cX8_linesSuch 27 = .ok (.iload_n 3, 1) := by decide +kernel
theorem dX8_linesSuch_28 : decode cX8_linesSuch 28 = .ok (.invokevirtual 152, 3) := by decide +kernel
theorem dX8_linesSuch_31 : decode cX8_linesSuch 31 = .ok (.ifCond .eq 7, 3) := by decide +kernel
theorem dX8_linesSuch_34 : decode cX8_linesSuch 34 = .ok (.iconst 1, 1) := by decide +kernel
theorem dX8_linesSuch_35 : decode cX8_linesSuch 35 = .ok (.goto 4, 3) := by decide +kernel
theorem dX8_linesSuch_38 : decode cX8_linesSuch 38 = .ok (.iconst 0, 1) := by decide +kernel
theorem dX8_linesSuch_39 : decode cX8_linesSuch 39 = .ok (.iadd, 1) := by decide +kernel
theorem dX8_linesSuch_40 : decode cX8_linesSuch 40 = .ok (.istore_n 2, 1) := by decide +kernel
theorem dX8_linesSuch_41 : decode cX8_linesSuch 41 = .ok (.iinc 3 1, 3) := by decide +kernel
theorem dX8_linesSuch_44 : decode cX8_linesSuch 44 = .ok (.goto (-40), 3) := by decide +kernel
theorem dX8_linesSuch_47 : decode cX8_linesSuch 47 = .ok (.iload_n 2, 1) := by decide +kernel
theorem dX8_linesSuch_48 : decode cX8_linesSuch 48 = .ok (.ireturn, 1) := by decide +kernel
set_option maxRecDepth 20000 in
theorem ggX8_count_X8_asItIs : GoodIn wsX8_count wsX8_asItIs := goodIn_r _ [13, 14, 3, 15, 16, 12, 17, 60, 61, 62, 63, 64, 65, 66, 67, 68, 69, 70, 71, 72, 73, 74, 75, 76, 77, 78, 79, 80, 81, 82, 83, 84, 85, 86] rfl (by decide +kernel)
set_option maxRecDepth 20000 in
theorem gX8_count_X8_asItIs : GoodIn wsX8_count (wsV RX8 177 RX8 yX8_asItIs wsX8_asItIs) := goodIn_app (goodIn_of _ (by decide +kernel)) ggX8_count_X8_asItIs
set_option maxRecDepth 20000 in
theorem ggX8_count_X8_findHolds : GoodIn wsX8_count wsX8_findHolds := goodIn_r _ [21, 22, 23, 24, 25, 26, 12, 27, 28, 29, 30, 31, 32, 33, 34, 35, 14, 36, 37, 38, 39, 40, 41, 42, 43, 44, 45, 46, 47, 60, 61, 62, 63, 64, 65, 66, 67, 68, 69, 70, 71, 72, 73, 74, 75, 76, 77, 78, 79, 80, 81, 82, 83, 84, 85, 86] rfl (by decide +kernel)
set_option maxRecDepth 20000 in
theorem gX8_count_X8_findHolds : GoodIn wsX8_count (wsV RX8 180 RX8 yX8_findHolds wsX8_findHolds) := goodIn_app (goodIn_of _ (by decide +kernel)) ggX8_count_X8_findHolds
set_option maxRecDepth 20000 in
theorem ggX8_count_X8_linesSuch : GoodIn wsX8_count wsX8_linesSuch := goodIn_r _ [51, 52, 53, 54, 12, 55, 32, 33, 34, 35, 14, 36, 37, 38, 39, 28, 29, 30, 31, 60, 61, 62, 63, 64, 65, 66, 67, 68, 69, 70, 71, 72, 73, 74, 75, 76, 77, 78, 79, 80, 81, 82, 83, 84, 85, 86] rfl (by decide +kernel)
set_option maxRecDepth 20000 in
theorem gX8_count_X8_linesSuch : GoodIn wsX8_count (wsV RX8 274 RX8 yX8_linesSuch wsX8_linesSuch) := goodIn_app (goodIn_of _ (by decide +kernel)) ggX8_count_X8_linesSuch
set_option maxRecDepth 20000 in
theorem ggX8_count_X8_manyHold : GoodIn wsX8_count wsX8_manyHold := goodIn_r _ [59, 22, 60, 61, 62, 63, 64, 65, 66, 67, 68, 69, 70, 71, 72, 73, 74, 75, 76, 77, 78, 79, 80, 81, 82, 83, 84, 85, 86] rfl (by decide +kernel)
set_option maxRecDepth 20000 in
theorem gX8_count_X8_manyHold : GoodIn wsX8_count (wsV RX8 239 RX8 yX8_manyHold wsX8_manyHold) := goodIn_app (goodIn_of _ (by decide +kernel)) ggX8_count_X8_manyHold
theorem dX8_count_0 : decode cX8_count 0 = .ok (.aload_n 0, 1) := by decide +kernel
theorem dX8_count_1 : decode cX8_count 1 = .ok (.invokevirtual 177, 3) := by decide +kernel
theorem dX8_count_4 : decode cX8_count 4 = .ok (.aload_n 0, 1) := by decide +kernel
theorem dX8_count_5 : decode cX8_count 5 = .ok (.invokevirtual 180, 3) := by decide +kernel
theorem dX8_count_8 : decode cX8_count 8 = .ok (.iload_n 1, 1) := by decide +kernel
theorem dX8_count_9 : decode cX8_count 9 = .ok (.tableswitch 118 0 10 #[59, 64, 69, 76, 81, 87, 92, 98, 103, 108, 113], 59) := by decide +kernel
theorem dX8_count_68 : decode cX8_count 68 = .ok (.aload_n 0, 1) := by decide +kernel
theorem dX8_count_69 : decode cX8_count 69 = .ok (.getfield 80, 3) := by decide +kernel
theorem dX8_count_72 : decode cX8_count 72 = .ok (.ireturn, 1) := by decide +kernel
theorem dX8_count_73 : decode cX8_count 73 = .ok (.aload_n 0, 1) := by decide +kernel
theorem dX8_count_74 : decode cX8_count 74 = .ok (.getfield 87, 3) := by decide +kernel
theorem dX8_count_77 : decode cX8_count 77 = .ok (.ireturn, 1) := by decide +kernel
theorem dX8_count_78 : decode cX8_count 78 = .ok (.aload_n 0, 1) := by decide +kernel
theorem dX8_count_79 : decode cX8_count 79 = .ok (.getfield 16, 3) := by decide +kernel
theorem dX8_count_82 : decode cX8_count 82 = .ok (.iconst 0, 1) := by decide +kernel
theorem dX8_count_83 : decode cX8_count 83 = .ok (.iaload, 1) := by decide +kernel
theorem dX8_count_84 : decode cX8_count 84 = .ok (.ireturn, 1) := by decide +kernel
theorem dX8_count_85 : decode cX8_count 85 = .ok (.aload_n 0, 1) := by decide +kernel
theorem dX8_count_86 : decode cX8_count 86 = .ok (.getfield 130, 3) := by decide +kernel
theorem dX8_count_89 : decode cX8_count 89 = .ok (.ireturn, 1) := by decide +kernel
theorem dX8_count_90 : decode cX8_count 90 = .ok (.aload_n 0, 1) := by decide +kernel
theorem dX8_count_91 : decode cX8_count 91 = .ok (.iconst 0, 1) := by decide +kernel
theorem dX8_count_92 : decode cX8_count 92 = .ok (.invokevirtual 274, 3) := by decide +kernel
theorem dX8_count_95 : decode cX8_count 95 = .ok (.ireturn, 1) := by decide +kernel
theorem dX8_count_96 : decode cX8_count 96 = .ok (.aload_n 0, 1) := by decide +kernel
theorem dX8_count_97 : decode cX8_count 97 = .ok (.invokevirtual 239, 3) := by decide +kernel
theorem dX8_count_100 : decode cX8_count 100 = .ok (.ireturn, 1) := by decide +kernel
theorem dX8_count_101 : decode cX8_count 101 = .ok (.aload_n 0, 1) := by decide +kernel
theorem dX8_count_102 : decode cX8_count 102 = .ok (.iconst 1, 1) := by decide +kernel
theorem dX8_count_103 : decode cX8_count 103 = .ok (.invokevirtual 274, 3) := by decide +kernel
theorem dX8_count_106 : decode cX8_count 106 = .ok (.ireturn, 1) := by decide +kernel
theorem dX8_count_107 : decode cX8_count 107 = .ok (.aload_n 0, 1) := by decide +kernel
theorem dX8_count_108 : decode cX8_count 108 = .ok (.getfield 143, 3) := by decide +kernel
theorem dX8_count_111 : decode cX8_count 111 = .ok (.ireturn, 1) := by decide +kernel
theorem dX8_count_112 : decode cX8_count 112 = .ok (.aload_n 0, 1) := by decide +kernel
theorem dX8_count_113 : decode cX8_count 113 = .ok (.getfield 137, 3) := by decide +kernel
theorem dX8_count_116 : decode cX8_count 116 = .ok (.ireturn, 1) := by decide +kernel
theorem dX8_count_117 : decode cX8_count 117 = .ok (.aload_n 0, 1) := by decide +kernel
theorem dX8_count_118 : decode cX8_count 118 = .ok (.getfield 140, 3) := by decide +kernel
theorem dX8_count_121 : decode cX8_count 121 = .ok (.ireturn, 1) := by decide +kernel
theorem dX8_count_122 : decode cX8_count 122 = .ok (.aload_n 0, 1) := by decide +kernel
theorem dX8_count_123 : decode cX8_count 123 = .ok (.getfield 94, 3) := by decide +kernel
theorem dX8_count_126 : decode cX8_count 126 = .ok (.ireturn, 1) := by decide +kernel
theorem dX8_count_127 : decode cX8_count 127 = .ok (.iconst (-1), 1) := by decide +kernel
theorem dX8_count_128 : decode cX8_count 128 = .ok (.ireturn, 1) := by decide +kernel
theorem dJ6_bitCount_0f7a4_0 : decode cJ6_bitCount_0f7a4 0 = .ok (.iload_n 0, 1) := by decide +kernel
theorem dJ6_bitCount_0f7a4_1 : decode cJ6_bitCount_0f7a4 1 = .ok (.iload_n 0, 1) := by decide +kernel
theorem dJ6_bitCount_0f7a4_2 : decode cJ6_bitCount_0f7a4 2 = .ok (.iconst 1, 1) := by decide +kernel
theorem dJ6_bitCount_0f7a4_3 : decode cJ6_bitCount_0f7a4 3 = .ok (.iushr, 1) := by decide +kernel
theorem dJ6_bitCount_0f7a4_4 : decode cJ6_bitCount_0f7a4 4 = .ok (.ldc_w 265, 3) := by decide +kernel
theorem dJ6_bitCount_0f7a4_7 : decode cJ6_bitCount_0f7a4 7 = .ok (.iand, 1) := by decide +kernel
theorem dJ6_bitCount_0f7a4_8 : decode cJ6_bitCount_0f7a4 8 = .ok (.isub, 1) := by decide +kernel
theorem dJ6_bitCount_0f7a4_9 : decode cJ6_bitCount_0f7a4 9 = .ok (.istore_n 0, 1) := by decide +kernel
theorem dJ6_bitCount_0f7a4_10 : decode cJ6_bitCount_0f7a4 10 = .ok (.iload_n 0, 1) := by decide +kernel
theorem dJ6_bitCount_0f7a4_11 : decode cJ6_bitCount_0f7a4 11 = .ok (.ldc_w 266, 3) := by decide +kernel
theorem dJ6_bitCount_0f7a4_14 : decode cJ6_bitCount_0f7a4 14 = .ok (.iand, 1) := by decide +kernel
theorem dJ6_bitCount_0f7a4_15 : decode cJ6_bitCount_0f7a4 15 = .ok (.iload_n 0, 1) := by decide +kernel
theorem dJ6_bitCount_0f7a4_16 : decode cJ6_bitCount_0f7a4 16 = .ok (.iconst 2, 1) := by decide +kernel
theorem dJ6_bitCount_0f7a4_17 : decode cJ6_bitCount_0f7a4 17 = .ok (.iushr, 1) := by decide +kernel
theorem dJ6_bitCount_0f7a4_18 : decode cJ6_bitCount_0f7a4 18 = .ok (.ldc_w 266, 3) := by decide +kernel
theorem dJ6_bitCount_0f7a4_21 : decode cJ6_bitCount_0f7a4 21 = .ok (.iand, 1) := by decide +kernel
theorem dJ6_bitCount_0f7a4_22 : decode cJ6_bitCount_0f7a4 22 = .ok (.iadd, 1) := by decide +kernel
theorem dJ6_bitCount_0f7a4_23 : decode cJ6_bitCount_0f7a4 23 = .ok (.istore_n 0, 1) := by decide +kernel
theorem dJ6_bitCount_0f7a4_24 : decode cJ6_bitCount_0f7a4 24 = .ok (.iload_n 0, 1) := by decide +kernel
theorem dJ6_bitCount_0f7a4_25 : decode cJ6_bitCount_0f7a4 25 = .ok (.iload_n 0, 1) := by decide +kernel
theorem dJ6_bitCount_0f7a4_26 : decode cJ6_bitCount_0f7a4 26 = .ok (.iconst 4, 1) := by decide +kernel
theorem dJ6_bitCount_0f7a4_27 : decode cJ6_bitCount_0f7a4 27 = .ok (.iushr, 1) := by decide +kernel
theorem dJ6_bitCount_0f7a4_28 : decode cJ6_bitCount_0f7a4 28 = .ok (.iadd, 1) := by decide +kernel
theorem dJ6_bitCount_0f7a4_29 : decode cJ6_bitCount_0f7a4 29 = .ok (.ldc_w 267, 3) := by decide +kernel
theorem dJ6_bitCount_0f7a4_32 : decode cJ6_bitCount_0f7a4 32 = .ok (.iand, 1) := by decide +kernel
theorem dJ6_bitCount_0f7a4_33 : decode cJ6_bitCount_0f7a4 33 = .ok (.istore_n 0, 1) := by decide +kernel
theorem dJ6_bitCount_0f7a4_34 : decode cJ6_bitCount_0f7a4 34 = .ok (.iload_n 0, 1) := by decide +kernel
theorem dJ6_bitCount_0f7a4_35 : decode cJ6_bitCount_0f7a4 35 = .ok (.iload_n 0, 1) := by decide +kernel
theorem dJ6_bitCount_0f7a4_36 : decode cJ6_bitCount_0f7a4 36 = .ok (.bipush 8, 2) := by decide +kernel
theorem dJ6_bitCount_0f7a4_38 : decode cJ6_bitCount_0f7a4 38 = .ok (.iushr, 1) := by decide +kernel
theorem dJ6_bitCount_0f7a4_39 : decode cJ6_bitCount_0f7a4 39 = .ok (.iadd, 1) := by decide +kernel
theorem dJ6_bitCount_0f7a4_40 : decode cJ6_bitCount_0f7a4 40 = .ok (.istore_n 0, 1) := by decide +kernel
theorem dJ6_bitCount_0f7a4_41 : decode cJ6_bitCount_0f7a4 41 = .ok (.iload_n 0, 1) := by decide +kernel
theorem dJ6_bitCount_0f7a4_42 : decode cJ6_bitCount_0f7a4 42 = .ok (.iload_n 0, 1) := by decide +kernel
theorem dJ6_bitCount_0f7a4_43 : decode cJ6_bitCount_0f7a4 43 = .ok (.bipush 16, 2) := by decide +kernel
theorem dJ6_bitCount_0f7a4_45 : decode cJ6_bitCount_0f7a4 45 = .ok (.iushr, 1) := by decide +kernel
theorem dJ6_bitCount_0f7a4_46 : decode cJ6_bitCount_0f7a4 46 = .ok (.iadd, 1) := by decide +kernel
theorem dJ6_bitCount_0f7a4_47 : decode cJ6_bitCount_0f7a4 47 = .ok (.istore_n 0, 1) := by decide +kernel
theorem dJ6_bitCount_0f7a4_48 : decode cJ6_bitCount_0f7a4 48 = .ok (.iload_n 0, 1) := by decide +kernel
theorem dJ6_bitCount_0f7a4_49 : decode cJ6_bitCount_0f7a4 49 = .ok (.bipush 63, 2) := by decide +kernel
theorem dJ6_bitCount_0f7a4_51 : decode cJ6_bitCount_0f7a4 51 = .ok (.iand, 1) := by decide +kernel
theorem dJ6_bitCount_0f7a4_52 : decode cJ6_bitCount_0f7a4 52 = .ok (.ireturn, 1) := by decide +kernel
theorem dJ9_min_7cf53_0 : decode cJ9_min_7cf53 0 = .ok (.iload_n 0, 1) := by decide +kernel
theorem dJ9_min_7cf53_1 : decode cJ9_min_7cf53 1 = .ok (.iload_n 1, 1) := by decide +kernel
theorem dJ9_min_7cf53_2 : decode cJ9_min_7cf53 2 = .ok (.if_icmp .gt 7, 3) := by decide +kernel
theorem dJ9_min_7cf53_5 : decode cJ9_min_7cf53 5 = .ok (.iload_n 0, 1) := by decide +kernel
theorem dJ9_min_7cf53_6 : decode cJ9_min_7cf53 6 = .ok (.goto 4, 3) := by decide +kernel
theorem dJ9_min_7cf53_9 : decode cJ9_min_7cf53 9 = .ok (.iload_n 1, 1) := by decide +kernel
theorem dJ9_min_7cf53_10 : decode cJ9_min_7cf53 10 = .ok (.ireturn, 1) := by decide +kernel
set_option maxRecDepth 20000 in
theorem ggJ0_length_8abf5_J0_coder_7d493 : GoodIn wsJ0_length_8abf5 wsJ0_coder_7d493 := goodIn_r _ [6, 7, 8] rfl (by decide +kernel)
set_option maxRecDepth 20000 in
theorem gJ0_length_8abf5_J0_coder_7d493 : GoodIn wsJ0_length_8abf5 (wsV RJ0 335 RJ0 yJ0_coder_7d493 wsJ0_coder_7d493) := goodIn_app (goodIn_of _ (by decide +kernel)) ggJ0_length_8abf5_J0_coder_7d493
theorem dJ0_length_8abf5_0 : decode cJ0_length_8abf5 0 = .ok (.aload_n 0, 1) := by decide +kernel
theorem dJ0_length_8abf5_1 : decode cJ0_length_8abf5 1 = .ok (.getfield 9, 3) := by decide +kernel
theorem dJ0_length_8abf5_4 : decode cJ0_length_8abf5 4 = .ok (.arraylength, 1) := by decide +kernel
theorem dJ0_length_8abf5_5 : decode cJ0_length_8abf5 5 = .ok (.aload_n 0, 1) := by decide +kernel
theorem dJ0_length_8abf5_6 : decode cJ0_length_8abf5 6 = .ok (.invokevirtual 335, 3) := by decide +kernel
theorem dJ0_length_8abf5_9 : decode cJ0_length_8abf5 9 = .ok (.ishr, 1) := by decide +kernel
theorem dJ0_length_8abf5_10 : decode cJ0_length_8abf5 10 = .ok (.ireturn, 1) := by decide +kernel
set_option maxRecDepth 20000 in
theorem ggJ0_charAt_5068e_J0_isLatin1_aae02 : GoodIn wsJ0_charAt_5068e wsJ0_isLatin1_aae02 := goodIn_r _ [6, 7, 8] rfl (by decide +kernel)
set_option maxRecDepth 20000 in
theorem gJ0_charAt_5068e_J0_isLatin1_aae02 : GoodIn wsJ0_charAt_5068e (wsV RJ0 492 RJ0 yJ0_isLatin1_aae02 wsJ0_isLatin1_aae02) := goodIn_app (goodIn_of _ (by decide +kernel)) ggJ0_charAt_5068e_J0_isLatin1_aae02
set_option maxRecDepth 20000 in
theorem ggJ0_charAt_5068e_J1_charAt_3b067 : GoodIn wsJ0_charAt_5068e wsJ1_charAt_3b067 := goodIn_r _ [12, 13, 14, 5, 15, 16, 17, 18, 19, 20] rfl (by decide +kernel)
set_option maxRecDepth 20000 in
theorem gJ0_charAt_5068e_J1_charAt_3b067 : GoodIn wsJ0_charAt_5068e (va_wsS RJ0 495 yJ1_charAt_3b067 wsJ1_charAt_3b067) := goodIn_app (goodIn_of _ (by decide +kernel)) ggJ0_charAt_5068e_J1_charAt_3b067
set_option maxRecDepth 20000 in
theorem ggJ0_charAt_5068e_J2_charAt_3b067 : GoodIn wsJ0_charAt_5068e wsJ2_charAt_3b067 := goodIn_r _ [24, 25, 26, 23, 27, 28, 29, 30, 31, 14, 5, 15, 16, 17, 18, 19, 20, 32, 33, 34, 35, 36, 37] rfl (by decide +kernel)
set_option maxRecDepth 20000 in
theorem gJ0_charAt_5068e_J2_charAt_3b067 : GoodIn wsJ0_charAt_5068e (va_wsS RJ0 498 yJ2_charAt_3b067 wsJ2_charAt_3b067) := goodIn_app (goodIn_of _ (by decide +kernel)) ggJ0_charAt_5068e_J2_charAt_3b067
theorem dJ0_charAt_5068e_0 : decode cJ0_charAt_5068e 0 = .ok (.aload_n 0, 1) := by decide +kernel
theorem dJ0_charAt_5068e_1 : decode cJ0_charAt_5068e 1 = .ok (.invokevirtual 492, 3) := by decide +kernel
theorem dJ0_charAt_5068e_4 : decode cJ0_charAt_5068e 4 = .ok (.ifCond .eq 12, 3) := by decide +kernel
theorem dJ0_charAt_5068e_7 : decode cJ0_charAt_5068e 7 = .ok (.aload_n 0, 1) := by decide +kernel
theorem dJ0_charAt_5068e_8 : decode cJ0_charAt_5068e 8 = .ok (.getfield 9, 3) := by decide +kernel
theorem dJ0_charAt_5068e_11 : decode cJ0_charAt_5068e 11 = .ok (.iload_n 1, 1) := by decide +kernel
theorem dJ0_charAt_5068e_12 : decode cJ0_charAt_5068e 12 = .ok (.invokestatic 495, 3) := by decide +kernel
theorem dJ0_charAt_5068e_15 : decode cJ0_charAt_5068e 15 = .ok (.ireturn, 1) := by decide +kernel
theorem dJ0_charAt_5068e_16 : decode cJ0_charAt_5068e 16 = .ok (.aload_n 0, 1) := by decide +kernel
theorem dJ0_charAt_5068e_17 : decode cJ0_charAt_5068e 17 = .ok (.getfield 9, 3) := by decide +kernel
theorem dJ0_charAt_5068e_20 : decode cJ0_charAt_5068e 20 = .ok (.iload_n 1, 1) := by decide +kernel
theorem dJ0_charAt_5068e_21 : decode cJ0_charAt_5068e 21 = .ok (.invokestatic 498, 3) := by decide +kernel
theorem dJ0_charAt_5068e_24 : decode cJ0_charAt_5068e 24 = .ok (.ireturn, 1) := by decide +kernel
theorem dJ0_coder_7d493_0 : decode cJ0_coder_7d493 0 = .ok (.getstatic 38, 3) := by decide +kernel
theorem dJ0_coder_7d493_3 : decode cJ0_coder_7d493 3 = .ok (.ifCond .eq 10, 3) := by decide +kernel
theorem dJ0_coder_7d493_6 : decode cJ0_coder_7d493 6 = .ok (.aload_n 0, 1) := by decide +kernel
theorem dJ0_coder_7d493_7 : decode cJ0_coder_7d493 7 = .ok (.getfield 15, 3) := by decide +kernel
theorem dJ0_coder_7d493_10 : decode cJ0_coder_7d493 10 = .ok (.goto 4, 3) := by decide +kernel
theorem dJ0_coder_7d493_13 : decode cJ0_coder_7d493 13 = .ok (.iconst 1, 1) := by decide +kernel
theorem dJ0_coder_7d493_14 : decode cJ0_coder_7d493 14 = .ok (.ireturn, 1) := by decide +kernel
theorem dJ0_isLatin1_aae02_0 : decode cJ0_isLatin1_aae02 0 = .ok (.getstatic 38, 3) := by decide +kernel
theorem dJ0_isLatin1_aae02_3 : decode cJ0_isLatin1_aae02 3 = .ok (.ifCond .eq 14, 3) := by decide +kernel
theorem dJ0_isLatin1_aae02_6 : decode cJ0_isLatin1_aae02 6 = .ok (.aload_n 0, 1) := by decide +kernel
theorem dJ0_isLatin1_aae02_7 : decode cJ0_isLatin1_aae02 7 = .ok (.getfield 15, 3) := by decide +kernel
theorem dJ0_isLatin1_aae02_10 : decode cJ0_isLatin1_aae02 10 = .ok (.ifCond .ne 7, 3) := by decide +kernel
theorem dJ0_isLatin1_aae02_13 : decode cJ0_isLatin1_aae02 13 = .ok (.iconst 1, 1) := by decide +kernel
theorem dJ0_isLatin1_aae02_14 : decode cJ0_isLatin1_aae02 14 = .ok (.goto 4, 3) := by decide +kernel
theorem dJ0_isLatin1_aae02_17 : decode cJ0_isLatin1_aae02 17 = .ok (.iconst 0, 1) := by decide +kernel
theorem dJ0_isLatin1_aae02_18 : decode cJ0_isLatin1_aae02 18 = .ok (.ireturn, 1) := by decide +kernel
set_option maxRecDepth 20000 in
theorem ggJ0_checkIndex_df160_J3_checkIndex_8e157 : GoodIn wsJ0_checkIndex_df160 wsJ3_checkIndex_8e157 := goodIn_r _ [5] rfl (by decide +kernel)
set_option maxRecDepth 20000 in
theorem gJ0_checkIndex_df160_J3_checkIndex_8e157 : GoodIn wsJ0_checkIndex_df160 (va_wsS RJ0 1059 yJ3_checkIndex_8e157 wsJ3_checkIndex_8e157) := goodIn_app (goodIn_of _ (by decide +kernel)) ggJ0_checkIndex_df160_J3_checkIndex_8e157
theorem dJ0_checkIndex_df160_0 : decode cJ0_checkIndex_df160 0 = .ok (.iload_n 0, 1) := by decide +kernel
theorem dJ0_checkIndex_df160_1 : decode cJ0_checkIndex_df160 1 = .ok (.iload_n 1, 1) := by decide +kernel
theorem dJ0_checkIndex_df160_2 : decode cJ0_checkIndex_df160 2 = .ok (.getstatic 1053, 3) := by decide +kernel
theorem dJ0_checkIndex_df160_5 : decode cJ0_checkIndex_df160 5 = .ok (.invokestatic 1059, 3) := by decide +kernel
theorem dJ0_checkIndex_df160_8 : decode cJ0_checkIndex_df160 8 = .ok (.pop, 1) := by decide +kernel
theorem dJ0_checkIndex_df160_9 : decode cJ0_checkIndex_df160 9 = .ok (.return_, 1) := by decide +kernel
set_option maxRecDepth 20000 in
theorem ggJ1_charAt_3b067_J0_checkIndex_df160 : GoodIn wsJ1_charAt_3b067 wsJ0_checkIndex_df160 := goodIn_r _ [4, 5, 6, 7, 8, 9] rfl (by decide +kernel)
set_option maxRecDepth 20000 in
theorem gJ1_charAt_3b067_J0_checkIndex_df160 : GoodIn wsJ1_charAt_3b067 (va_wsS RJ1 9 yJ0_checkIndex_df160 wsJ0_checkIndex_df160) := goodIn_app (goodIn_of _ (by decide +kernel)) ggJ1_charAt_3b067_J0_checkIndex_df160
theorem dJ1_charAt_3b067_0 : decode cJ1_charAt_3b067 0 = .ok (.iload_n 1, 1) := by decide +kernel
theorem dJ1_charAt_3b067_1 : decode cJ1_charAt_3b067 1 = .ok (.aload_n 0, 1) := by decide +kernel
theorem dJ1_charAt_3b067_2 : decode cJ1_charAt_3b067 2 = .ok (.arraylength, 1) := by decide +kernel
theorem dJ1_charAt_3b067_3 : decode cJ1_charAt_3b067 3 = .ok (.invokestatic 9, 3) := by decide +kernel
theorem dJ1_charAt_3b067_6 : decode cJ1_charAt_3b067 6 = .ok (.aload_n 0, 1) := by decide +kernel
theorem dJ1_charAt_3b067_7 : decode cJ1_charAt_3b067 7 = .ok (.iload_n 1, 1) := by decide +kernel
theorem dJ1_charAt_3b067_8 : decode cJ1_charAt_3b067 8 = .ok (.baload, 1) := by decide +kernel
theorem dJ1_charAt_3b067_9 : decode cJ1_charAt_3b067 9 = .ok (.sipush 255, 3) := by decide +kernel
theorem dJ1_charAt_3b067_12 : decode cJ1_charAt_3b067 12 = .ok (.iand, 1) := by decide +kernel
theorem dJ1_charAt_3b067_13 : decode cJ1_charAt_3b067 13 = .ok (.i2c, 1) := by decide +kernel
theorem dJ1_charAt_3b067_14 : decode cJ1_charAt_3b067 14 = .ok (.ireturn, 1) := by decide +kernel
set_option maxRecDepth 20000 in
theorem ggJ2_getChar_3b067_J2_length_9d52b : GoodIn wsJ2_getChar_3b067 wsJ2_length_9d52b := goodIn_r _ [7] rfl (by decide +kernel)
set_option maxRecDepth 20000 in
theorem gJ2_getChar_3b067_J2_length_9d52b : GoodIn wsJ2_getChar_3b067 (va_wsS RJ2 48 yJ2_length_9d52b wsJ2_length_9d52b) := goodIn_app (goodIn_of _ (by decide +kernel)) ggJ2_getChar_3b067_J2_length_9d52b
theorem dJ2_getChar_3b067_0 : decode cJ2_getChar_3b067 0 = .ok (.getstatic 44, 3) := by decide +kernel
theorem dJ2_getChar_3b067_3 : decode cJ2_getChar_3b067 3 = .ok (.ifCond .ne 25, 3) := by decide +kernel
theorem dJ2_getChar_3b067_6 : decode cJ2_getChar_3b067 6 = .ok (.iload_n 1, 1) := by decide +kernel
theorem dJ2_getChar_3b067_7 : decode cJ2_getChar_3b067 7 = .ok (.ifCond .lt 11, 3) := by decide +kernel
theorem dJ2_getChar_3b067_10 : decode cJ2_getChar_3b067 10 = .ok (.iload_n 1, 1) := by decide +kernel
theorem dJ2_getChar_3b067_11 : decode cJ2_getChar_3b067 11 = .ok (.aload_n 0, 1) := by decide +kernel
theorem dJ2_getChar_3b067_12 : decode cJ2_getChar_3b067 12 = .ok (.invokestatic 48, 3) := by decide +kernel
theorem dJ2_getChar_3b067_15 : decode cJ2_getChar_3b067 15 = .ok (.if_icmp .lt 13, 3) := by decide +kernel
theorem dJ2_getChar_3b067_18 : decode cJ2_getChar_3b067 18 = .ok (.new 52, 3) := by decide +kernel
theorem dJ2_getChar_3b067_21 : decode cJ2_getChar_3b067 21 = .ok (.dup, 1) := by decide +kernel
theorem dJ2_getChar_3b067_22 : decode cJ2_getChar_3b067 22 = .ok (.ldc 54, 2) := by decide +kernel
theorem dJ2_getChar_3b067_24 : decode cJ2_getChar_3b067 24 = .ok (.invokespecial 56, 3) := by decide +kernel
theorem dJ2_getChar_3b067_27 : decode cJ2_getChar_3b067 27 = .ok (.athrow, 1) := by decide +kernel
theorem dJ2_getChar_3b067_28 : decode cJ2_getChar_3b067 28 = .ok (.iload_n 1, 1) := by decide +kernel
theorem dJ2_getChar_3b067_29 : decode cJ2_getChar_3b067 29 = .ok (.iconst 1, 1) := by decide +kernel
theorem dJ2_getChar_3b067_30 : decode cJ2_getChar_3b067 30 = .ok (.ishl, 1) := by decide +kernel
theorem dJ2_getChar_3b067_31 : decode cJ2_getChar_3b067 31 = .ok (.istore_n 1, 1) := by decide +kernel
theorem dJ2_getChar_3b067_32 : decode cJ2_getChar_3b067 32 = .ok (.aload_n 0, 1) := by decide +kernel
theorem dJ2_getChar_3b067_33 : decode cJ2_getChar_3b067 33 = .ok (.iload_n 1, 1) := by decide +kernel
theorem dJ2_getChar_3b067_34 : decode cJ2_getChar_3b067 34 = .ok (.iinc 1 1, 3) := by decide +kernel
theorem dJ2_getChar_3b067_37 : decode cJ2_getChar_3b067 37 = .ok (.baload, 1) := by decide +kernel
theorem dJ2_getChar_3b067_38 : decode cJ2_getChar_3b067 38 = .ok (.sipush 255, 3) := by decide +kernel
theorem dJ2_getChar_3b067_41 : decode cJ2_getChar_3b067 41 = .ok (.iand, 1) := by decide +kernel
theorem dJ2_getChar_3b067_42 : decode cJ2_getChar_3b067 42 = .ok (.getstatic 59, 3) := by decide +kernel
theorem dJ2_getChar_3b067_45 : decode cJ2_getChar_3b067 45 = .ok (.ishl, 1) := by decide +kernel
theorem dJ2_getChar_3b067_46 : decode cJ2_getChar_3b067 46 = .ok (.aload_n 0, 1) := by decide +kernel
theorem dJ2_getChar_3b067_47 : decode cJ2_getChar_3b067 47 = .ok (.iload_n 1, 1) := by decide +kernel
theorem dJ2_getChar_3b067_48 : decode cJ2_getChar_3b067 48 = .ok (.baload, 1) := by decide +kernel
theorem dJ2_getChar_3b067_49 : decode cJ2_getChar_3b067 49 = .ok (.sipush 255, 3) := by decide +kernel
theorem dJ2_getChar_3b067_52 : decode cJ2_getChar_3b067 52 = .ok (.iand, 1) := by decide +kernel
theorem dJ2_getChar_3b067_53 : decode cJ2_getChar_3b067 53 = .ok (.getstatic 63, 3) := by decide +kernel
theorem dJ2_getChar_3b067_56 : decode cJ2_getChar_3b067 56 = .ok (.ishl, 1) := by decide +kernel
theorem dJ2_getChar_3b067_57 : decode cJ2_getChar_3b067 57 = .ok (.ior, 1) := by decide +kernel
theorem dJ2_getChar_3b067_58 : decode cJ2_getChar_3b067 58 = .ok (.i2c, 1) := by decide +kernel
theorem dJ2_getChar_3b067_59 : decode cJ2_getChar_3b067 59 = .ok (.ireturn, 1) := by decide +kernel
theorem dJ2_length_9d52b_0 : decode cJ2_length_9d52b 0 = .ok (.aload_n 0, 1) := by decide +kernel
theorem dJ2_length_9d52b_1 : decode cJ2_length_9d52b 1 = .ok (.arraylength, 1) := by decide +kernel
theorem dJ2_length_9d52b_2 : decode cJ2_length_9d52b 2 = .ok (.iconst 1, 1) := by decide +kernel
theorem dJ2_length_9d52b_3 : decode cJ2_length_9d52b 3 = .ok (.ishr, 1) := by decide +kernel
theorem dJ2_length_9d52b_4 : decode cJ2_length_9d52b 4 = .ok (.ireturn, 1) := by decide +kernel
set_option maxRecDepth 20000 in
theorem ggJ2_charAt_3b067_J2_checkIndex_2214a : GoodIn wsJ2_charAt_3b067 wsJ2_checkIndex_2214a := goodIn_r _ [4, 5, 6, 3, 7, 8, 9, 10, 11, 12, 13, 14, 15, 16] rfl (by decide +kernel)
set_option maxRecDepth 20000 in
theorem gJ2_charAt_3b067_J2_checkIndex_2214a : GoodIn wsJ2_charAt_3b067 (va_wsS RJ2 67 yJ2_checkIndex_2214a wsJ2_checkIndex_2214a) := goodIn_app (goodIn_of _ (by decide +kernel)) ggJ2_charAt_3b067_J2_checkIndex_2214a
set_option maxRecDepth 20000 in
theorem ggJ2_charAt_3b067_J2_getChar_3b067 : GoodIn wsJ2_charAt_3b067 wsJ2_getChar_3b067 := goodIn_r _ [19, 20, 21, 22, 5, 6, 3, 7] rfl (by decide +kernel)
set_option maxRecDepth 20000 in
theorem gJ2_charAt_3b067_J2_getChar_3b067 : GoodIn wsJ2_charAt_3b067 (va_wsS RJ2 71 yJ2_getChar_3b067 wsJ2_getChar_3b067) := goodIn_app (goodIn_of _ (by decide +kernel)) ggJ2_charAt_3b067_J2_getChar_3b067
theorem dJ2_charAt_3b067_0 : decode cJ2_charAt_3b067 0 = .ok (.iload_n 1, 1) := by decide +kernel
theorem dJ2_charAt_3b067_1 : decode cJ2_charAt_3b067 1 = .ok (.aload_n 0, 1) := by decide +kernel
theorem dJ2_charAt_3b067_2 : decode cJ2_charAt_3b067 2 = .ok (.invokestatic 67, 3) := by decide +kernel
theorem dJ2_charAt_3b067_5 : decode cJ2_charAt_3b067 5 = .ok (.aload_n 0, 1) := by decide +kernel
theorem dJ2_charAt_3b067_6 : decode cJ2_charAt_3b067 6 = .ok (.iload_n 1, 1) := by decide +kernel
theorem dJ2_charAt_3b067_7 : decode cJ2_charAt_3b067 7 = .ok (.invokestatic 71, 3) := by decide +kernel
theorem dJ2_charAt_3b067_10 : decode cJ2_charAt_3b067 10 = .ok (.ireturn, 1) := by decide +kernel
set_option maxRecDepth 20000 in
theorem ggJ2_checkIndex_2214a_J2_length_9d52b : GoodIn wsJ2_checkIndex_2214a wsJ2_length_9d52b := goodIn_r _ [4] rfl (by decide +kernel)
set_option maxRecDepth 20000 in
theorem gJ2_checkIndex_2214a_J2_length_9d52b : GoodIn wsJ2_checkIndex_2214a (va_wsS RJ2 48 yJ2_length_9d52b wsJ2_length_9d52b) := goodIn_app (goodIn_of _ (by decide +kernel)) ggJ2_checkIndex_2214a_J2_length_9d52b
set_option maxRecDepth 20000 in
theorem ggJ2_checkIndex_2214a_J0_checkIndex_df160 : GoodIn wsJ2_checkIndex_2214a wsJ0_checkIndex_df160 := goodIn_r _ [8, 9, 10, 11, 12, 13] rfl (by decide +kernel)
set_option maxRecDepth 20000 in
theorem gJ2_checkIndex_2214a_J0_checkIndex_df160 : GoodIn wsJ2_checkIndex_2214a (va_wsS RJ2 414 yJ0_checkIndex_df160 wsJ0_checkIndex_df160) := goodIn_app (goodIn_of _ (by decide +kernel)) ggJ2_checkIndex_2214a_J0_checkIndex_df160
theorem dJ2_checkIndex_2214a_0 : decode cJ2_checkIndex_2214a 0 = .ok (.iload_n 0, 1) := by decide +kernel
theorem dJ2_checkIndex_2214a_1 : decode cJ2_checkIndex_2214a 1 = .ok (.aload_n 1, 1) := by decide +kernel
theorem dJ2_checkIndex_2214a_2 : decode cJ2_checkIndex_2214a 2 = .ok (.invokestatic 48, 3) := by decide +kernel
theorem dJ2_checkIndex_2214a_5 : decode cJ2_checkIndex_2214a 5 = .ok (.invokestatic 414, 3) := by decide +kernel
theorem dJ2_checkIndex_2214a_8 : decode cJ2_checkIndex_2214a 8 = .ok (.return_, 1) := by decide +kernel
theorem dJ3_checkIndex_8e157_0 : decode cJ3_checkIndex_8e157 0 = .ok (.iload_n 0, 1) := by decide +kernel
theorem dJ3_checkIndex_8e157_1 : decode cJ3_checkIndex_8e157 1 = .ok (.ifCond .lt 8, 3) := by decide +kernel
theorem dJ3_checkIndex_8e157_4 : decode cJ3_checkIndex_8e157 4 = .ok (.iload_n 0, 1) := by decide +kernel
theorem dJ3_checkIndex_8e157_5 : decode cJ3_checkIndex_8e157 5 = .ok (.iload_n 1, 1) := by decide +kernel
theorem dJ3_checkIndex_8e157_6 : decode cJ3_checkIndex_8e157 6 = .ok (.if_icmp .lt 10, 3) := by decide +kernel
theorem dJ3_checkIndex_8e157_9 : decode cJ3_checkIndex_8e157 9 = .ok (.aload_n 2, 1) := by decide +kernel
theorem dJ3_checkIndex_8e157_10 : decode cJ3_checkIndex_8e157 10 = .ok (.iload_n 0, 1) := by decide +kernel
theorem dJ3_checkIndex_8e157_11 : decode cJ3_checkIndex_8e157 11 = .ok (.iload_n 1, 1) := by decide +kernel
theorem dJ3_checkIndex_8e157_12 : decode cJ3_checkIndex_8e157 12 = .ok (.invokestatic 95, 3) := by decide +kernel
theorem dJ3_checkIndex_8e157_15 : decode cJ3_checkIndex_8e157 15 = .ok (.athrow, 1) := by decide +kernel
theorem dJ3_checkIndex_8e157_16 : decode cJ3_checkIndex_8e157 16 = .ok (.iload_n 0, 1) := by decide +kernel
theorem dJ3_checkIndex_8e157_17 : decode cJ3_checkIndex_8e157 17 = .ok (.ireturn, 1) := by decide +kernel
theorem dL_law_0 : decode cL_law 0 = .ok (.new 7, 3) := by decide +kernel
theorem dL_law_3 : decode cL_law 3 = .ok (.dup, 1) := by decide +kernel
theorem dL_law_4 : decode cL_law 4 = .ok (.invokespecial 9, 3) := by decide +kernel
theorem dL_law_7 : decode cL_law 7 = .ok (.astore_n 1, 1) := by decide +kernel
theorem dL_law_8 : decode cL_law 8 = .ok (.new 10, 3) := by decide +kernel
theorem dL_law_11 : decode cL_law 11 = .ok (.dup, 1) := by decide +kernel
theorem dL_law_12 : decode cL_law 12 = .ok (.invokespecial 12, 3) := by decide +kernel
theorem dL_law_15 : decode cL_law 15 = .ok (.astore_n 2, 1) := by decide +kernel
theorem dL_law_16 : decode cL_law 16 = .ok (.iconst 0, 1) := by decide +kernel
theorem dL_law_17 : decode cL_law 17 = .ok (.istore_n 3, 1) := by decide +kernel
theorem dL_law_18 : decode cL_law 18 = .ok (.iload_n 3, 1) := by decide +kernel
theorem dL_law_19 : decode cL_law 19 = .ok (.aload_n 0, 1) := by decide +kernel
theorem dL_law_20 : decode cL_law 20 = .ok (.arraylength, 1) := by decide +kernel
theorem dL_law_21 : decode cL_law 21 = .ok (.iconst 5, 1) := by decide +kernel
theorem dL_law_22 : decode cL_law 22 = .ok (.isub, 1) := by decide +kernel
theorem dL_law_23 : decode cL_law 23 = .ok (.if_icmp .gt 960, 3) := by decide +kernel
theorem dL_law_26 : decode cL_law 26 = .ok (.aload_n 0, 1) := by decide +kernel
theorem dL_law_27 : decode cL_law 27 = .ok (.iload_n 3, 1) := by decide +kernel
theorem dL_law_28 : decode cL_law 28 = .ok (.iaload, 1) := by decide +kernel
theorem dL_law_29 : decode cL_law 29 = .ok (.bipush 31, 2) := by decide +kernel
theorem dL_law_31 : decode cL_law 31 = .ok (.iand, 1) := by decide +kernel
theorem dL_law_32 : decode cL_law 32 = .ok (.tableswitch 945 0 28 #[132, 155, 168, 181, 194, 227, 260, 303, 346, 369, 422, 455, 478, 491, 524, 537, 550, 593, 616, 639, 708, 721, 744, 777, 810, 853, 896, 909, 922], 132) := by decide +kernel
theorem dL_law_164 : decode cL_law 164 = .ok (.aload_n 1, 1) := by decide +kernel
theorem dL_law_165 : decode cL_law 165 = .ok (.aload_n 0, 1) := by decide +kernel
theorem dL_law_166 : decode cL_law 166 = .ok (.iload_n 3, 1) := by decide +kernel
theorem dL_law_167 : decode cL_law 167 = .ok (.iconst 1, 1) := by decide +kernel
theorem dL_law_168 : decode cL_law 168 = .ok (.iadd, 1) := by decide +kernel
theorem dL_law_169 : decode cL_law 169 = .ok (.iaload, 1) := by decide +kernel
theorem dL_law_170 : decode cL_law 170 = .ok (.invokevirtual 13, 3) := by decide +kernel
theorem dL_law_173 : decode cL_law 173 = .ok (.aload_n 2, 1) := by decide +kernel
theorem dL_law_174 : decode cL_law 174 = .ok (.aload_n 0, 1) := by decide +kernel
theorem dL_law_175 : decode cL_law 175 = .ok (.iload_n 3, 1) := by decide +kernel
theorem dL_law_176 : decode cL_law 176 = .ok (.iconst 1, 1) := by decide +kernel
theorem dL_law_177 : decode cL_law 177 = .ok (.iadd, 1) := by decide +kernel
theorem dL_law_178 : decode cL_law 178 = .ok (.iaload, 1) := by decide +kernel
theorem dL_law_179 : decode cL_law 179 = .ok (.invokevirtual 17, 3) := by decide +kernel
theorem dL_law_182 : decode cL_law 182 = .ok (.if_icmp .eq 795, 3) := by decide +kernel
theorem dL_law_185 : decode cL_law 185 = .ok (.iconst 0, 1) := by decide +kernel
theorem dL_law_186 : decode cL_law 186 = .ok (.ireturn, 1) := by decide +kernel
theorem dL_law_187 : decode cL_law 187 = .ok (.aload_n 1, 1) := by decide +kernel
theorem dL_law_188 : decode cL_law 188 = .ok (.invokevirtual 18, 3) := by decide +kernel
theorem dL_law_191 : decode cL_law 191 = .ok (.aload_n 2, 1) := by decide +kernel
theorem dL_law_192 : decode cL_law 192 = .ok (.invokevirtual 22, 3) := by decide +kernel
theorem dL_law_195 : decode cL_law 195 = .ok (.if_icmp .eq 782, 3) := by decide +kernel
theorem dL_law_198 : decode cL_law 198 = .ok (.iconst 0, 1) := by decide +kernel
theorem dL_law_199 : decode cL_law 199 = .ok (.ireturn, 1) := by decide +kernel
theorem dL_law_200 : decode cL_law 200 = .ok (.aload_n 1, 1) := by decide +kernel
theorem dL_law_201 : decode cL_law 201 = .ok (.invokevirtual 23, 3) := by decide +kernel
theorem dL_law_204 : decode cL_law 204 = .ok (.aload_n 2, 1) := by decide +kernel
theorem dL_law_205 : decode cL_law 205 = .ok (.invokevirtual 26, 3) := by decide +kernel
theorem dL_law_208 : decode cL_law 208 = .ok (.if_icmp .eq 769, 3) := by decide +kernel
theorem dL_law_211 : decode cL_law 211 = .ok (.iconst 0, 1) := by decide +kernel
theorem dL_law_212 : decode cL_law 212 = .ok (.ireturn, 1) := by decide +kernel
theorem dL_law_213 : decode cL_law 213 = .ok (.aload_n 1, 1) := by decide +kernel
theorem dL_law_214 : decode cL_law 214 = .ok (.invokevirtual 27, 3) := by decide +kernel
theorem dL_law_217 : decode cL_law 217 = .ok (.aload_n 2, 1) := by decide +kernel
theorem dL_law_218 : decode cL_law 218 = .ok (.invokevirtual 30, 3) := by decide +kernel
theorem dL_law_221 : decode cL_law 221 = .ok (.if_icmp .eq 756, 3) := by decide +kernel
theorem dL_law_224 : decode cL_law 224 = .ok (.iconst 0, 1) := by decide +kernel
theorem dL_law_225 : decode cL_law 225 = .ok (.ireturn, 1) := by decide +kernel
theorem dL_law_226 : decode cL_law 226 = .ok (.aload_n 1, 1) := by decide +kernel
theorem dL_law_227 : decode cL_law 227 = .ok (.aload_n 0, 1) := by decide +kernel
theorem dL_law_228 : decode cL_law 228 = .ok (.iload_n 3, 1) := by decide +kernel
theorem dL_law_229 : decode cL_law 229 = .ok (.iconst 1, 1) := by decide +kernel
theorem dL_law_230 : decode cL_law 230 = .ok (.iadd, 1) := by decide +kernel
theorem dL_law_231 : decode cL_law 231 = .ok (.iaload, 1) := by decide +kernel
theorem dL_law_232 : decode cL_law 232 = .ok (.aload_n 0, 1) := by decide +kernel
theorem dL_law_233 : decode cL_law 233 = .ok (.iload_n 3, 1) := by decide +kernel
theorem dL_law_234 : decode cL_law 234 = .ok (.iconst 2, 1) := by decide +kernel
theorem dL_law_235 : decode cL_law 235 = .ok (.iadd, 1) := by decide +kernel
theorem dL_law_236 : decode cL_law 236 = .ok (.iaload, 1) := by decide +kernel
theorem dL_law_237 : decode cL_law 237 = .ok (.invokevirtual 31, 3) := by decide +kernel
theorem dL_law_240 : decode cL_law 240 = .ok (.aload_n 2, 1) := by decide +kernel
theorem dL_law_241 : decode cL_law 241 = .ok (.aload_n 0, 1) := by decide +kernel
theorem dL_law_242 : decode cL_law 242 = .ok (.iload_n 3, 1) := by decide +kernel
theorem dL_law_243 : decode cL_law 243 = .ok (.iconst 1, 1) := by decide +kernel
theorem dL_law_244 : decode cL_law 244 = .ok (.iadd, 1) := by decide +kernel
theorem dL_law_245 : decode cL_law 245 = .ok (.iaload, 1) := by decide +kernel
theorem dL_law_246 : decode cL_law 246 = .ok (.aload_n 0, 1) := by decide +kernel
theorem dL_law_247 : decode cL_law 247 = .ok (.iload_n 3, 1) := by decide +kernel
theorem dL_law_248 : decode cL_law 248 = .ok (.iconst 2, 1) := by decide +kernel
theorem dL_law_249 : decode cL_law 249 = .ok (.iadd, 1) := by decide +kernel
theorem dL_law_250 : decode cL_law 250 = .ok (.iaload, 1) := by decide +kernel
theorem dL_law_251 : decode cL_law 251 = .ok (.invokevirtual 35, 3) := by decide +kernel
theorem dL_law_254 : decode cL_law 254 = .ok (.if_icmp .eq 723, 3) := by decide +kernel
theorem dL_law_257 : decode cL_law 257 = .ok (.iconst 0, 1) := by decide +kernel
theorem dL_law_258 : decode cL_law 258 = .ok (.ireturn, 1) := by decide +kernel
theorem dL_law_259 : decode cL_law 259 = .ok (.aload_n 1, 1) := by decide +kernel
theorem dL_law_260 : decode cL_law 260 = .ok (.aload_n 0, 1) := by decide +kernel
theorem dL_law_261 : decode cL_law 261 = .ok (.iload_n 3, 1) := by decide +kernel
theorem dL_law_262 : decode cL_law 262 = .ok (.iconst 1, 1) := by decide +kernel
theorem dL_law_263 : decode cL_law 263 = .ok (.iadd, 1) := by decide +kernel
theorem dL_law_264 : decode cL_law 264 = .ok (.iaload, 1) := by decide +kernel
theorem dL_law_265 : decode cL_law 265 = .ok (.aload_n 0, 1) := by decide +kernel
theorem dL_law_266 : decode cL_law 266 = .ok (.iload_n 3, 1) := by decide +kernel
theorem dL_law_267 : decode cL_law 267 = .ok (.iconst 2, 1) := by decide +kernel
theorem dL_law_268 : decode cL_law 268 = .ok (.iadd, 1) := by decide +kernel
theorem dL_law_269 : decode cL_law 269 = .ok (.iaload, 1) := by decide +kernel
theorem dL_law_270 : decode cL_law 270 = .ok (.invokevirtual 36, 3) := by decide +kernel
theorem dL_law_273 : decode cL_law 273 = .ok (.aload_n 2, 1) := by decide +kernel
theorem dL_law_274 : decode cL_law 274 = .ok (.aload_n 0, 1) := by decide +kernel
theorem dL_law_275 : decode cL_law 275 = .ok (.iload_n 3, 1) := by decide +kernel
theorem dL_law_276 : decode cL_law 276 = .ok (.iconst 1, 1) := by decide +kernel
theorem dL_law_277 : decode cL_law 277 = .ok (.iadd, 1) := by decide +kernel
theorem dL_law_278 : decode cL_law 278 = .ok (.iaload, 1) := by decide +kernel
theorem dL_law_279 : decode cL_law 279 = .ok (.aload_n 0, 1) := by decide +kernel
theorem dL_law_280 : decode cL_law 280 = .ok (.iload_n 3, 1) := by decide +kernel
theorem dL_law_281 : decode cL_law 281 = .ok (.iconst 2, 1) := by decide +kernel
theorem dL_law_282 : decode cL_law 282 = .ok (.iadd, 1) := by decide +kernel
theorem dL_law_283 : decode cL_law 283 = .ok (.iaload, 1) := by decide +kernel
theorem dL_law_284 : decode cL_law 284 = .ok (.invokevirtual 39, 3) := by decide +kernel
theorem dL_law_287 : decode cL_law 287 = .ok (.if_icmp .eq 690, 3) := by decide +kernel
theorem dL_law_290 : decode cL_law 290 = .ok (.iconst 0, 1) := by decide +kernel
theorem dL_law_291 : decode cL_law 291 = .ok (.ireturn, 1) := by decide +kernel
theorem dL_law_292 : decode cL_law 292 = .ok (.aload_n 1, 1) := by decide +kernel
theorem dL_law_293 : decode cL_law 293 = .ok (.aload_n 0, 1) := by decide +kernel
theorem dL_law_294 : decode cL_law 294 = .ok (.iload_n 3, 1) := by decide +kernel
theorem dL_law_295 : decode cL_law 295 = .ok (.iconst 1, 1) := by decide +kernel
theorem dL_law_296 : decode cL_law 296 = .ok (.iadd, 1) := by decide +kernel
theorem dL_law_297 : decode cL_law 297 = .ok (.iaload, 1) := by decide +kernel
theorem dL_law_298 : decode cL_law 298 = .ok (.aload_n 0, 1) := by decide +kernel
theorem dL_law_299 : decode cL_law 299 = .ok (.iload_n 3, 1) := by decide +kernel
theorem dL_law_300 : decode cL_law 300 = .ok (.iconst 2, 1) := by decide +kernel
theorem dL_law_301 : decode cL_law 301 = .ok (.iadd, 1) := by decide +kernel
theorem dL_law_302 : decode cL_law 302 = .ok (.iaload, 1) := by decide +kernel
theorem dL_law_303 : decode cL_law 303 = .ok (.aload_n 0, 1) := by decide +kernel
theorem dL_law_304 : decode cL_law 304 = .ok (.iload_n 3, 1) := by decide +kernel
theorem dL_law_305 : decode cL_law 305 = .ok (.iconst 3, 1) := by decide +kernel
theorem dL_law_306 : decode cL_law 306 = .ok (.iadd, 1) := by decide +kernel
theorem dL_law_307 : decode cL_law 307 = .ok (.iaload, 1) := by decide +kernel
theorem dL_law_308 : decode cL_law 308 = .ok (.invokevirtual 40, 3) := by decide +kernel
theorem dL_law_311 : decode cL_law 311 = .ok (.aload_n 2, 1) := by decide +kernel
theorem dL_law_312 : decode cL_law 312 = .ok (.aload_n 0, 1) := by decide +kernel
theorem dL_law_313 : decode cL_law 313 = .ok (.iload_n 3, 1) := by decide +kernel
theorem dL_law_314 : decode cL_law 314 = .ok (.iconst 1, 1) := by decide +kernel
theorem dL_law_315 : decode cL_law 315 = .ok (.iadd, 1) := by decide +kernel
theorem dL_law_316 : decode cL_law 316 = .ok (.iaload, 1) := by decide +kernel
theorem dL_law_317 : decode cL_law 317 = .ok (.aload_n 0, 1) := by decide +kernel
theorem dL_law_318 : decode cL_law 318 = .ok (.iload_n 3, 1) := by decide +kernel
theorem dL_law_319 : decode cL_law 319 = .ok (.iconst 2, 1) := by decide +kernel
theorem dL_law_320 : decode cL_law 320 = .ok (.iadd, 1) := by decide +kernel
theorem dL_law_321 : decode cL_law 321 = .ok (.iaload, 1) := by decide +kernel
theorem dL_law_322 : decode cL_law 322 = .ok (.aload_n 0, 1) := by decide +kernel
theorem dL_law_323 : decode cL_law 323 = .ok (.iload_n 3, 1) := by decide +kernel
theorem dL_law_324 : decode cL_law 324 = .ok (.iconst 3, 1) := by decide +kernel
theorem dL_law_325 : decode cL_law 325 = .ok (.iadd, 1) := by decide +kernel
theorem dL_law_326 : decode cL_law 326 = .ok (.iaload, 1) := by decide +kernel
theorem dL_law_327 : decode cL_law 327 = .ok (.invokevirtual 44, 3) := by decide +kernel
theorem dL_law_330 : decode cL_law 330 = .ok (.if_icmp .eq 647, 3) := by decide +kernel
theorem dL_law_333 : decode cL_law 333 = .ok (.iconst 0, 1) := by decide +kernel
theorem dL_law_334 : decode cL_law 334 = .ok (.ireturn, 1) := by decide +kernel
theorem dL_law_335 : decode cL_law 335 = .ok (.aload_n 1, 1) := by decide +kernel
theorem dL_law_336 : decode cL_law 336 = .ok (.aload_n 0, 1) := by decide +kernel
theorem dL_law_337 : decode cL_law 337 = .ok (.iload_n 3, 1) := by decide +kernel
theorem dL_law_338 : decode cL_law 338 = .ok (.iconst 1, 1) := by decide +kernel
theorem dL_law_339 : decode cL_law 339 = .ok (.iadd, 1) := by decide +kernel
theorem dL_law_340 : decode cL_law 340 = .ok (.iaload, 1) := by decide +kernel
theorem dL_law_341 : decode cL_law 341 = .ok (.aload_n 0, 1) := by decide +kernel
theorem dL_law_342 : decode cL_law 342 = .ok (.iload_n 3, 1) := by decide +kernel
theorem dL_law_343 : decode cL_law 343 = .ok (.iconst 2, 1) := by decide +kernel
theorem dL_law_344 : decode cL_law 344 = .ok (.iadd, 1) := by decide +kernel
theorem dL_law_345 : decode cL_law 345 = .ok (.iaload, 1) := by decide +kernel
theorem dL_law_346 : decode cL_law 346 = .ok (.aload_n 0, 1) := by decide +kernel
theorem dL_law_347 : decode cL_law 347 = .ok (.iload_n 3, 1) := by decide +kernel
theorem dL_law_348 : decode cL_law 348 = .ok (.iconst 3, 1) := by decide +kernel
theorem dL_law_349 : decode cL_law 349 = .ok (.iadd, 1) := by decide +kernel
theorem dL_law_350 : decode cL_law 350 = .ok (.iaload, 1) := by decide +kernel
theorem dL_law_351 : decode cL_law 351 = .ok (.invokevirtual 45, 3) := by decide +kernel
theorem dL_law_354 : decode cL_law 354 = .ok (.aload_n 2, 1) := by decide +kernel
theorem dL_law_355 : decode cL_law 355 = .ok (.aload_n 0, 1) := by decide +kernel
theorem dL_law_356 : decode cL_law 356 = .ok (.iload_n 3, 1) := by decide +kernel
theorem dL_law_357 : decode cL_law 357 = .ok (.iconst 1, 1) := by decide +kernel
theorem dL_law_358 : decode cL_law 358 = .ok (.iadd, 1) := by decide +kernel
theorem dL_law_359 : decode cL_law 359 = .ok (.iaload, 1) := by decide +kernel
theorem dL_law_360 : decode cL_law 360 = .ok (.aload_n 0, 1) := by decide +kernel
theorem dL_law_361 : decode cL_law 361 = .ok (.iload_n 3, 1) := by decide +kernel
theorem dL_law_362 : decode cL_law 362 = .ok (.iconst 2, 1) := by decide +kernel
theorem dL_law_363 : decode cL_law 363 = .ok (.iadd, 1) := by decide +kernel
theorem dL_law_364 : decode cL_law 364 = .ok (.iaload, 1) := by decide +kernel
theorem dL_law_365 : decode cL_law 365 = .ok (.aload_n 0, 1) := by decide +kernel
theorem dL_law_366 : decode cL_law 366 = .ok (.iload_n 3, 1) := by decide +kernel
theorem dL_law_367 : decode cL_law 367 = .ok (.iconst 3, 1) := by decide +kernel
theorem dL_law_368 : decode cL_law 368 = .ok (.iadd, 1) := by decide +kernel
theorem dL_law_369 : decode cL_law 369 = .ok (.iaload, 1) := by decide +kernel
theorem dL_law_370 : decode cL_law 370 = .ok (.invokevirtual 48, 3) := by decide +kernel
theorem dL_law_373 : decode cL_law 373 = .ok (.if_icmp .eq 604, 3) := by decide +kernel
theorem dL_law_376 : decode cL_law 376 = .ok (.iconst 0, 1) := by decide +kernel
theorem dL_law_377 : decode cL_law 377 = .ok (.ireturn, 1) := by decide +kernel
theorem dL_law_378 : decode cL_law 378 = .ok (.aload_n 1, 1) := by decide +kernel
theorem dL_law_379 : decode cL_law 379 = .ok (.aload_n 0, 1) := by decide +kernel
theorem dL_law_380 : decode cL_law 380 = .ok (.iload_n 3, 1) := by decide +kernel
theorem dL_law_381 : decode cL_law 381 = .ok (.iconst 1, 1) := by decide +kernel
theorem dL_law_382 : decode cL_law 382 = .ok (.iadd, 1) := by decide +kernel
theorem dL_law_383 : decode cL_law 383 = .ok (.iaload, 1) := by decide +kernel
theorem dL_law_384 : decode cL_law 384 = .ok (.invokevirtual 49, 3) := by decide +kernel
theorem dL_law_387 : decode cL_law 387 = .ok (.aload_n 2, 1) := by decide +kernel
theorem dL_law_388 : decode cL_law 388 = .ok (.aload_n 0, 1) := by decide +kernel
theorem dL_law_389 : decode cL_law 389 = .ok (.iload_n 3, 1) := by decide +kernel
theorem dL_law_390 : decode cL_law 390 = .ok (.iconst 1, 1) := by decide +kernel
theorem dL_law_391 : decode cL_law 391 = .ok (.iadd, 1) := by decide +kernel
theorem dL_law_392 : decode cL_law 392 = .ok (.iaload, 1) := by decide +kernel
theorem dL_law_393 : decode cL_law 393 = .ok (.invokevirtual 52, 3) := by decide +kernel
theorem dL_law_396 : decode cL_law 396 = .ok (.if_icmp .eq 581, 3) := by decide +kernel
theorem dL_law_399 : decode cL_law 399 = .ok (.iconst 0, 1) := by decide +kernel
theorem dL_law_400 : decode cL_law 400 = .ok (.ireturn, 1) := by decide +kernel
theorem dL_law_401 : decode cL_law 401 = .ok (.aload_n 1, 1) := by decide +kernel
theorem dL_law_402 : decode cL_law 402 = .ok (.aload_n 0, 1) := by decide +kernel
theorem dL_law_403 : decode cL_law 403 = .ok (.iload_n 3, 1) := by decide +kernel
theorem dL_law_404 : decode cL_law 404 = .ok (.iconst 1, 1) := by decide +kernel
theorem dL_law_405 : decode cL_law 405 = .ok (.iadd, 1) := by decide +kernel
theorem dL_law_406 : decode cL_law 406 = .ok (.iaload, 1) := by decide +kernel
theorem dL_law_407 : decode cL_law 407 = .ok (.aload_n 0, 1) := by decide +kernel
theorem dL_law_408 : decode cL_law 408 = .ok (.iload_n 3, 1) := by decide +kernel
theorem dL_law_409 : decode cL_law 409 = .ok (.iconst 2, 1) := by decide +kernel
theorem dL_law_410 : decode cL_law 410 = .ok (.iadd, 1) := by decide +kernel
theorem dL_law_411 : decode cL_law 411 = .ok (.iaload, 1) := by decide +kernel
theorem dL_law_412 : decode cL_law 412 = .ok (.aload_n 0, 1) := by decide +kernel
theorem dL_law_413 : decode cL_law 413 = .ok (.iload_n 3, 1) := by decide +kernel
theorem dL_law_414 : decode cL_law 414 = .ok (.iconst 3, 1) := by decide +kernel
theorem dL_law_415 : decode cL_law 415 = .ok (.iadd, 1) := by decide +kernel
theorem dL_law_416 : decode cL_law 416 = .ok (.iaload, 1) := by decide +kernel
theorem dL_law_417 : decode cL_law 417 = .ok (.aload_n 0, 1) := by decide +kernel
theorem dL_law_418 : decode cL_law 418 = .ok (.iload_n 3, 1) := by decide +kernel
theorem dL_law_419 : decode cL_law 419 = .ok (.iconst 4, 1) := by decide +kernel
theorem dL_law_420 : decode cL_law 420 = .ok (.iadd, 1) := by decide +kernel
theorem dL_law_421 : decode cL_law 421 = .ok (.iaload, 1) := by decide +kernel
theorem dL_law_422 : decode cL_law 422 = .ok (.invokevirtual 53, 3) := by decide +kernel
theorem dL_law_425 : decode cL_law 425 = .ok (.aload_n 2, 1) := by decide +kernel
theorem dL_law_426 : decode cL_law 426 = .ok (.aload_n 0, 1) := by decide +kernel
theorem dL_law_427 : decode cL_law 427 = .ok (.iload_n 3, 1) := by decide +kernel
theorem dL_law_428 : decode cL_law 428 = .ok (.iconst 1, 1) := by decide +kernel
theorem dL_law_429 : decode cL_law 429 = .ok (.iadd, 1) := by decide +kernel
theorem dL_law_430 : decode cL_law 430 = .ok (.iaload, 1) := by decide +kernel
theorem dL_law_431 : decode cL_law 431 = .ok (.aload_n 0, 1) := by decide +kernel
theorem dL_law_432 : decode cL_law 432 = .ok (.iload_n 3, 1) := by decide +kernel
theorem dL_law_433 : decode cL_law 433 = .ok (.iconst 2, 1) := by decide +kernel
theorem dL_law_434 : decode cL_law 434 = .ok (.iadd, 1) := by decide +kernel
theorem dL_law_435 : decode cL_law 435 = .ok (.iaload, 1) := by decide +kernel
theorem dL_law_436 : decode cL_law 436 = .ok (.aload_n 0, 1) := by decide +kernel
theorem dL_law_437 : decode cL_law 437 = .ok (.iload_n 3, 1) := by decide +kernel
theorem dL_law_438 : decode cL_law 438 = .ok (.iconst 3, 1) := by decide +kernel
theorem dL_law_439 : decode cL_law 439 = .ok (.iadd, 1) := by decide +kernel
theorem dL_law_440 : decode cL_law 440 = .ok (.iaload, 1) := by decide +kernel
theorem dL_law_441 : decode cL_law 441 = .ok (.aload_n 0, 1) := by decide +kernel
theorem dL_law_442 : decode cL_law 442 = .ok (.iload_n 3, 1) := by decide +kernel
theorem dL_law_443 : decode cL_law 443 = .ok (.iconst 4, 1) := by decide +kernel
theorem dL_law_444 : decode cL_law 444 = .ok (.iadd, 1) := by decide +kernel
theorem dL_law_445 : decode cL_law 445 = .ok (.iaload, 1) := by decide +kernel
theorem dL_law_446 : decode cL_law 446 = .ok (.invokevirtual 57, 3) := by decide +kernel
theorem dL_law_449 : decode cL_law 449 = .ok (.if_icmp .eq 528, 3) := by decide +kernel
theorem dL_law_452 : decode cL_law 452 = .ok (.iconst 0, 1) := by decide +kernel
theorem dL_law_453 : decode cL_law 453 = .ok (.ireturn, 1) := by decide +kernel
theorem dL_law_454 : decode cL_law 454 = .ok (.aload_n 1, 1) := by decide +kernel
theorem dL_law_455 : decode cL_law 455 = .ok (.aload_n 0, 1) := by decide +kernel
theorem dL_law_456 : decode cL_law 456 = .ok (.iload_n 3, 1) := by decide +kernel
theorem dL_law_457 : decode cL_law 457 = .ok (.iconst 1, 1) := by decide +kernel
theorem dL_law_458 : decode cL_law 458 = .ok (.iadd, 1) := by decide +kernel
theorem dL_law_459 : decode cL_law 459 = .ok (.iaload, 1) := by decide +kernel
theorem dL_law_460 : decode cL_law 460 = .ok (.aload_n 0, 1) := by decide +kernel
theorem dL_law_461 : decode cL_law 461 = .ok (.iload_n 3, 1) := by decide +kernel
theorem dL_law_462 : decode cL_law 462 = .ok (.iconst 2, 1) := by decide +kernel
theorem dL_law_463 : decode cL_law 463 = .ok (.iadd, 1) := by decide +kernel
theorem dL_law_464 : decode cL_law 464 = .ok (.iaload, 1) := by decide +kernel
theorem dL_law_465 : decode cL_law 465 = .ok (.invokevirtual 58, 3) := by decide +kernel
theorem dL_law_468 : decode cL_law 468 = .ok (.aload_n 2, 1) := by decide +kernel
theorem dL_law_469 : decode cL_law 469 = .ok (.aload_n 0, 1) := by decide +kernel
theorem dL_law_470 : decode cL_law 470 = .ok (.iload_n 3, 1) := by decide +kernel
theorem dL_law_471 : decode cL_law 471 = .ok (.iconst 1, 1) := by decide +kernel
theorem dL_law_472 : decode cL_law 472 = .ok (.iadd, 1) := by decide +kernel
theorem dL_law_473 : decode cL_law 473 = .ok (.iaload, 1) := by decide +kernel
theorem dL_law_474 : decode cL_law 474 = .ok (.aload_n 0, 1) := by decide +kernel
theorem dL_law_475 : decode cL_law 475 = .ok (.iload_n 3, 1) := by decide +kernel
theorem dL_law_476 : decode cL_law 476 = .ok (.iconst 2, 1) := by decide +kernel
theorem dL_law_477 : decode cL_law 477 = .ok (.iadd, 1) := by decide +kernel
theorem dL_law_478 : decode cL_law 478 = .ok (.iaload, 1) := by decide +kernel
theorem dL_law_479 : decode cL_law 479 = .ok (.invokevirtual 61, 3) := by decide +kernel
theorem dL_law_482 : decode cL_law 482 = .ok (.if_icmp .eq 495, 3) := by decide +kernel
theorem dL_law_485 : decode cL_law 485 = .ok (.iconst 0, 1) := by decide +kernel
theorem dL_law_486 : decode cL_law 486 = .ok (.ireturn, 1) := by decide +kernel
theorem dL_law_487 : decode cL_law 487 = .ok (.aload_n 1, 1) := by decide +kernel
theorem dL_law_488 : decode cL_law 488 = .ok (.aload_n 0, 1) := by decide +kernel
theorem dL_law_489 : decode cL_law 489 = .ok (.iload_n 3, 1) := by decide +kernel
theorem dL_law_490 : decode cL_law 490 = .ok (.iconst 1, 1) := by decide +kernel
theorem dL_law_491 : decode cL_law 491 = .ok (.iadd, 1) := by decide +kernel
theorem dL_law_492 : decode cL_law 492 = .ok (.iaload, 1) := by decide +kernel
theorem dL_law_493 : decode cL_law 493 = .ok (.invokevirtual 62, 3) := by decide +kernel
theorem dL_law_496 : decode cL_law 496 = .ok (.aload_n 2, 1) := by decide +kernel
theorem dL_law_497 : decode cL_law 497 = .ok (.aload_n 0, 1) := by decide +kernel
theorem dL_law_498 : decode cL_law 498 = .ok (.iload_n 3, 1) := by decide +kernel
theorem dL_law_499 : decode cL_law 499 = .ok (.iconst 1, 1) := by decide +kernel
theorem dL_law_500 : decode cL_law 500 = .ok (.iadd, 1) := by decide +kernel
theorem dL_law_501 : decode cL_law 501 = .ok (.iaload, 1) := by decide +kernel
theorem dL_law_502 : decode cL_law 502 = .ok (.invokevirtual 65, 3) := by decide +kernel
theorem dL_law_505 : decode cL_law 505 = .ok (.if_icmp .eq 472, 3) := by decide +kernel
theorem dL_law_508 : decode cL_law 508 = .ok (.iconst 0, 1) := by decide +kernel
theorem dL_law_509 : decode cL_law 509 = .ok (.ireturn, 1) := by decide +kernel
theorem dL_law_510 : decode cL_law 510 = .ok (.aload_n 1, 1) := by decide +kernel
theorem dL_law_511 : decode cL_law 511 = .ok (.invokevirtual 66, 3) := by decide +kernel
theorem dL_law_514 : decode cL_law 514 = .ok (.aload_n 2, 1) := by decide +kernel
theorem dL_law_515 : decode cL_law 515 = .ok (.invokevirtual 69, 3) := by decide +kernel
theorem dL_law_518 : decode cL_law 518 = .ok (.if_icmp .eq 459, 3) := by decide +kernel
theorem dL_law_521 : decode cL_law 521 = .ok (.iconst 0, 1) := by decide +kernel
theorem dL_law_522 : decode cL_law 522 = .ok (.ireturn, 1) := by decide +kernel
theorem dL_law_523 : decode cL_law 523 = .ok (.aload_n 1, 1) := by decide +kernel
theorem dL_law_524 : decode cL_law 524 = .ok (.aload_n 0, 1) := by decide +kernel
theorem dL_law_525 : decode cL_law 525 = .ok (.iload_n 3, 1) := by decide +kernel
theorem dL_law_526 : decode cL_law 526 = .ok (.iconst 1, 1) := by decide +kernel
theorem dL_law_527 : decode cL_law 527 = .ok (.iadd, 1) := by decide +kernel
theorem dL_law_528 : decode cL_law 528 = .ok (.iaload, 1) := by decide +kernel
theorem dL_law_529 : decode cL_law 529 = .ok (.aload_n 0, 1) := by decide +kernel
theorem dL_law_530 : decode cL_law 530 = .ok (.iload_n 3, 1) := by decide +kernel
theorem dL_law_531 : decode cL_law 531 = .ok (.iconst 2, 1) := by decide +kernel
theorem dL_law_532 : decode cL_law 532 = .ok (.iadd, 1) := by decide +kernel
theorem dL_law_533 : decode cL_law 533 = .ok (.iaload, 1) := by decide +kernel
theorem dL_law_534 : decode cL_law 534 = .ok (.invokevirtual 70, 3) := by decide +kernel
theorem dL_law_537 : decode cL_law 537 = .ok (.aload_n 2, 1) := by decide +kernel
theorem dL_law_538 : decode cL_law 538 = .ok (.aload_n 0, 1) := by decide +kernel
theorem dL_law_539 : decode cL_law 539 = .ok (.iload_n 3, 1) := by decide +kernel
theorem dL_law_540 : decode cL_law 540 = .ok (.iconst 1, 1) := by decide +kernel
theorem dL_law_541 : decode cL_law 541 = .ok (.iadd, 1) := by decide +kernel
theorem dL_law_542 : decode cL_law 542 = .ok (.iaload, 1) := by decide +kernel
theorem dL_law_543 : decode cL_law 543 = .ok (.aload_n 0, 1) := by decide +kernel
theorem dL_law_544 : decode cL_law 544 = .ok (.iload_n 3, 1) := by decide +kernel
theorem dL_law_545 : decode cL_law 545 = .ok (.iconst 2, 1) := by decide +kernel
theorem dL_law_546 : decode cL_law 546 = .ok (.iadd, 1) := by decide +kernel
theorem dL_law_547 : decode cL_law 547 = .ok (.iaload, 1) := by decide +kernel
theorem dL_law_548 : decode cL_law 548 = .ok (.invokevirtual 73, 3) := by decide +kernel
theorem dL_law_551 : decode cL_law 551 = .ok (.if_icmp .eq 426, 3) := by decide +kernel
theorem dL_law_554 : decode cL_law 554 = .ok (.iconst 0, 1) := by decide +kernel
theorem dL_law_555 : decode cL_law 555 = .ok (.ireturn, 1) := by decide +kernel
theorem dL_law_556 : decode cL_law 556 = .ok (.aload_n 1, 1) := by decide +kernel
theorem dL_law_557 : decode cL_law 557 = .ok (.invokevirtual 74, 3) := by decide +kernel
theorem dL_law_560 : decode cL_law 560 = .ok (.aload_n 2, 1) := by decide +kernel
theorem dL_law_561 : decode cL_law 561 = .ok (.invokevirtual 77, 3) := by decide +kernel
theorem dL_law_564 : decode cL_law 564 = .ok (.if_icmp .eq 413, 3) := by decide +kernel
theorem dL_law_567 : decode cL_law 567 = .ok (.iconst 0, 1) := by decide +kernel
theorem dL_law_568 : decode cL_law 568 = .ok (.ireturn, 1) := by decide +kernel
theorem dL_law_569 : decode cL_law 569 = .ok (.aload_n 1, 1) := by decide +kernel
theorem dL_law_570 : decode cL_law 570 = .ok (.invokevirtual 78, 3) := by decide +kernel
theorem dL_law_573 : decode cL_law 573 = .ok (.aload_n 2, 1) := by decide +kernel
theorem dL_law_574 : decode cL_law 574 = .ok (.invokevirtual 81, 3) := by decide +kernel
theorem dL_law_577 : decode cL_law 577 = .ok (.if_icmp .eq 400, 3) := by decide +kernel
theorem dL_law_580 : decode cL_law 580 = .ok (.iconst 0, 1) := by decide +kernel
theorem dL_law_581 : decode cL_law 581 = .ok (.ireturn, 1) := by decide +kernel
theorem dL_law_582 : decode cL_law 582 = .ok (.aload_n 1, 1) := by decide +kernel
theorem dL_law_583 : decode cL_law 583 = .ok (.aload_n 0, 1) := by decide +kernel
theorem dL_law_584 : decode cL_law 584 = .ok (.iload_n 3, 1) := by decide +kernel
theorem dL_law_585 : decode cL_law 585 = .ok (.iconst 1, 1) := by decide +kernel
theorem dL_law_586 : decode cL_law 586 = .ok (.iadd, 1) := by decide +kernel
theorem dL_law_587 : decode cL_law 587 = .ok (.iaload, 1) := by decide +kernel
theorem dL_law_588 : decode cL_law 588 = .ok (.aload_n 0, 1) := by decide +kernel
theorem dL_law_589 : decode cL_law 589 = .ok (.iload_n 3, 1) := by decide +kernel
theorem dL_law_590 : decode cL_law 590 = .ok (.iconst 2, 1) := by decide +kernel
theorem dL_law_591 : decode cL_law 591 = .ok (.iadd, 1) := by decide +kernel
theorem dL_law_592 : decode cL_law 592 = .ok (.iaload, 1) := by decide +kernel
theorem dL_law_593 : decode cL_law 593 = .ok (.aload_n 0, 1) := by decide +kernel
theorem dL_law_594 : decode cL_law 594 = .ok (.iload_n 3, 1) := by decide +kernel
theorem dL_law_595 : decode cL_law 595 = .ok (.iconst 3, 1) := by decide +kernel
theorem dL_law_596 : decode cL_law 596 = .ok (.iadd, 1) := by decide +kernel
theorem dL_law_597 : decode cL_law 597 = .ok (.iaload, 1) := by decide +kernel
theorem dL_law_598 : decode cL_law 598 = .ok (.invokevirtual 82, 3) := by decide +kernel
theorem dL_law_601 : decode cL_law 601 = .ok (.aload_n 2, 1) := by decide +kernel
theorem dL_law_602 : decode cL_law 602 = .ok (.aload_n 0, 1) := by decide +kernel
theorem dL_law_603 : decode cL_law 603 = .ok (.iload_n 3, 1) := by decide +kernel
theorem dL_law_604 : decode cL_law 604 = .ok (.iconst 1, 1) := by decide +kernel
theorem dL_law_605 : decode cL_law 605 = .ok (.iadd, 1) := by decide +kernel
theorem dL_law_606 : decode cL_law 606 = .ok (.iaload, 1) := by decide +kernel
theorem dL_law_607 : decode cL_law 607 = .ok (.aload_n 0, 1) := by decide +kernel
theorem dL_law_608 : decode cL_law 608 = .ok (.iload_n 3, 1) := by decide +kernel
theorem dL_law_609 : decode cL_law 609 = .ok (.iconst 2, 1) := by decide +kernel
theorem dL_law_610 : decode cL_law 610 = .ok (.iadd, 1) := by decide +kernel
theorem dL_law_611 : decode cL_law 611 = .ok (.iaload, 1) := by decide +kernel
theorem dL_law_612 : decode cL_law 612 = .ok (.aload_n 0, 1) := by decide +kernel
theorem dL_law_613 : decode cL_law 613 = .ok (.iload_n 3, 1) := by decide +kernel
theorem dL_law_614 : decode cL_law 614 = .ok (.iconst 3, 1) := by decide +kernel
theorem dL_law_615 : decode cL_law 615 = .ok (.iadd, 1) := by decide +kernel
theorem dL_law_616 : decode cL_law 616 = .ok (.iaload, 1) := by decide +kernel
theorem dL_law_617 : decode cL_law 617 = .ok (.invokevirtual 85, 3) := by decide +kernel
theorem dL_law_620 : decode cL_law 620 = .ok (.if_icmp .eq 357, 3) := by decide +kernel
theorem dL_law_623 : decode cL_law 623 = .ok (.iconst 0, 1) := by decide +kernel
theorem dL_law_624 : decode cL_law 624 = .ok (.ireturn, 1) := by decide +kernel
theorem dL_law_625 : decode cL_law 625 = .ok (.aload_n 1, 1) := by decide +kernel
theorem dL_law_626 : decode cL_law 626 = .ok (.aload_n 0, 1) := by decide +kernel
theorem dL_law_627 : decode cL_law 627 = .ok (.iload_n 3, 1) := by decide +kernel
theorem dL_law_628 : decode cL_law 628 = .ok (.iconst 1, 1) := by decide +kernel
theorem dL_law_629 : decode cL_law 629 = .ok (.iadd, 1) := by decide +kernel
theorem dL_law_630 : decode cL_law 630 = .ok (.iaload, 1) := by decide +kernel
theorem dL_law_631 : decode cL_law 631 = .ok (.invokevirtual 86, 3) := by decide +kernel
theorem dL_law_634 : decode cL_law 634 = .ok (.aload_n 2, 1) := by decide +kernel
theorem dL_law_635 : decode cL_law 635 = .ok (.aload_n 0, 1) := by decide +kernel
theorem dL_law_636 : decode cL_law 636 = .ok (.iload_n 3, 1) := by decide +kernel
theorem dL_law_637 : decode cL_law 637 = .ok (.iconst 1, 1) := by decide +kernel
theorem dL_law_638 : decode cL_law 638 = .ok (.iadd, 1) := by decide +kernel
theorem dL_law_639 : decode cL_law 639 = .ok (.iaload, 1) := by decide +kernel
theorem dL_law_640 : decode cL_law 640 = .ok (.invokevirtual 89, 3) := by decide +kernel
theorem dL_law_643 : decode cL_law 643 = .ok (.if_icmp .eq 334, 3) := by decide +kernel
theorem dL_law_646 : decode cL_law 646 = .ok (.iconst 0, 1) := by decide +kernel
theorem dL_law_647 : decode cL_law 647 = .ok (.ireturn, 1) := by decide +kernel
theorem dL_law_648 : decode cL_law 648 = .ok (.aload_n 1, 1) := by decide +kernel
theorem dL_law_649 : decode cL_law 649 = .ok (.aload_n 0, 1) := by decide +kernel
theorem dL_law_650 : decode cL_law 650 = .ok (.iload_n 3, 1) := by decide +kernel
theorem dL_law_651 : decode cL_law 651 = .ok (.iconst 1, 1) := by decide +kernel
theorem dL_law_652 : decode cL_law 652 = .ok (.iadd, 1) := by decide +kernel
theorem dL_law_653 : decode cL_law 653 = .ok (.iaload, 1) := by decide +kernel
theorem dL_law_654 : decode cL_law 654 = .ok (.invokevirtual 90, 3) := by decide +kernel
theorem dL_law_657 : decode cL_law 657 = .ok (.aload_n 2, 1) := by decide +kernel
theorem dL_law_658 : decode cL_law 658 = .ok (.aload_n 0, 1) := by decide +kernel
theorem dL_law_659 : decode cL_law 659 = .ok (.iload_n 3, 1) := by decide +kernel
theorem dL_law_660 : decode cL_law 660 = .ok (.iconst 1, 1) := by decide +kernel
theorem dL_law_661 : decode cL_law 661 = .ok (.iadd, 1) := by decide +kernel
theorem dL_law_662 : decode cL_law 662 = .ok (.iaload, 1) := by decide +kernel
theorem dL_law_663 : decode cL_law 663 = .ok (.invokevirtual 93, 3) := by decide +kernel
theorem dL_law_666 : decode cL_law 666 = .ok (.if_icmp .eq 311, 3) := by decide +kernel
theorem dL_law_669 : decode cL_law 669 = .ok (.iconst 0, 1) := by decide +kernel
theorem dL_law_670 : decode cL_law 670 = .ok (.ireturn, 1) := by decide +kernel
theorem dL_law_671 : decode cL_law 671 = .ok (.aload_n 1, 1) := by decide +kernel
theorem dL_law_672 : decode cL_law 672 = .ok (.aload_n 0, 1) := by decide +kernel
theorem dL_law_673 : decode cL_law 673 = .ok (.iload_n 3, 1) := by decide +kernel
theorem dL_law_674 : decode cL_law 674 = .ok (.iconst 1, 1) := by decide +kernel
theorem dL_law_675 : decode cL_law 675 = .ok (.iadd, 1) := by decide +kernel
theorem dL_law_676 : decode cL_law 676 = .ok (.iaload, 1) := by decide +kernel
theorem dL_law_677 : decode cL_law 677 = .ok (.aload_n 0, 1) := by decide +kernel
theorem dL_law_678 : decode cL_law 678 = .ok (.iload_n 3, 1) := by decide +kernel
theorem dL_law_679 : decode cL_law 679 = .ok (.iconst 2, 1) := by decide +kernel
theorem dL_law_680 : decode cL_law 680 = .ok (.iadd, 1) := by decide +kernel
theorem dL_law_681 : decode cL_law 681 = .ok (.iaload, 1) := by decide +kernel
theorem dL_law_682 : decode cL_law 682 = .ok (.aload_n 0, 1) := by decide +kernel
theorem dL_law_683 : decode cL_law 683 = .ok (.iload_n 3, 1) := by decide +kernel
theorem dL_law_684 : decode cL_law 684 = .ok (.iconst 3, 1) := by decide +kernel
theorem dL_law_685 : decode cL_law 685 = .ok (.iadd, 1) := by decide +kernel
theorem dL_law_686 : decode cL_law 686 = .ok (.iaload, 1) := by decide +kernel
theorem dL_law_687 : decode cL_law 687 = .ok (.aload_n 0, 1) := by decide +kernel
theorem dL_law_688 : decode cL_law 688 = .ok (.iload_n 3, 1) := by decide +kernel
theorem dL_law_689 : decode cL_law 689 = .ok (.iconst 4, 1) := by decide +kernel
theorem dL_law_690 : decode cL_law 690 = .ok (.iadd, 1) := by decide +kernel
theorem dL_law_691 : decode cL_law 691 = .ok (.iaload, 1) := by decide +kernel
theorem dL_law_692 : decode cL_law 692 = .ok (.ifCond .eq 7, 3) := by decide +kernel
theorem dL_law_695 : decode cL_law 695 = .ok (.iconst 1, 1) := by decide +kernel
theorem dL_law_696 : decode cL_law 696 = .ok (.goto 4, 3) := by decide +kernel
theorem dL_law_699 : decode cL_law 699 = .ok (.iconst 0, 1) := by decide +kernel
theorem dL_law_700 : decode cL_law 700 = .ok (.invokevirtual 94, 3) := by decide +kernel
theorem dL_law_703 : decode cL_law 703 = .ok (.aload_n 2, 1) := by decide +kernel
theorem dL_law_704 : decode cL_law 704 = .ok (.aload_n 0, 1) := by decide +kernel
theorem dL_law_705 : decode cL_law 705 = .ok (.iload_n 3, 1) := by decide +kernel
theorem dL_law_706 : decode cL_law 706 = .ok (.iconst 1, 1) := by decide +kernel
theorem dL_law_707 : decode cL_law 707 = .ok (.iadd, 1) := by decide +kernel
theorem dL_law_708 : decode cL_law 708 = .ok (.iaload, 1) := by decide +kernel
theorem dL_law_709 : decode cL_law 709 = .ok (.aload_n 0, 1) := by decide +kernel
theorem dL_law_710 : decode cL_law 710 = .ok (.iload_n 3, 1) := by decide +kernel
theorem dL_law_711 : decode cL_law 711 = .ok (.iconst 2, 1) := by decide +kernel
theorem dL_law_712 : decode cL_law 712 = .ok (.iadd, 1) := by decide +kernel
theorem dL_law_713 : decode cL_law 713 = .ok (.iaload, 1) := by decide +kernel
theorem dL_law_714 : decode cL_law 714 = .ok (.aload_n 0, 1) := by decide +kernel
theorem dL_law_715 : decode cL_law 715 = .ok (.iload_n 3, 1) := by decide +kernel
theorem dL_law_716 : decode cL_law 716 = .ok (.iconst 3, 1) := by decide +kernel
theorem dL_law_717 : decode cL_law 717 = .ok (.iadd, 1) := by decide +kernel
theorem dL_law_718 : decode cL_law 718 = .ok (.iaload, 1) := by decide +kernel
theorem dL_law_719 : decode cL_law 719 = .ok (.aload_n 0, 1) := by decide +kernel
theorem dL_law_720 : decode cL_law 720 = .ok (.iload_n 3, 1) := by decide +kernel
theorem dL_law_721 : decode cL_law 721 = .ok (.iconst 4, 1) := by decide +kernel
theorem dL_law_722 : decode cL_law 722 = .ok (.iadd, 1) := by decide +kernel
theorem dL_law_723 : decode cL_law 723 = .ok (.iaload, 1) := by decide +kernel
theorem dL_law_724 : decode cL_law 724 = .ok (.ifCond .eq 7, 3) := by decide +kernel
theorem dL_law_727 : decode cL_law 727 = .ok (.iconst 1, 1) := by decide +kernel
theorem dL_law_728 : decode cL_law 728 = .ok (.goto 4, 3) := by decide +kernel
theorem dL_law_731 : decode cL_law 731 = .ok (.iconst 0, 1) := by decide +kernel
theorem dL_law_732 : decode cL_law 732 = .ok (.invokevirtual 98, 3) := by decide +kernel
theorem dL_law_735 : decode cL_law 735 = .ok (.if_icmp .eq 242, 3) := by decide +kernel
theorem dL_law_738 : decode cL_law 738 = .ok (.iconst 0, 1) := by decide +kernel
theorem dL_law_739 : decode cL_law 739 = .ok (.ireturn, 1) := by decide +kernel
theorem dL_law_740 : decode cL_law 740 = .ok (.aload_n 1, 1) := by decide +kernel
theorem dL_law_741 : decode cL_law 741 = .ok (.invokevirtual 99, 3) := by decide +kernel
theorem dL_law_744 : decode cL_law 744 = .ok (.aload_n 2, 1) := by decide +kernel
theorem dL_law_745 : decode cL_law 745 = .ok (.invokevirtual 102, 3) := by decide +kernel
theorem dL_law_748 : decode cL_law 748 = .ok (.if_icmp .eq 229, 3) := by decide +kernel
theorem dL_law_751 : decode cL_law 751 = .ok (.iconst 0, 1) := by decide +kernel
theorem dL_law_752 : decode cL_law 752 = .ok (.ireturn, 1) := by decide +kernel
theorem dL_law_753 : decode cL_law 753 = .ok (.aload_n 1, 1) := by decide +kernel
theorem dL_law_754 : decode cL_law 754 = .ok (.aload_n 0, 1) := by decide +kernel
theorem dL_law_755 : decode cL_law 755 = .ok (.iload_n 3, 1) := by decide +kernel
theorem dL_law_756 : decode cL_law 756 = .ok (.iconst 1, 1) := by decide +kernel
theorem dL_law_757 : decode cL_law 757 = .ok (.iadd, 1) := by decide +kernel
theorem dL_law_758 : decode cL_law 758 = .ok (.iaload, 1) := by decide +kernel
theorem dL_law_759 : decode cL_law 759 = .ok (.invokevirtual 103, 3) := by decide +kernel
theorem dL_law_762 : decode cL_law 762 = .ok (.aload_n 2, 1) := by decide +kernel
theorem dL_law_763 : decode cL_law 763 = .ok (.aload_n 0, 1) := by decide +kernel
theorem dL_law_764 : decode cL_law 764 = .ok (.iload_n 3, 1) := by decide +kernel
theorem dL_law_765 : decode cL_law 765 = .ok (.iconst 1, 1) := by decide +kernel
theorem dL_law_766 : decode cL_law 766 = .ok (.iadd, 1) := by decide +kernel
theorem dL_law_767 : decode cL_law 767 = .ok (.iaload, 1) := by decide +kernel
theorem dL_law_768 : decode cL_law 768 = .ok (.invokevirtual 106, 3) := by decide +kernel
theorem dL_law_771 : decode cL_law 771 = .ok (.if_icmp .eq 206, 3) := by decide +kernel
theorem dL_law_774 : decode cL_law 774 = .ok (.iconst 0, 1) := by decide +kernel
theorem dL_law_775 : decode cL_law 775 = .ok (.ireturn, 1) := by decide +kernel
theorem dL_law_776 : decode cL_law 776 = .ok (.aload_n 1, 1) := by decide +kernel
theorem dL_law_777 : decode cL_law 777 = .ok (.aload_n 0, 1) := by decide +kernel
theorem dL_law_778 : decode cL_law 778 = .ok (.iload_n 3, 1) := by decide +kernel
theorem dL_law_779 : decode cL_law 779 = .ok (.iconst 1, 1) := by decide +kernel
theorem dL_law_780 : decode cL_law 780 = .ok (.iadd, 1) := by decide +kernel
theorem dL_law_781 : decode cL_law 781 = .ok (.iaload, 1) := by decide +kernel
theorem dL_law_782 : decode cL_law 782 = .ok (.aload_n 0, 1) := by decide +kernel
theorem dL_law_783 : decode cL_law 783 = .ok (.iload_n 3, 1) := by decide +kernel
theorem dL_law_784 : decode cL_law 784 = .ok (.iconst 2, 1) := by decide +kernel
theorem dL_law_785 : decode cL_law 785 = .ok (.iadd, 1) := by decide +kernel
theorem dL_law_786 : decode cL_law 786 = .ok (.iaload, 1) := by decide +kernel
theorem dL_law_787 : decode cL_law 787 = .ok (.invokevirtual 107, 3) := by decide +kernel
theorem dL_law_790 : decode cL_law 790 = .ok (.aload_n 2, 1) := by decide +kernel
theorem dL_law_791 : decode cL_law 791 = .ok (.aload_n 0, 1) := by decide +kernel
theorem dL_law_792 : decode cL_law 792 = .ok (.iload_n 3, 1) := by decide +kernel
theorem dL_law_793 : decode cL_law 793 = .ok (.iconst 1, 1) := by decide +kernel
theorem dL_law_794 : decode cL_law 794 = .ok (.iadd, 1) := by decide +kernel
theorem dL_law_795 : decode cL_law 795 = .ok (.iaload, 1) := by decide +kernel
theorem dL_law_796 : decode cL_law 796 = .ok (.aload_n 0, 1) := by decide +kernel
theorem dL_law_797 : decode cL_law 797 = .ok (.iload_n 3, 1) := by decide +kernel
theorem dL_law_798 : decode cL_law 798 = .ok (.iconst 2, 1) := by decide +kernel
theorem dL_law_799 : decode cL_law 799 = .ok (.iadd, 1) := by decide +kernel
theorem dL_law_800 : decode cL_law 800 = .ok (.iaload, 1) := by decide +kernel
theorem dL_law_801 : decode cL_law 801 = .ok (.invokevirtual 110, 3) := by decide +kernel
theorem dL_law_804 : decode cL_law 804 = .ok (.if_icmp .eq 173, 3) := by decide +kernel
theorem dL_law_807 : decode cL_law 807 = .ok (.iconst 0, 1) := by decide +kernel
theorem dL_law_808 : decode cL_law 808 = .ok (.ireturn, 1) := by decide +kernel
theorem dL_law_809 : decode cL_law 809 = .ok (.aload_n 1, 1) := by decide +kernel
theorem dL_law_810 : decode cL_law 810 = .ok (.aload_n 0, 1) := by decide +kernel
theorem dL_law_811 : decode cL_law 811 = .ok (.iload_n 3, 1) := by decide +kernel
theorem dL_law_812 : decode cL_law 812 = .ok (.iconst 1, 1) := by decide +kernel
theorem dL_law_813 : decode cL_law 813 = .ok (.iadd, 1) := by decide +kernel
theorem dL_law_814 : decode cL_law 814 = .ok (.iaload, 1) := by decide +kernel
theorem dL_law_815 : decode cL_law 815 = .ok (.aload_n 0, 1) := by decide +kernel
theorem dL_law_816 : decode cL_law 816 = .ok (.iload_n 3, 1) := by decide +kernel
theorem dL_law_817 : decode cL_law 817 = .ok (.iconst 2, 1) := by decide +kernel
theorem dL_law_818 : decode cL_law 818 = .ok (.iadd, 1) := by decide +kernel
theorem dL_law_819 : decode cL_law 819 = .ok (.iaload, 1) := by decide +kernel
theorem dL_law_820 : decode cL_law 820 = .ok (.invokevirtual 111, 3) := by decide +kernel
theorem dL_law_823 : decode cL_law 823 = .ok (.aload_n 2, 1) := by decide +kernel
theorem dL_law_824 : decode cL_law 824 = .ok (.aload_n 0, 1) := by decide +kernel
theorem dL_law_825 : decode cL_law 825 = .ok (.iload_n 3, 1) := by decide +kernel
theorem dL_law_826 : decode cL_law 826 = .ok (.iconst 1, 1) := by decide +kernel
theorem dL_law_827 : decode cL_law 827 = .ok (.iadd, 1) := by decide +kernel
theorem dL_law_828 : decode cL_law 828 = .ok (.iaload, 1) := by decide +kernel
theorem dL_law_829 : decode cL_law 829 = .ok (.aload_n 0, 1) := by decide +kernel
theorem dL_law_830 : decode cL_law 830 = .ok (.iload_n 3, 1) := by decide +kernel
theorem dL_law_831 : decode cL_law 831 = .ok (.iconst 2, 1) := by decide +kernel
theorem dL_law_832 : decode cL_law 832 = .ok (.iadd, 1) := by decide +kernel
theorem dL_law_833 : decode cL_law 833 = .ok (.iaload, 1) := by decide +kernel
theorem dL_law_834 : decode cL_law 834 = .ok (.invokevirtual 114, 3) := by decide +kernel
theorem dL_law_837 : decode cL_law 837 = .ok (.if_icmp .eq 140, 3) := by decide +kernel
theorem dL_law_840 : decode cL_law 840 = .ok (.iconst 0, 1) := by decide +kernel
theorem dL_law_841 : decode cL_law 841 = .ok (.ireturn, 1) := by decide +kernel
theorem dL_law_842 : decode cL_law 842 = .ok (.aload_n 1, 1) := by decide +kernel
theorem dL_law_843 : decode cL_law 843 = .ok (.aload_n 0, 1) := by decide +kernel
theorem dL_law_844 : decode cL_law 844 = .ok (.iload_n 3, 1) := by decide +kernel
theorem dL_law_845 : decode cL_law 845 = .ok (.iconst 1, 1) := by decide +kernel
theorem dL_law_846 : decode cL_law 846 = .ok (.iadd, 1) := by decide +kernel
theorem dL_law_847 : decode cL_law 847 = .ok (.iaload, 1) := by decide +kernel
theorem dL_law_848 : decode cL_law 848 = .ok (.aload_n 0, 1) := by decide +kernel
theorem dL_law_849 : decode cL_law 849 = .ok (.iload_n 3, 1) := by decide +kernel
theorem dL_law_850 : decode cL_law 850 = .ok (.iconst 2, 1) := by decide +kernel
theorem dL_law_851 : decode cL_law 851 = .ok (.iadd, 1) := by decide +kernel
theorem dL_law_852 : decode cL_law 852 = .ok (.iaload, 1) := by decide +kernel
theorem dL_law_853 : decode cL_law 853 = .ok (.aload_n 0, 1) := by decide +kernel
theorem dL_law_854 : decode cL_law 854 = .ok (.iload_n 3, 1) := by decide +kernel
theorem dL_law_855 : decode cL_law 855 = .ok (.iconst 3, 1) := by decide +kernel
theorem dL_law_856 : decode cL_law 856 = .ok (.iadd, 1) := by decide +kernel
theorem dL_law_857 : decode cL_law 857 = .ok (.iaload, 1) := by decide +kernel
theorem dL_law_858 : decode cL_law 858 = .ok (.invokevirtual 115, 3) := by decide +kernel
theorem dL_law_861 : decode cL_law 861 = .ok (.aload_n 2, 1) := by decide +kernel
theorem dL_law_862 : decode cL_law 862 = .ok (.aload_n 0, 1) := by decide +kernel
theorem dL_law_863 : decode cL_law 863 = .ok (.iload_n 3, 1) := by decide +kernel
theorem dL_law_864 : decode cL_law 864 = .ok (.iconst 1, 1) := by decide +kernel
theorem dL_law_865 : decode cL_law 865 = .ok (.iadd, 1) := by decide +kernel
theorem dL_law_866 : decode cL_law 866 = .ok (.iaload, 1) := by decide +kernel
theorem dL_law_867 : decode cL_law 867 = .ok (.aload_n 0, 1) := by decide +kernel
theorem dL_law_868 : decode cL_law 868 = .ok (.iload_n 3, 1) := by decide +kernel
theorem dL_law_869 : decode cL_law 869 = .ok (.iconst 2, 1) := by decide +kernel
theorem dL_law_870 : decode cL_law 870 = .ok (.iadd, 1) := by decide +kernel
theorem dL_law_871 : decode cL_law 871 = .ok (.iaload, 1) := by decide +kernel
theorem dL_law_872 : decode cL_law 872 = .ok (.aload_n 0, 1) := by decide +kernel
theorem dL_law_873 : decode cL_law 873 = .ok (.iload_n 3, 1) := by decide +kernel
theorem dL_law_874 : decode cL_law 874 = .ok (.iconst 3, 1) := by decide +kernel
theorem dL_law_875 : decode cL_law 875 = .ok (.iadd, 1) := by decide +kernel
theorem dL_law_876 : decode cL_law 876 = .ok (.iaload, 1) := by decide +kernel
theorem dL_law_877 : decode cL_law 877 = .ok (.invokevirtual 118, 3) := by decide +kernel
theorem dL_law_880 : decode cL_law 880 = .ok (.if_icmp .eq 97, 3) := by decide +kernel
theorem dL_law_883 : decode cL_law 883 = .ok (.iconst 0, 1) := by decide +kernel
theorem dL_law_884 : decode cL_law 884 = .ok (.ireturn, 1) := by decide +kernel
theorem dL_law_885 : decode cL_law 885 = .ok (.aload_n 1, 1) := by decide +kernel
theorem dL_law_886 : decode cL_law 886 = .ok (.aload_n 0, 1) := by decide +kernel
theorem dL_law_887 : decode cL_law 887 = .ok (.iload_n 3, 1) := by decide +kernel
theorem dL_law_888 : decode cL_law 888 = .ok (.iconst 1, 1) := by decide +kernel
theorem dL_law_889 : decode cL_law 889 = .ok (.iadd, 1) := by decide +kernel
theorem dL_law_890 : decode cL_law 890 = .ok (.iaload, 1) := by decide +kernel
theorem dL_law_891 : decode cL_law 891 = .ok (.aload_n 0, 1) := by decide +kernel
theorem dL_law_892 : decode cL_law 892 = .ok (.iload_n 3, 1) := by decide +kernel
theorem dL_law_893 : decode cL_law 893 = .ok (.iconst 2, 1) := by decide +kernel
theorem dL_law_894 : decode cL_law 894 = .ok (.iadd, 1) := by decide +kernel
theorem dL_law_895 : decode cL_law 895 = .ok (.iaload, 1) := by decide +kernel
theorem dL_law_896 : decode cL_law 896 = .ok (.aload_n 0, 1) := by decide +kernel
theorem dL_law_897 : decode cL_law 897 = .ok (.iload_n 3, 1) := by decide +kernel
theorem dL_law_898 : decode cL_law 898 = .ok (.iconst 3, 1) := by decide +kernel
theorem dL_law_899 : decode cL_law 899 = .ok (.iadd, 1) := by decide +kernel
theorem dL_law_900 : decode cL_law 900 = .ok (.iaload, 1) := by decide +kernel
theorem dL_law_901 : decode cL_law 901 = .ok (.invokevirtual 119, 3) := by decide +kernel
theorem dL_law_904 : decode cL_law 904 = .ok (.aload_n 2, 1) := by decide +kernel
theorem dL_law_905 : decode cL_law 905 = .ok (.aload_n 0, 1) := by decide +kernel
theorem dL_law_906 : decode cL_law 906 = .ok (.iload_n 3, 1) := by decide +kernel
theorem dL_law_907 : decode cL_law 907 = .ok (.iconst 1, 1) := by decide +kernel
theorem dL_law_908 : decode cL_law 908 = .ok (.iadd, 1) := by decide +kernel
theorem dL_law_909 : decode cL_law 909 = .ok (.iaload, 1) := by decide +kernel
theorem dL_law_910 : decode cL_law 910 = .ok (.aload_n 0, 1) := by decide +kernel
theorem dL_law_911 : decode cL_law 911 = .ok (.iload_n 3, 1) := by decide +kernel
theorem dL_law_912 : decode cL_law 912 = .ok (.iconst 2, 1) := by decide +kernel
theorem dL_law_913 : decode cL_law 913 = .ok (.iadd, 1) := by decide +kernel
theorem dL_law_914 : decode cL_law 914 = .ok (.iaload, 1) := by decide +kernel
theorem dL_law_915 : decode cL_law 915 = .ok (.aload_n 0, 1) := by decide +kernel
theorem dL_law_916 : decode cL_law 916 = .ok (.iload_n 3, 1) := by decide +kernel
theorem dL_law_917 : decode cL_law 917 = .ok (.iconst 3, 1) := by decide +kernel
theorem dL_law_918 : decode cL_law 918 = .ok (.iadd, 1) := by decide +kernel
theorem dL_law_919 : decode cL_law 919 = .ok (.iaload, 1) := by decide +kernel
theorem dL_law_920 : decode cL_law 920 = .ok (.invokevirtual 122, 3) := by decide +kernel
theorem dL_law_923 : decode cL_law 923 = .ok (.if_icmp .eq 54, 3) := by decide +kernel
theorem dL_law_926 : decode cL_law 926 = .ok (.iconst 0, 1) := by decide +kernel
theorem dL_law_927 : decode cL_law 927 = .ok (.ireturn, 1) := by decide +kernel
theorem dL_law_928 : decode cL_law 928 = .ok (.aload_n 1, 1) := by decide +kernel
theorem dL_law_929 : decode cL_law 929 = .ok (.invokevirtual 123, 3) := by decide +kernel
theorem dL_law_932 : decode cL_law 932 = .ok (.aload_n 2, 1) := by decide +kernel
theorem dL_law_933 : decode cL_law 933 = .ok (.invokevirtual 126, 3) := by decide +kernel
theorem dL_law_936 : decode cL_law 936 = .ok (.if_icmp .eq 41, 3) := by decide +kernel
theorem dL_law_939 : decode cL_law 939 = .ok (.iconst 0, 1) := by decide +kernel
theorem dL_law_940 : decode cL_law 940 = .ok (.ireturn, 1) := by decide +kernel
theorem dL_law_941 : decode cL_law 941 = .ok (.aload_n 1, 1) := by decide +kernel
theorem dL_law_942 : decode cL_law 942 = .ok (.invokevirtual 127, 3) := by decide +kernel
theorem dL_law_945 : decode cL_law 945 = .ok (.aload_n 2, 1) := by decide +kernel
theorem dL_law_946 : decode cL_law 946 = .ok (.invokevirtual 130, 3) := by decide +kernel
theorem dL_law_949 : decode cL_law 949 = .ok (.if_icmp .eq 28, 3) := by decide +kernel
theorem dL_law_952 : decode cL_law 952 = .ok (.iconst 0, 1) := by decide +kernel
theorem dL_law_953 : decode cL_law 953 = .ok (.ireturn, 1) := by decide +kernel
theorem dL_law_954 : decode cL_law 954 = .ok (.aload_n 1, 1) := by decide +kernel
theorem dL_law_955 : decode cL_law 955 = .ok (.aload_n 0, 1) := by decide +kernel
theorem dL_law_956 : decode cL_law 956 = .ok (.iload_n 3, 1) := by decide +kernel
theorem dL_law_957 : decode cL_law 957 = .ok (.iconst 1, 1) := by decide +kernel
theorem dL_law_958 : decode cL_law 958 = .ok (.iadd, 1) := by decide +kernel
theorem dL_law_959 : decode cL_law 959 = .ok (.iaload, 1) := by decide +kernel
theorem dL_law_960 : decode cL_law 960 = .ok (.invokevirtual 131, 3) := by decide +kernel
theorem dL_law_963 : decode cL_law 963 = .ok (.aload_n 2, 1) := by decide +kernel
theorem dL_law_964 : decode cL_law 964 = .ok (.aload_n 0, 1) := by decide +kernel
theorem dL_law_965 : decode cL_law 965 = .ok (.iload_n 3, 1) := by decide +kernel
theorem dL_law_966 : decode cL_law 966 = .ok (.iconst 1, 1) := by decide +kernel
theorem dL_law_967 : decode cL_law 967 = .ok (.iadd, 1) := by decide +kernel
theorem dL_law_968 : decode cL_law 968 = .ok (.iaload, 1) := by decide +kernel
theorem dL_law_969 : decode cL_law 969 = .ok (.invokevirtual 134, 3) := by decide +kernel
theorem dL_law_972 : decode cL_law 972 = .ok (.if_icmp .eq 5, 3) := by decide +kernel
theorem dL_law_975 : decode cL_law 975 = .ok (.iconst 0, 1) := by decide +kernel
theorem dL_law_976 : decode cL_law 976 = .ok (.ireturn, 1) := by decide +kernel
theorem dL_law_977 : decode cL_law 977 = .ok (.iinc 3 5, 3) := by decide +kernel
theorem dL_law_980 : decode cL_law 980 = .ok (.goto (-962), 3) := by decide +kernel
theorem dL_law_983 : decode cL_law 983 = .ok (.iconst 1, 1) := by decide +kernel
theorem dL_law_984 : decode cL_law 984 = .ok (.ireturn, 1) := by decide +kernel
