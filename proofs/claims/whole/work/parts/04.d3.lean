theorem dX8_asItIs_0 : decode cX8_asItIs 0 = .ok (.aload_n 0, 1) := by decide +kernel
theorem dX8_asItIs_1 : decode cX8_asItIs 1 = .ok (.getfield 43, 3) := by decide +kernel
theorem dX8_asItIs_4 : decode cX8_asItIs 4 = .ok (.iconst 0, 1) := by decide +kernel
theorem dX8_asItIs_5 : decode cX8_asItIs 5 = .ok (.aload_n 0, 1) := by decide +kernel
theorem dX8_asItIs_6 : decode cX8_asItIs 6 = .ok (.getfield 16, 3) := by decide +kernel
theorem dX8_asItIs_9 : decode cX8_asItIs 9 = .ok (.iconst 0, 1) := by decide +kernel
theorem dX8_asItIs_10 : decode cX8_asItIs 10 = .ok (.bipush 111, 2) := by decide +kernel
theorem dX8_asItIs_12 : decode cX8_asItIs 12 = .ok (.invokestatic 133, 3) := by decide +kernel
theorem dX8_asItIs_15 : decode cX8_asItIs 15 = .ok (.return_, 1) := by decide +kernel
theorem dX8_begun_0 : decode cX8_begun 0 = .ok (.aload_n 0, 1) := by decide +kernel
theorem dX8_begun_1 : decode cX8_begun 1 = .ok (.getfield 43, 3) := by decide +kernel
theorem dX8_begun_4 : decode cX8_begun 4 = .ok (.bipush 15, 2) := by decide +kernel
theorem dX8_begun_6 : decode cX8_begun 6 = .ok (.iconst 4, 1) := by decide +kernel
theorem dX8_begun_7 : decode cX8_begun 7 = .ok (.iload_n 1, 1) := by decide +kernel
theorem dX8_begun_8 : decode cX8_begun 8 = .ok (.imul, 1) := by decide +kernel
theorem dX8_begun_9 : decode cX8_begun 9 = .ok (.iadd, 1) := by decide +kernel
theorem dX8_begun_10 : decode cX8_begun 10 = .ok (.iaload, 1) := by decide +kernel
theorem dX8_begun_11 : decode cX8_begun 11 = .ok (.ireturn, 1) := by decide +kernel
theorem dX8_manOf_0 : decode cX8_manOf 0 = .ok (.aload_n 0, 1) := by decide +kernel
theorem dX8_manOf_1 : decode cX8_manOf 1 = .ok (.getfield 43, 3) := by decide +kernel
theorem dX8_manOf_4 : decode cX8_manOf 4 = .ok (.bipush 15, 2) := by decide +kernel
theorem dX8_manOf_6 : decode cX8_manOf 6 = .ok (.iconst 4, 1) := by decide +kernel
theorem dX8_manOf_7 : decode cX8_manOf 7 = .ok (.iload_n 1, 1) := by decide +kernel
theorem dX8_manOf_8 : decode cX8_manOf 8 = .ok (.imul, 1) := by decide +kernel
theorem dX8_manOf_9 : decode cX8_manOf 9 = .ok (.iadd, 1) := by decide +kernel
theorem dX8_manOf_10 : decode cX8_manOf 10 = .ok (.iconst 1, 1) := by decide +kernel
theorem dX8_manOf_11 : decode cX8_manOf 11 = .ok (.iadd, 1) := by decide +kernel
theorem dX8_manOf_12 : decode cX8_manOf 12 = .ok (.iaload, 1) := by decide +kernel
theorem dX8_manOf_13 : decode cX8_manOf 13 = .ok (.ireturn, 1) := by decide +kernel
theorem dX8_womanOf_0 : decode cX8_womanOf 0 = .ok (.aload_n 0, 1) := by decide +kernel
theorem dX8_womanOf_1 : decode cX8_womanOf 1 = .ok (.getfield 43, 3) := by decide +kernel
theorem dX8_womanOf_4 : decode cX8_womanOf 4 = .ok (.bipush 15, 2) := by decide +kernel
theorem dX8_womanOf_6 : decode cX8_womanOf 6 = .ok (.iconst 4, 1) := by decide +kernel
theorem dX8_womanOf_7 : decode cX8_womanOf 7 = .ok (.iload_n 1, 1) := by decide +kernel
theorem dX8_womanOf_8 : decode cX8_womanOf 8 = .ok (.imul, 1) := by decide +kernel
theorem dX8_womanOf_9 : decode cX8_womanOf 9 = .ok (.iadd, 1) := by decide +kernel
theorem dX8_womanOf_10 : decode cX8_womanOf 10 = .ok (.iconst 2, 1) := by decide +kernel
theorem dX8_womanOf_11 : decode cX8_womanOf 11 = .ok (.iadd, 1) := by decide +kernel
theorem dX8_womanOf_12 : decode cX8_womanOf 12 = .ok (.iaload, 1) := by decide +kernel
theorem dX8_womanOf_13 : decode cX8_womanOf 13 = .ok (.ireturn, 1) := by decide +kernel
theorem dX8_isThere_0 : decode cX8_isThere 0 = .ok (.iload_n 1, 1) := by decide +kernel
theorem dX8_isThere_1 : decode cX8_isThere 1 = .ok (.bipush 8, 2) := by decide +kernel
theorem dX8_isThere_3 : decode cX8_isThere 3 = .ok (.irem, 1) := by decide +kernel
theorem dX8_isThere_4 : decode cX8_isThere 4 = .ok (.aload_n 0, 1) := by decide +kernel
theorem dX8_isThere_5 : decode cX8_isThere 5 = .ok (.getfield 43, 3) := by decide +kernel
theorem dX8_isThere_8 : decode cX8_isThere 8 = .ok (.bipush 12, 2) := by decide +kernel
theorem dX8_isThere_10 : decode cX8_isThere 10 = .ok (.iload_n 1, 1) := by decide +kernel
theorem dX8_isThere_11 : decode cX8_isThere 11 = .ok (.bipush 8, 2) := by decide +kernel
theorem dX8_isThere_13 : decode cX8_isThere 13 = .ok (.idiv, 1) := by decide +kernel
theorem dX8_isThere_14 : decode cX8_isThere 14 = .ok (.iadd, 1) := by decide +kernel
theorem dX8_isThere_15 : decode cX8_isThere 15 = .ok (.iaload, 1) := by decide +kernel
theorem dX8_isThere_16 : decode cX8_isThere 16 = .ok (.if_icmp .ge 7, 3) := by decide +kernel
theorem dX8_isThere_19 : decode cX8_isThere 19 = .ok (.iconst 1, 1) := by decide +kernel
theorem dX8_isThere_20 : decode cX8_isThere 20 = .ok (.goto 4, 3) := by decide +kernel
theorem dX8_isThere_23 : decode cX8_isThere 23 = .ok (.iconst 0, 1) := by decide +kernel
theorem dX8_isThere_24 : decode cX8_isThere 24 = .ok (.ireturn, 1) := by decide +kernel
set_option maxRecDepth 20000 in
theorem ggX8_isOfTwo_X8_isThere : GoodIn wsX8_isOfTwo wsX8_isThere := goodIn_r _ [5, 6, 11, 12, 13, 14, 15, 16, 17, 18, 19, 20, 21, 22, 23, 24, 25, 26, 27, 28, 29, 30, 31, 32, 33, 34, 35, 36, 37] rfl (by decide +kernel)
set_option maxRecDepth 20000 in
theorem gX8_isOfTwo_X8_isThere : GoodIn wsX8_isOfTwo (wsV RX8 146 RX8 yX8_isThere wsX8_isThere) := goodIn_app (goodIn_of _ (by decide +kernel)) ggX8_isOfTwo_X8_isThere
set_option maxRecDepth 20000 in
theorem ggX8_isOfTwo_X8_manOf : GoodIn wsX8_isOfTwo wsX8_manOf := goodIn_r _ [10, 6, 11, 12, 13, 14, 15, 16, 17, 18, 19, 20, 21, 22, 23, 24, 25, 26, 27, 28, 29, 30, 31, 32, 33, 34, 35, 36, 37] rfl (by decide +kernel)
set_option maxRecDepth 20000 in
theorem gX8_isOfTwo_X8_manOf : GoodIn wsX8_isOfTwo (wsV RX8 149 RX8 yX8_manOf wsX8_manOf) := goodIn_app (goodIn_of _ (by decide +kernel)) ggX8_isOfTwo_X8_manOf
theorem dX8_isOfTwo_0 : decode cX8_isOfTwo 0 = .ok (.aload_n 0, 1) := by decide +kernel
theorem dX8_isOfTwo_1 : decode cX8_isOfTwo 1 = .ok (.iload_n 1, 1) := by decide +kernel
theorem dX8_isOfTwo_2 : decode cX8_isOfTwo 2 = .ok (.invokevirtual 146, 3) := by decide +kernel
theorem dX8_isOfTwo_5 : decode cX8_isOfTwo 5 = .ok (.ifCond .eq 15, 3) := by decide +kernel
theorem dX8_isOfTwo_8 : decode cX8_isOfTwo 8 = .ok (.aload_n 0, 1) := by decide +kernel
theorem dX8_isOfTwo_9 : decode cX8_isOfTwo 9 = .ok (.iload_n 1, 1) := by decide +kernel
theorem dX8_isOfTwo_10 : decode cX8_isOfTwo 10 = .ok (.invokevirtual 149, 3) := by decide +kernel
theorem dX8_isOfTwo_13 : decode cX8_isOfTwo 13 = .ok (.ifCond .lt 7, 3) := by decide +kernel
theorem dX8_isOfTwo_16 : decode cX8_isOfTwo 16 = .ok (.iconst 1, 1) := by decide +kernel
theorem dX8_isOfTwo_17 : decode cX8_isOfTwo 17 = .ok (.goto 4, 3) := by decide +kernel
theorem dX8_isOfTwo_20 : decode cX8_isOfTwo 20 = .ok (.iconst 0, 1) := by decide +kernel
theorem dX8_isOfTwo_21 : decode cX8_isOfTwo 21 = .ok (.ireturn, 1) := by decide +kernel
set_option maxRecDepth 20000 in
theorem ggX8_isBlank_X8_isThere : GoodIn wsX8_isBlank wsX8_isThere := goodIn_r _ [5, 6, 11, 12, 13, 14, 15, 16, 17, 18, 19, 20, 21, 22, 23, 24, 25, 26, 27, 28, 29, 30, 31, 32, 33, 34, 35, 36, 37] rfl (by decide +kernel)
set_option maxRecDepth 20000 in
theorem gX8_isBlank_X8_isThere : GoodIn wsX8_isBlank (wsV RX8 146 RX8 yX8_isThere wsX8_isThere) := goodIn_app (goodIn_of _ (by decide +kernel)) ggX8_isBlank_X8_isThere
set_option maxRecDepth 20000 in
theorem ggX8_isBlank_X8_manOf : GoodIn wsX8_isBlank wsX8_manOf := goodIn_r _ [10, 6, 11, 12, 13, 14, 15, 16, 17, 18, 19, 20, 21, 22, 23, 24, 25, 26, 27, 28, 29, 30, 31, 32, 33, 34, 35, 36, 37] rfl (by decide +kernel)
set_option maxRecDepth 20000 in
theorem gX8_isBlank_X8_manOf : GoodIn wsX8_isBlank (wsV RX8 149 RX8 yX8_manOf wsX8_manOf) := goodIn_app (goodIn_of _ (by decide +kernel)) ggX8_isBlank_X8_manOf
theorem dX8_isBlank_0 : decode cX8_isBlank 0 = .ok (.aload_n 0, 1) := by decide +kernel
theorem dX8_isBlank_1 : decode cX8_isBlank 1 = .ok (.iload_n 1, 1) := by decide +kernel
theorem dX8_isBlank_2 : decode cX8_isBlank 2 = .ok (.invokevirtual 146, 3) := by decide +kernel
theorem dX8_isBlank_5 : decode cX8_isBlank 5 = .ok (.ifCond .eq 16, 3) := by decide +kernel
theorem dX8_isBlank_8 : decode cX8_isBlank 8 = .ok (.aload_n 0, 1) := by decide +kernel
theorem dX8_isBlank_9 : decode cX8_isBlank 9 = .ok (.iload_n 1, 1) := by decide +kernel
theorem dX8_isBlank_10 : decode cX8_isBlank 10 = .ok (.invokevirtual 149, 3) := by decide +kernel
theorem dX8_isBlank_13 : decode cX8_isBlank 13 = .ok (.iconst (-1), 1) := by decide +kernel
theorem dX8_isBlank_14 : decode cX8_isBlank 14 = .ok (.if_icmp .ne 7, 3) := by decide +kernel
theorem dX8_isBlank_17 : decode cX8_isBlank 17 = .ok (.iconst 1, 1) := by decide +kernel
theorem dX8_isBlank_18 : decode cX8_isBlank 18 = .ok (.goto 4, 3) := by decide +kernel
theorem dX8_isBlank_21 : decode cX8_isBlank 21 = .ok (.iconst 0, 1) := by decide +kernel
theorem dX8_isBlank_22 : decode cX8_isBlank 22 = .ok (.ireturn, 1) := by decide +kernel
set_option maxRecDepth 20000 in
theorem ggX8_nextLine_X8_isOfTwo : GoodIn wsX8_nextLine wsX8_isOfTwo := goodIn_r _ [6, 7, 8, 9, 5, 10, 11, 12, 13, 14, 15, 20, 21, 22, 23, 24, 25, 26, 27, 28, 29, 30, 31, 32, 33, 34, 35, 36, 37, 38, 39, 40, 41, 42, 43, 44, 45, 46] rfl (by decide +kernel)
set_option maxRecDepth 20000 in
theorem gX8_nextLine_X8_isOfTwo : GoodIn wsX8_nextLine (wsV RX8 152 RX8 yX8_isOfTwo wsX8_isOfTwo) := goodIn_app (goodIn_of _ (by decide +kernel)) ggX8_nextLine_X8_isOfTwo
set_option maxRecDepth 20000 in
theorem ggX8_nextLine_X8_begun : GoodIn wsX8_nextLine wsX8_begun := goodIn_r _ [19, 11, 20, 21, 22, 23, 24, 25, 26, 27, 28, 29, 30, 31, 32, 33, 34, 35, 36, 37, 38, 39, 40, 41, 42, 43, 44, 45, 46] rfl (by decide +kernel)
set_option maxRecDepth 20000 in
theorem gX8_nextLine_X8_begun : GoodIn wsX8_nextLine (wsV RX8 155 RX8 yX8_begun wsX8_begun) := goodIn_app (goodIn_of _ (by decide +kernel)) ggX8_nextLine_X8_begun
theorem dX8_nextLine_0 : decode cX8_nextLine 0 = .ok (.iconst (-1), 1) := by decide +kernel
theorem dX8_nextLine_1 : decode cX8_nextLine 1 = .ok (.istore_n 1, 1) := by decide +kernel
theorem dX8_nextLine_2 : decode cX8_nextLine 2 = .ok (.iconst 0, 1) := by decide +kernel
theorem dX8_nextLine_3 : decode cX8_nextLine 3 = .ok (.istore_n 2, 1) := by decide +kernel
theorem dX8_nextLine_4 : decode cX8_nextLine 4 = .ok (.iload_n 2, 1) := by decide +kernel
theorem dX8_nextLine_5 : decode cX8_nextLine 5 = .ok (.bipush 24, 2) := by decide +kernel
theorem dX8_nextLine_7 : decode cX8_nextLine 7 = .ok (.if_icmp .ge 49, 3) := by decide +kernel
theorem dX8_nextLine_10 : decode cX8_nextLine 10 = .ok (.aload_n 0, 1) := by decide +kernel
theorem dX8_nextLine_11 : decode cX8_nextLine 11 = .ok (.iload_n 2, 1) := by decide +kernel
theorem dX8_nextLine_12 : decode cX8_nextLine 12 = .ok (.invokevirtual 152, 3) := by decide +kernel
theorem dX8_nextLine_15 : decode cX8_nextLine 15 = .ok (.ifCond .eq 33, 3) := by decide +kernel
theorem dX8_nextLine_18 : decode cX8_nextLine 18 = .ok (.aload_n 0, 1) := by decide +kernel
theorem dX8_nextLine_19 : decode cX8_nextLine 19 = .ok (.getfield 50, 3) := by decide +kernel
theorem dX8_nextLine_22 : decode cX8_nextLine 22 = .ok (.iload_n 2, 1) := by decide +kernel
theorem dX8_nextLine_23 : decode cX8_nextLine 23 = .ok (.baload, 1) := by decide +kernel
theorem dX8_nextLine_24 : decode cX8_nextLine 24 = .ok (.ifCond .ne 24, 3) := by decide +kernel
theorem dX8_nextLine_27 : decode cX8_nextLine 27 = .ok (.iload_n 1, 1) := by decide +kernel
theorem dX8_nextLine_28 : decode cX8_nextLine 28 = .ok (.ifCond .lt 16, 3) := by decide +kernel
theorem dX8_nextLine_31 : decode cX8_nextLine 31 = .ok (.aload_n 0, 1) := by decide +kernel
theorem dX8_nextLine_32 : decode cX8_nextLine 32 = .ok (.iload_n 2, 1) := by decide +kernel
theorem dX8_nextLine_33 : decode cX8_nextLine 33 = .ok (.invokevirtual 155, 3) := by decide +kernel
theorem dX8_nextLine_36 : decode cX8_nextLine 36 = .ok (.aload_n 0, 1) := by decide +kernel
theorem dX8_nextLine_37 : decode cX8_nextLine 37 = .ok (.iload_n 1, 1) := by decide +kernel
theorem dX8_nextLine_38 : decode cX8_nextLine 38 = .ok (.invokevirtual 155, 3) := by decide +kernel
theorem dX8_nextLine_41 : decode cX8_nextLine 41 = .ok (.if_icmp .ge 7, 3) := by decide +kernel
theorem dX8_nextLine_44 : decode cX8_nextLine 44 = .ok (.iload_n 2, 1) := by decide +kernel
theorem dX8_nextLine_45 : decode cX8_nextLine 45 = .ok (.goto 4, 3) := by decide +kernel
theorem dX8_nextLine_48 : decode cX8_nextLine 48 = .ok (.iload_n 1, 1) := by decide +kernel
theorem dX8_nextLine_49 : decode cX8_nextLine 49 = .ok (.istore_n 1, 1) := by decide +kernel
theorem dX8_nextLine_50 : decode cX8_nextLine 50 = .ok (.iinc 2 1, 3) := by decide +kernel
theorem dX8_nextLine_53 : decode cX8_nextLine 53 = .ok (.goto (-49), 3) := by decide +kernel
theorem dX8_nextLine_56 : decode cX8_nextLine 56 = .ok (.iload_n 1, 1) := by decide +kernel
theorem dX8_nextLine_57 : decode cX8_nextLine 57 = .ok (.ireturn, 1) := by decide +kernel
set_option maxRecDepth 20000 in
theorem ggX8_findHolds_X8_nextLine : GoodIn wsX8_findHolds wsX8_nextLine := goodIn_r _ [7, 2, 8, 9, 10, 6, 11, 12, 13, 14, 15, 16, 17, 18, 19, 20, 21, 22, 23, 24, 29, 30, 31, 32, 33, 34, 35, 36, 37, 38, 39, 40, 41, 42, 43, 44, 45, 46, 47, 48, 49, 50, 51, 52, 53, 54, 55] rfl (by decide +kernel)
set_option maxRecDepth 20000 in
theorem gX8_findHolds_X8_nextLine : GoodIn wsX8_findHolds (wsV RX8 158 RX8 yX8_nextLine wsX8_nextLine) := goodIn_app (goodIn_of _ (by decide +kernel)) ggX8_findHolds_X8_nextLine
set_option maxRecDepth 20000 in
theorem ggX8_findHolds_X8_manOf : GoodIn wsX8_findHolds wsX8_manOf := goodIn_r _ [20, 16, 29, 30, 31, 32, 33, 34, 35, 36, 37, 38, 39, 40, 41, 42, 43, 44, 45, 46, 47, 48, 49, 50, 51, 52, 53, 54, 55] rfl (by decide +kernel)
set_option maxRecDepth 20000 in
theorem gX8_findHolds_X8_manOf : GoodIn wsX8_findHolds (wsV RX8 149 RX8 yX8_manOf wsX8_manOf) := goodIn_app (goodIn_of _ (by decide +kernel)) ggX8_findHolds_X8_manOf
set_option maxRecDepth 20000 in
theorem ggX8_findHolds_X8_womanOf : GoodIn wsX8_findHolds wsX8_womanOf := goodIn_r _ [28, 16, 29, 30, 31, 32, 33, 34, 35, 36, 37, 38, 39, 40, 41, 42, 43, 44, 45, 46, 47, 48, 49, 50, 51, 52, 53, 54, 55] rfl (by decide +kernel)
set_option maxRecDepth 20000 in
theorem gX8_findHolds_X8_womanOf : GoodIn wsX8_findHolds (wsV RX8 161 RX8 yX8_womanOf wsX8_womanOf) := goodIn_app (goodIn_of _ (by decide +kernel)) ggX8_findHolds_X8_womanOf
theorem dX8_findHolds_0 : decode cX8_findHolds 0 = .ok (.iconst 0, 1) := by decide +kernel
theorem dX8_findHolds_1 : decode cX8_findHolds 1 = .ok (.istore_n 1, 1) := by decide +kernel
theorem dX8_findHolds_2 : decode cX8_findHolds 2 = .ok (.iload_n 1, 1) := by decide +kernel
theorem dX8_findHolds_3 : decode cX8_findHolds 3 = .ok (.bipush 24, 2) := by decide +kernel
theorem dX8_findHolds_5 : decode cX8_findHolds 5 = .ok (.if_icmp .ge 23, 3) := by decide +kernel
theorem dX8_findHolds_8 : decode cX8_findHolds 8 = .ok (.aload_n 0, 1) := by decide +kernel
theorem dX8_findHolds_9 : decode cX8_findHolds 9 = .ok (.getfield 46, 3) := by decide +kernel
theorem dX8_findHolds_12 : decode cX8_findHolds 12 = .ok (.iload_n 1, 1) := by decide +kernel
theorem dX8_findHolds_13 : decode cX8_findHolds 13 = .ok (.iconst 0, 1) := by decide +kernel
theorem dX8_findHolds_14 : decode cX8_findHolds 14 = .ok (.bastore, 1) := by decide +kernel
theorem dX8_findHolds_15 : decode cX8_findHolds 15 = .ok (.aload_n 0, 1) := by decide +kernel
theorem dX8_findHolds_16 : decode cX8_findHolds 16 = .ok (.getfield 50, 3) := by decide +kernel
theorem dX8_findHolds_19 : decode cX8_findHolds 19 = .ok (.iload_n 1, 1) := by decide +kernel
theorem dX8_findHolds_20 : decode cX8_findHolds 20 = .ok (.iconst 0, 1) := by decide +kernel
theorem dX8_findHolds_21 : decode cX8_findHolds 21 = .ok (.bastore, 1) := by decide +kernel
theorem dX8_findHolds_22 : decode cX8_findHolds 22 = .ok (.iinc 1 1, 3) := by decide +kernel
theorem dX8_findHolds_25 : decode cX8_findHolds 25 = .ok (.goto (-23), 3) := by decide +kernel
theorem dX8_findHolds_28 : decode cX8_findHolds 28 = .ok (.iconst 0, 1) := by decide +kernel
theorem dX8_findHolds_29 : decode cX8_findHolds 29 = .ok (.istore_n 1, 1) := by decide +kernel
theorem dX8_findHolds_30 : decode cX8_findHolds 30 = .ok (.aload_n 0, 1) := by decide +kernel
theorem dX8_findHolds_31 : decode cX8_findHolds 31 = .ok (.invokevirtual 158, 3) := by decide +kernel
theorem dX8_findHolds_34 : decode cX8_findHolds 34 = .ok (.istore_n 2, 1) := by decide +kernel
theorem dX8_findHolds_35 : decode cX8_findHolds 35 = .ok (.iload_n 2, 1) := by decide +kernel
theorem dX8_findHolds_36 : decode cX8_findHolds 36 = .ok (.ifCond .lt 68, 3) := by decide +kernel
theorem dX8_findHolds_39 : decode cX8_findHolds 39 = .ok (.aload_n 0, 1) := by decide +kernel
theorem dX8_findHolds_40 : decode cX8_findHolds 40 = .ok (.getfield 50, 3) := by decide +kernel
theorem dX8_findHolds_43 : decode cX8_findHolds 43 = .ok (.iload_n 2, 1) := by decide +kernel
theorem dX8_findHolds_44 : decode cX8_findHolds 44 = .ok (.iconst 1, 1) := by decide +kernel
theorem dX8_findHolds_45 : decode cX8_findHolds 45 = .ok (.bastore, 1) := by decide +kernel
theorem dX8_findHolds_46 : decode cX8_findHolds 46 = .ok (.iconst 1, 1) := by decide +kernel
theorem dX8_findHolds_47 : decode cX8_findHolds 47 = .ok (.aload_n 0, 1) := by decide +kernel
theorem dX8_findHolds_48 : decode cX8_findHolds 48 = .ok (.iload_n 2, 1) := by decide +kernel
theorem dX8_findHolds_49 : decode cX8_findHolds 49 = .ok (.invokevirtual 149, 3) := by decide +kernel
theorem dX8_findHolds_52 : decode cX8_findHolds 52 = .ok (.ishl, 1) := by decide +kernel
theorem dX8_findHolds_53 : decode cX8_findHolds 53 = .ok (.iconst 1, 1) := by decide +kernel
theorem dX8_findHolds_54 : decode cX8_findHolds 54 = .ok (.aload_n 0, 1) := by decide +kernel
theorem dX8_findHolds_55 : decode cX8_findHolds 55 = .ok (.iload_n 2, 1) := by decide +kernel
theorem dX8_findHolds_56 : decode cX8_findHolds 56 = .ok (.invokevirtual 161, 3) := by decide +kernel
theorem dX8_findHolds_59 : decode cX8_findHolds 59 = .ok (.ishl, 1) := by decide +kernel
theorem dX8_findHolds_60 : decode cX8_findHolds 60 = .ok (.ior, 1) := by decide +kernel
theorem dX8_findHolds_61 : decode cX8_findHolds 61 = .ok (.istore_n 3, 1) := by decide +kernel
theorem dX8_findHolds_62 : decode cX8_findHolds 62 = .ok (.aload_n 0, 1) := by decide +kernel
theorem dX8_findHolds_63 : decode cX8_findHolds 63 = .ok (.getfield 46, 3) := by decide +kernel
theorem dX8_findHolds_66 : decode cX8_findHolds 66 = .ok (.iload_n 2, 1) := by decide +kernel
theorem dX8_findHolds_67 : decode cX8_findHolds 67 = .ok (.iload_n 1, 1) := by decide +kernel
theorem dX8_findHolds_68 : decode cX8_findHolds 68 = .ok (.iload_n 3, 1) := by decide +kernel
theorem dX8_findHolds_69 : decode cX8_findHolds 69 = .ok (.iand, 1) := by decide +kernel
theorem dX8_findHolds_70 : decode cX8_findHolds 70 = .ok (.ifCond .ne 7, 3) := by decide +kernel
theorem dX8_findHolds_73 : decode cX8_findHolds 73 = .ok (.iconst 1, 1) := by decide +kernel
theorem dX8_findHolds_74 : decode cX8_findHolds 74 = .ok (.goto 4, 3) := by decide +kernel
theorem dX8_findHolds_77 : decode cX8_findHolds 77 = .ok (.iconst 0, 1) := by decide +kernel
theorem dX8_findHolds_78 : decode cX8_findHolds 78 = .ok (.bastore, 1) := by decide +kernel
theorem dX8_findHolds_79 : decode cX8_findHolds 79 = .ok (.iload_n 1, 1) := by decide +kernel
theorem dX8_findHolds_80 : decode cX8_findHolds 80 = .ok (.aload_n 0, 1) := by decide +kernel
theorem dX8_findHolds_81 : decode cX8_findHolds 81 = .ok (.getfield 46, 3) := by decide +kernel
theorem dX8_findHolds_84 : decode cX8_findHolds 84 = .ok (.iload_n 2, 1) := by decide +kernel
theorem dX8_findHolds_85 : decode cX8_findHolds 85 = .ok (.baload, 1) := by decide +kernel
theorem dX8_findHolds_86 : decode cX8_findHolds 86 = .ok (.ifCond .eq 7, 3) := by decide +kernel
theorem dX8_findHolds_89 : decode cX8_findHolds 89 = .ok (.iload_n 3, 1) := by decide +kernel
theorem dX8_findHolds_90 : decode cX8_findHolds 90 = .ok (.goto 4, 3) := by decide +kernel
theorem dX8_findHolds_93 : decode cX8_findHolds 93 = .ok (.iconst 0, 1) := by decide +kernel
theorem dX8_findHolds_94 : decode cX8_findHolds 94 = .ok (.ior, 1) := by decide +kernel
theorem dX8_findHolds_95 : decode cX8_findHolds 95 = .ok (.istore_n 1, 1) := by decide +kernel
theorem dX8_findHolds_96 : decode cX8_findHolds 96 = .ok (.aload_n 0, 1) := by decide +kernel
theorem dX8_findHolds_97 : decode cX8_findHolds 97 = .ok (.invokevirtual 158, 3) := by decide +kernel
theorem dX8_findHolds_100 : decode cX8_findHolds 100 = .ok (.istore_n 2, 1) := by decide +kernel
theorem dX8_findHolds_101 : decode cX8_findHolds 101 = .ok (.goto (-66), 3) := by decide +kernel
theorem dX8_findHolds_104 : decode cX8_findHolds 104 = .ok (.return_, 1) := by decide +kernel
set_option maxRecDepth 20000 in
theorem ggX8_mateBy_X8_begun : GoodIn wsX8_mateBy wsX8_begun := goodIn_r _ [6, 7, 16, 17, 18, 19, 20, 21, 22, 23, 24, 25, 26, 27, 28, 29, 30, 31, 32, 33, 34, 35, 36, 37, 38, 39, 40, 41, 42] rfl (by decide +kernel)
set_option maxRecDepth 20000 in
theorem gX8_mateBy_X8_begun : GoodIn wsX8_mateBy (wsV RX8 155 RX8 yX8_begun wsX8_begun) := goodIn_app (goodIn_of _ (by decide +kernel)) ggX8_mateBy_X8_begun
set_option maxRecDepth 20000 in
theorem ggX8_mateBy_X8_manOf : GoodIn wsX8_mateBy wsX8_manOf := goodIn_r _ [11, 7, 16, 17, 18, 19, 20, 21, 22, 23, 24, 25, 26, 27, 28, 29, 30, 31, 32, 33, 34, 35, 36, 37, 38, 39, 40, 41, 42] rfl (by decide +kernel)
set_option maxRecDepth 20000 in
theorem gX8_mateBy_X8_manOf : GoodIn wsX8_mateBy (wsV RX8 149 RX8 yX8_manOf wsX8_manOf) := goodIn_app (goodIn_of _ (by decide +kernel)) ggX8_mateBy_X8_manOf
set_option maxRecDepth 20000 in
theorem ggX8_mateBy_X8_womanOf : GoodIn wsX8_mateBy wsX8_womanOf := goodIn_r _ [15, 7, 16, 17, 18, 19, 20, 21, 22, 23, 24, 25, 26, 27, 28, 29, 30, 31, 32, 33, 34, 35, 36, 37, 38, 39, 40, 41, 42] rfl (by decide +kernel)
set_option maxRecDepth 20000 in
theorem gX8_mateBy_X8_womanOf : GoodIn wsX8_mateBy (wsV RX8 161 RX8 yX8_womanOf wsX8_womanOf) := goodIn_app (goodIn_of _ (by decide +kernel)) ggX8_mateBy_X8_womanOf
theorem dX8_mateBy_0 : decode cX8_mateBy 0 = .ok (.bipush (-4), 2) := by decide +kernel
theorem dX8_mateBy_2 : decode cX8_mateBy 2 = .ok (.istore_n 3, 1) := by decide +kernel
theorem dX8_mateBy_3 : decode cX8_mateBy 3 = .ok (.iconst 0, 1) := by decide +kernel
theorem dX8_mateBy_4 : decode cX8_mateBy 4 = .ok (.istore 4, 2) := by decide +kernel
theorem dX8_mateBy_6 : decode cX8_mateBy 6 = .ok (.iload 4, 2) := by decide +kernel
theorem dX8_mateBy_8 : decode cX8_mateBy 8 = .ok (.bipush 24, 2) := by decide +kernel
theorem dX8_mateBy_10 : decode cX8_mateBy 10 = .ok (.if_icmp .ge 86, 3) := by decide +kernel
theorem dX8_mateBy_13 : decode cX8_mateBy 13 = .ok (.aload_n 0, 1) := by decide +kernel
theorem dX8_mateBy_14 : decode cX8_mateBy 14 = .ok (.getfield 46, 3) := by decide +kernel
theorem dX8_mateBy_17 : decode cX8_mateBy 17 = .ok (.iload 4, 2) := by decide +kernel
theorem dX8_mateBy_19 : decode cX8_mateBy 19 = .ok (.baload, 1) := by decide +kernel
theorem dX8_mateBy_20 : decode cX8_mateBy 20 = .ok (.ifCond .eq 17, 3) := by decide +kernel
theorem dX8_mateBy_23 : decode cX8_mateBy 23 = .ok (.aload_n 0, 1) := by decide +kernel
theorem dX8_mateBy_24 : decode cX8_mateBy 24 = .ok (.iload 4, 2) := by decide +kernel
theorem dX8_mateBy_26 : decode cX8_mateBy 26 = .ok (.invokevirtual 155, 3) := by decide +kernel
theorem dX8_mateBy_29 : decode cX8_mateBy 29 = .ok (.iload_n 2, 1) := by decide +kernel
theorem dX8_mateBy_30 : decode cX8_mateBy 30 = .ok (.if_icmp .gt 7, 3) := by decide +kernel
theorem dX8_mateBy_33 : decode cX8_mateBy 33 = .ok (.iconst 1, 1) := by decide +kernel
theorem dX8_mateBy_34 : decode cX8_mateBy 34 = .ok (.goto 4, 3) := by decide +kernel
theorem dX8_mateBy_37 : decode cX8_mateBy 37 = .ok (.iconst 0, 1) := by decide +kernel
theorem dX8_mateBy_38 : decode cX8_mateBy 38 = .ok (.istore 5, 2) := by decide +kernel
theorem dX8_mateBy_40 : decode cX8_mateBy 40 = .ok (.iload 5, 2) := by decide +kernel
theorem dX8_mateBy_42 : decode cX8_mateBy 42 = .ok (.ifCond .eq 22, 3) := by decide +kernel
theorem dX8_mateBy_45 : decode cX8_mateBy 45 = .ok (.aload_n 0, 1) := by decide +kernel
theorem dX8_mateBy_46 : decode cX8_mateBy 46 = .ok (.iload 4, 2) := by decide +kernel
theorem dX8_mateBy_48 : decode cX8_mateBy 48 = .ok (.invokevirtual 149, 3) := by decide +kernel
theorem dX8_mateBy_51 : decode cX8_mateBy 51 = .ok (.iload_n 1, 1) := by decide +kernel
theorem dX8_mateBy_52 : decode cX8_mateBy 52 = .ok (.if_icmp .ne 12, 3) := by decide +kernel
theorem dX8_mateBy_55 : decode cX8_mateBy 55 = .ok (.aload_n 0, 1) := by decide +kernel
theorem dX8_mateBy_56 : decode cX8_mateBy 56 = .ok (.iload 4, 2) := by decide +kernel
theorem dX8_mateBy_58 : decode cX8_mateBy 58 = .ok (.invokevirtual 161, 3) := by decide +kernel
theorem dX8_mateBy_61 : decode cX8_mateBy 61 = .ok (.goto 28, 3) := by decide +kernel
theorem dX8_mateBy_64 : decode cX8_mateBy 64 = .ok (.iload 5, 2) := by decide +kernel
theorem dX8_mateBy_66 : decode cX8_mateBy 66 = .ok (.ifCond .eq 22, 3) := by decide +kernel
theorem dX8_mateBy_69 : decode cX8_mateBy 69 = .ok (.aload_n 0, 1) := by decide +kernel
theorem dX8_mateBy_70 : decode cX8_mateBy 70 = .ok (.iload 4, 2) := by decide +kernel
theorem dX8_mateBy_72 : decode cX8_mateBy 72 = .ok (.invokevirtual 161, 3) := by decide +kernel
theorem dX8_mateBy_75 : decode cX8_mateBy 75 = .ok (.iload_n 1, 1) := by decide +kernel
theorem dX8_mateBy_76 : decode cX8_mateBy 76 = .ok (.if_icmp .ne 12, 3) := by decide +kernel
theorem dX8_mateBy_79 : decode cX8_mateBy 79 = .ok (.aload_n 0, 1) := by decide +kernel
theorem dX8_mateBy_80 : decode cX8_mateBy 80 = .ok (.iload 4, 2) := by decide +kernel
theorem dX8_mateBy_82 : decode cX8_mateBy 82 = .ok (.invokevirtual 149, 3) := by decide +kernel
theorem dX8_mateBy_85 : decode cX8_mateBy 85 = .ok (.goto 4, 3) := by decide +kernel
theorem dX8_mateBy_88 : decode cX8_mateBy 88 = .ok (.iload_n 3, 1) := by decide +kernel
theorem dX8_mateBy_89 : decode cX8_mateBy 89 = .ok (.istore_n 3, 1) := by decide +kernel
theorem dX8_mateBy_90 : decode cX8_mateBy 90 = .ok (.iinc 4 1, 3) := by decide +kernel
theorem dX8_mateBy_93 : decode cX8_mateBy 93 = .ok (.goto (-87), 3) := by decide +kernel
theorem dX8_mateBy_96 : decode cX8_mateBy 96 = .ok (.iload_n 3, 1) := by decide +kernel
theorem dX8_mateBy_97 : decode cX8_mateBy 97 = .ok (.ireturn, 1) := by decide +kernel
theorem dX8_manyHold_0 : decode cX8_manyHold 0 = .ok (.iconst 0, 1) := by decide +kernel
theorem dX8_manyHold_1 : decode cX8_manyHold 1 = .ok (.istore_n 1, 1) := by decide +kernel
theorem dX8_manyHold_2 : decode cX8_manyHold 2 = .ok (.iconst 0, 1) := by decide +kernel
theorem dX8_manyHold_3 : decode cX8_manyHold 3 = .ok (.istore_n 2, 1) := by decide +kernel
theorem dX8_manyHold_4 : decode cX8_manyHold 4 = .ok (.iload_n 2, 1) := by decide +kernel
theorem dX8_manyHold_5 : decode cX8_manyHold 5 = .ok (.bipush 24, 2) := by decide +kernel
theorem dX8_manyHold_7 : decode cX8_manyHold 7 = .ok (.if_icmp .ge 26, 3) := by decide +kernel
theorem dX8_manyHold_10 : decode cX8_manyHold 10 = .ok (.iload_n 1, 1) := by decide +kernel
theorem dX8_manyHold_11 : decode cX8_manyHold 11 = .ok (.aload_n 0, 1) := by decide +kernel
theorem dX8_manyHold_12 : decode cX8_manyHold 12 = .ok (.getfield 46, 3) := by decide +kernel
theorem dX8_manyHold_15 : decode cX8_manyHold 15 = .ok (.iload_n 2, 1) := by decide +kernel
theorem dX8_manyHold_16 : decode cX8_manyHold 16 = .ok (.baload, 1) := by decide +kernel
theorem dX8_manyHold_17 : decode cX8_manyHold 17 = .ok (.ifCond .eq 7, 3) := by decide +kernel
theorem dX8_manyHold_20 : decode cX8_manyHold 20 = .ok (.iconst 1, 1) := by decide +kernel
theorem dX8_manyHold_21 : decode cX8_manyHold 21 = .ok (.goto 4, 3) := by decide +kernel
theorem dX8_manyHold_24 : decode cX8_manyHold 24 = .ok (.iconst 0, 1) := by decide +kernel
theorem dX8_manyHold_25 : decode cX8_manyHold 25 = .ok (.iadd, 1) := by decide +kernel
theorem dX8_manyHold_26 : decode cX8_manyHold 26 = .ok (.istore_n 1, 1) := by decide +kernel
theorem dX8_manyHold_27 : decode cX8_manyHold 27 = .ok (.iinc 2 1, 3) := by decide +kernel
theorem dX8_manyHold_30 : decode cX8_manyHold 30 = .ok (.goto (-26), 3) := by decide +kernel
theorem dX8_manyHold_33 : decode cX8_manyHold 33 = .ok (.iload_n 1, 1) := by decide +kernel
theorem dX8_manyHold_34 : decode cX8_manyHold 34 = .ok (.ireturn, 1) := by decide +kernel
set_option maxRecDepth 20000 in
theorem ggX8_linesOf_X8_isOfTwo : GoodIn wsX8_linesOf wsX8_isOfTwo := goodIn_r _ [5, 6, 7, 8, 4, 9, 10, 11, 12, 13, 14, 19, 20, 21, 22, 23, 24, 25, 26, 27, 28, 29, 30, 31, 32, 33, 34, 35, 36, 37, 38, 39, 40, 41, 42, 43, 44, 45] rfl (by decide +kernel)
set_option maxRecDepth 20000 in
theorem gX8_linesOf_X8_isOfTwo : GoodIn wsX8_linesOf (wsV RX8 152 RX8 yX8_isOfTwo wsX8_isOfTwo) := goodIn_app (goodIn_of _ (by decide +kernel)) ggX8_linesOf_X8_isOfTwo
set_option maxRecDepth 20000 in
theorem ggX8_linesOf_X8_manOf : GoodIn wsX8_linesOf wsX8_manOf := goodIn_r _ [14, 10, 19, 20, 21, 22, 23, 24, 25, 26, 27, 28, 29, 30, 31, 32, 33, 34, 35, 36, 37, 38, 39, 40, 41, 42, 43, 44, 45] rfl (by decide +kernel)
set_option maxRecDepth 20000 in
theorem gX8_linesOf_X8_manOf : GoodIn wsX8_linesOf (wsV RX8 149 RX8 yX8_manOf wsX8_manOf) := goodIn_app (goodIn_of _ (by decide +kernel)) ggX8_linesOf_X8_manOf
set_option maxRecDepth 20000 in
theorem ggX8_linesOf_X8_womanOf : GoodIn wsX8_linesOf wsX8_womanOf := goodIn_r _ [18, 10, 19, 20, 21, 22, 23, 24, 25, 26, 27, 28, 29, 30, 31, 32, 33, 34, 35, 36, 37, 38, 39, 40, 41, 42, 43, 44, 45] rfl (by decide +kernel)
set_option maxRecDepth 20000 in
theorem gX8_linesOf_X8_womanOf : GoodIn wsX8_linesOf (wsV RX8 161 RX8 yX8_womanOf wsX8_womanOf) := goodIn_app (goodIn_of _ (by decide +kernel)) ggX8_linesOf_X8_womanOf
theorem dX8_linesOf_0 : decode cX8_linesOf 0 = .ok (.iconst 0, 1) := by decide +kernel
theorem dX8_linesOf_1 : decode cX8_linesOf 1 = .ok (.istore_n 2, 1) := by decide +kernel
theorem dX8_linesOf_2 : decode cX8_linesOf 2 = .ok (.iconst 0, 1) := by decide +kernel
theorem dX8_linesOf_3 : decode cX8_linesOf 3 = .ok (.istore_n 3, 1) := by decide +kernel
theorem dX8_linesOf_4 : decode cX8_linesOf 4 = .ok (.iload_n 3, 1) := by decide +kernel
theorem dX8_linesOf_5 : decode cX8_linesOf 5 = .ok (.bipush 24, 2) := by decide +kernel
theorem dX8_linesOf_7 : decode cX8_linesOf 7 = .ok (.if_icmp .ge 43, 3) := by decide +kernel
theorem dX8_linesOf_10 : decode cX8_linesOf 10 = .ok (.iload_n 2, 1) := by decide +kernel
theorem dX8_linesOf_11 : decode cX8_linesOf 11 = .ok (.aload_n 0, 1) := by decide +kernel
theorem dX8_linesOf_12 : decode cX8_linesOf 12 = .ok (.iload_n 3, 1) := by decide +kernel
theorem dX8_linesOf_13 : decode cX8_linesOf 13 = .ok (.invokevirtual 152, 3) := by decide +kernel
theorem dX8_linesOf_16 : decode cX8_linesOf 16 = .ok (.ifCond .eq 25, 3) := by decide +kernel
theorem dX8_linesOf_19 : decode cX8_linesOf 19 = .ok (.aload_n 0, 1) := by decide +kernel
theorem dX8_linesOf_20 : decode cX8_linesOf 20 = .ok (.iload_n 3, 1) := by decide +kernel
theorem dX8_linesOf_21 : decode cX8_linesOf 21 = .ok (.invokevirtual 149, 3) := by decide +kernel
theorem dX8_linesOf_24 : decode cX8_linesOf 24 = .ok (.iload_n 1, 1) := by decide +kernel
theorem dX8_linesOf_25 : decode cX8_linesOf 25 = .ok (.if_icmp .eq 12, 3) := by decide +kernel
theorem dX8_linesOf_28 : decode cX8_linesOf 28 = .ok (.aload_n 0, 1) := by decide +kernel
theorem dX8_linesOf_29 : decode cX8_linesOf 29 = .ok (.iload_n 3, 1) := by decide +kernel
theorem dX8_linesOf_30 : decode cX8_linesOf 30 = .ok (.invokevirtual 161, 3) := by decide +kernel
theorem dX8_linesOf_33 : decode cX8_linesOf 33 = .ok (.iload_n 1, 1) := by decide +kernel
theorem dX8_linesOf_34 : decode cX8_linesOf 34 = .ok (.if_icmp .ne 7, 3) := by decide +kernel
theorem dX8_linesOf_37 : decode cX8_linesOf 37 = .ok (.iconst 1, 1) := by decide +kernel
theorem dX8_linesOf_38 : decode cX8_linesOf 38 = .ok (.goto 4, 3) := by decide +kernel
theorem dX8_linesOf_41 : decode cX8_linesOf 41 = .ok (.iconst 0, 1) := by decide +kernel
theorem dX8_linesOf_42 : decode cX8_linesOf 42 = .ok (.iadd, 1) := by decide +kernel
theorem dX8_linesOf_43 : decode cX8_linesOf 43 = .ok (.istore_n 2, 1) := by decide +kernel
theorem dX8_linesOf_44 : decode cX8_linesOf 44 = .ok (.iinc 3 1, 3) := by decide +kernel
theorem dX8_linesOf_47 : decode cX8_linesOf 47 = .ok (.goto (-43), 3) := by decide +kernel
theorem dX8_linesOf_50 : decode cX8_linesOf 50 = .ok (.iload_n 2, 1) := by decide +kernel
theorem dX8_linesOf_51 : decode cX8_linesOf 51 = .ok (.ireturn, 1) := by decide +kernel
set_option maxRecDepth 20000 in
theorem ggX8_owes_X8_mateBy : GoodIn wsX8_owes wsX8_mateBy := goodIn_r _ [7, 8, 9, 10, 11, 6, 12, 1, 13, 14, 15, 16, 17, 18, 19, 20, 29, 30, 31, 32, 33, 34, 35, 36, 37, 38, 39, 40, 41, 42, 43, 44, 45, 46, 47, 48, 49, 50, 51, 52, 53, 54, 55] rfl (by decide +kernel)
set_option maxRecDepth 20000 in
theorem gX8_owes_X8_mateBy : GoodIn wsX8_owes (wsV RX8 164 RX8 yX8_mateBy wsX8_mateBy) := goodIn_app (goodIn_of _ (by decide +kernel)) ggX8_owes_X8_mateBy
set_option maxRecDepth 20000 in
theorem ggX8_owes_X8_isWoman : GoodIn wsX8_owes wsX8_isWoman := goodIn_r _ [24, 2, 29, 30, 31, 32, 33, 34, 35, 36, 37, 38, 39, 40, 41, 42, 43, 44, 45, 46, 47, 48, 49, 50, 51, 52, 53, 54, 55] rfl (by decide +kernel)
set_option maxRecDepth 20000 in
theorem gX8_owes_X8_isWoman : GoodIn wsX8_owes (wsV RX8 168 RX8 yX8_isWoman wsX8_isWoman) := goodIn_app (goodIn_of _ (by decide +kernel)) ggX8_owes_X8_isWoman
set_option maxRecDepth 20000 in
theorem ggX8_owes_X8_kindOf : GoodIn wsX8_owes wsX8_kindOf := goodIn_r _ [28, 2, 29, 30, 31, 32, 33, 34, 35, 36, 37, 38, 39, 40, 41, 42, 43, 44, 45, 46, 47, 48, 49, 50, 51, 52, 53, 54, 55] rfl (by decide +kernel)
set_option maxRecDepth 20000 in
theorem gX8_owes_X8_kindOf : GoodIn wsX8_owes (wsV RX8 171 RX8 yX8_kindOf wsX8_kindOf) := goodIn_app (goodIn_of _ (by decide +kernel)) ggX8_owes_X8_kindOf
theorem dX8_owes_0 : decode cX8_owes 0 = .ok (.aload_n 0, 1) := by decide +kernel
theorem dX8_owes_1 : decode cX8_owes 1 = .ok (.iload_n 1, 1) := by decide +kernel
theorem dX8_owes_2 : decode cX8_owes 2 = .ok (.aload_n 0, 1) := by decide +kernel
theorem dX8_owes_3 : decode cX8_owes 3 = .ok (.getfield 43, 3) := by decide +kernel
theorem dX8_owes_6 : decode cX8_owes 6 = .ok (.iconst 0, 1) := by decide +kernel
theorem dX8_owes_7 : decode cX8_owes 7 = .ok (.iaload, 1) := by decide +kernel
theorem dX8_owes_8 : decode cX8_owes 8 = .ok (.invokevirtual 164, 3) := by decide +kernel
theorem dX8_owes_11 : decode cX8_owes 11 = .ok (.istore_n 2, 1) := by decide +kernel
theorem dX8_owes_12 : decode cX8_owes 12 = .ok (.aload_n 0, 1) := by decide +kernel
theorem dX8_owes_13 : decode cX8_owes 13 = .ok (.iload_n 1, 1) := by decide +kernel
theorem dX8_owes_14 : decode cX8_owes 14 = .ok (.invokevirtual 168, 3) := by decide +kernel
theorem dX8_owes_17 : decode cX8_owes 17 = .ok (.ifCond .eq 22, 3) := by decide +kernel
theorem dX8_owes_20 : decode cX8_owes 20 = .ok (.iload_n 2, 1) := by decide +kernel
theorem dX8_owes_21 : decode cX8_owes 21 = .ok (.ifCond .ge 16, 3) := by decide +kernel
theorem dX8_owes_24 : decode cX8_owes 24 = .ok (.aload_n 0, 1) := by decide +kernel
theorem dX8_owes_25 : decode cX8_owes 25 = .ok (.getfield 7, 3) := by decide +kernel
theorem dX8_owes_28 : decode cX8_owes 28 = .ok (.iconst 3, 1) := by decide +kernel
theorem dX8_owes_29 : decode cX8_owes 29 = .ok (.iload_n 1, 1) := by decide +kernel
theorem dX8_owes_30 : decode cX8_owes 30 = .ok (.imul, 1) := by decide +kernel
theorem dX8_owes_31 : decode cX8_owes 31 = .ok (.iconst 2, 1) := by decide +kernel
theorem dX8_owes_32 : decode cX8_owes 32 = .ok (.iadd, 1) := by decide +kernel
theorem dX8_owes_33 : decode cX8_owes 33 = .ok (.iaload, 1) := by decide +kernel
theorem dX8_owes_34 : decode cX8_owes 34 = .ok (.goto 4, 3) := by decide +kernel
theorem dX8_owes_37 : decode cX8_owes 37 = .ok (.iconst 0, 1) := by decide +kernel
theorem dX8_owes_38 : decode cX8_owes 38 = .ok (.ireturn, 1) := by decide +kernel
theorem dX8_owes_39 : decode cX8_owes 39 = .ok (.iload_n 2, 1) := by decide +kernel
theorem dX8_owes_40 : decode cX8_owes 40 = .ok (.ifCond .ge 7, 3) := by decide +kernel
theorem dX8_owes_43 : decode cX8_owes 43 = .ok (.iconst 0, 1) := by decide +kernel
theorem dX8_owes_44 : decode cX8_owes 44 = .ok (.goto 13, 3) := by decide +kernel
theorem dX8_owes_47 : decode cX8_owes 47 = .ok (.aload_n 0, 1) := by decide +kernel
theorem dX8_owes_48 : decode cX8_owes 48 = .ok (.getfield 7, 3) := by decide +kernel
theorem dX8_owes_51 : decode cX8_owes 51 = .ok (.iconst 3, 1) := by decide +kernel
theorem dX8_owes_52 : decode cX8_owes 52 = .ok (.iload_n 2, 1) := by decide +kernel
theorem dX8_owes_53 : decode cX8_owes 53 = .ok (.imul, 1) := by decide +kernel
theorem dX8_owes_54 : decode cX8_owes 54 = .ok (.iconst 2, 1) := by decide +kernel
theorem dX8_owes_55 : decode cX8_owes 55 = .ok (.iadd, 1) := by decide +kernel
theorem dX8_owes_56 : decode cX8_owes 56 = .ok (.iaload, 1) := by decide +kernel
theorem dX8_owes_57 : decode cX8_owes 57 = .ok (.istore_n 3, 1) := by decide +kernel
theorem dX8_owes_58 : decode cX8_owes 58 = .ok (.aload_n 0, 1) := by decide +kernel
theorem dX8_owes_59 : decode cX8_owes 59 = .ok (.getfield 7, 3) := by decide +kernel
theorem dX8_owes_62 : decode cX8_owes 62 = .ok (.iconst 3, 1) := by decide +kernel
theorem dX8_owes_63 : decode cX8_owes 63 = .ok (.iload_n 1, 1) := by decide +kernel
theorem dX8_owes_64 : decode cX8_owes 64 = .ok (.imul, 1) := by decide +kernel
theorem dX8_owes_65 : decode cX8_owes 65 = .ok (.iconst 2, 1) := by decide +kernel
theorem dX8_owes_66 : decode cX8_owes 66 = .ok (.iadd, 1) := by decide +kernel
theorem dX8_owes_67 : decode cX8_owes 67 = .ok (.iaload, 1) := by decide +kernel
theorem dX8_owes_68 : decode cX8_owes 68 = .ok (.iload_n 2, 1) := by decide +kernel
theorem dX8_owes_69 : decode cX8_owes 69 = .ok (.ifCond .lt 18, 3) := by decide +kernel
theorem dX8_owes_72 : decode cX8_owes 72 = .ok (.aload_n 0, 1) := by decide +kernel
theorem dX8_owes_73 : decode cX8_owes 73 = .ok (.iload_n 2, 1) := by decide +kernel
theorem dX8_owes_74 : decode cX8_owes 74 = .ok (.invokevirtual 171, 3) := by decide +kernel
theorem dX8_owes_77 : decode cX8_owes 77 = .ok (.iconst 1, 1) := by decide +kernel
theorem dX8_owes_78 : decode cX8_owes 78 = .ok (.if_icmp .ne 9, 3) := by decide +kernel
theorem dX8_owes_81 : decode cX8_owes 81 = .ok (.iload_n 3, 1) := by decide +kernel
theorem dX8_owes_82 : decode cX8_owes 82 = .ok (.iconst 2, 1) := by decide +kernel
theorem dX8_owes_83 : decode cX8_owes 83 = .ok (.idiv, 1) := by decide +kernel
theorem dX8_owes_84 : decode cX8_owes 84 = .ok (.goto 4, 3) := by decide +kernel
theorem dX8_owes_87 : decode cX8_owes 87 = .ok (.iload_n 3, 1) := by decide +kernel
theorem dX8_owes_88 : decode cX8_owes 88 = .ok (.iadd, 1) := by decide +kernel
theorem dX8_owes_89 : decode cX8_owes 89 = .ok (.ireturn, 1) := by decide +kernel
set_option maxRecDepth 20000 in
theorem ggX8_person_X8_isPerson : GoodIn wsX8_person wsX8_isPerson := goodIn_r _ [7, 8, 9, 10, 6, 11, 70, 71, 72, 73, 74, 75, 76, 77, 78, 79, 80, 81, 82, 83, 84, 85, 86, 87, 88, 89, 90, 91, 92, 93, 94, 95, 96] rfl (by decide +kernel)
set_option maxRecDepth 20000 in
theorem gX8_person_X8_isPerson : GoodIn wsX8_person (wsV RX8 174 RX8 yX8_isPerson wsX8_isPerson) := goodIn_app (goodIn_of _ (by decide +kernel)) ggX8_person_X8_isPerson
set_option maxRecDepth 20000 in
theorem ggX8_person_X8_in : GoodIn wsX8_person wsX8_in := goodIn_r _ [11] rfl (by decide +kernel)
set_option maxRecDepth 20000 in
theorem gX8_person_X8_in : GoodIn wsX8_person (va_wsS RX8 83 yX8_in wsX8_in) := goodIn_app (goodIn_of _ (by decide +kernel)) ggX8_person_X8_in
set_option maxRecDepth 20000 in
theorem ggX8_person_X8_asItIs : GoodIn wsX8_person wsX8_asItIs := goodIn_r _ [15, 16, 2, 17, 18, 6, 19, 70, 71, 72, 73, 74, 75, 76, 77, 78, 79, 80, 81, 82, 83, 84, 85, 86, 87, 88, 89, 90, 91, 92, 93, 94, 95, 96] rfl (by decide +kernel)
set_option maxRecDepth 20000 in
theorem gX8_person_X8_asItIs : GoodIn wsX8_person (wsV RX8 177 RX8 yX8_asItIs wsX8_asItIs) := goodIn_app (goodIn_of _ (by decide +kernel)) ggX8_person_X8_asItIs
set_option maxRecDepth 20000 in
theorem ggX8_person_X8_findHolds : GoodIn wsX8_person wsX8_findHolds := goodIn_r _ [23, 24, 25, 26, 27, 28, 6, 29, 30, 31, 32, 33, 34, 35, 36, 37, 16, 38, 39, 40, 41, 42, 43, 44, 45, 46, 47, 48, 49, 70, 71, 72, 73, 74, 75, 76, 77, 78, 79, 80, 81, 82, 83, 84, 85, 86, 87, 88, 89, 90, 91, 92, 93, 94, 95, 96] rfl (by decide +kernel)
set_option maxRecDepth 20000 in
theorem gX8_person_X8_findHolds : GoodIn wsX8_person (wsV RX8 180 RX8 yX8_findHolds wsX8_findHolds) := goodIn_app (goodIn_of _ (by decide +kernel)) ggX8_person_X8_findHolds
set_option maxRecDepth 20000 in
theorem ggX8_person_X8_mateBy : GoodIn wsX8_person wsX8_mateBy := goodIn_r _ [53, 24, 42, 43, 44, 6, 45, 16, 38, 39, 40, 41, 46, 47, 48, 49, 70, 71, 72, 73, 74, 75, 76, 77, 78, 79, 80, 81, 82, 83, 84, 85, 86, 87, 88, 89, 90, 91, 92, 93, 94, 95, 96] rfl (by decide +kernel)
set_option maxRecDepth 20000 in
theorem gX8_person_X8_mateBy : GoodIn wsX8_person (wsV RX8 164 RX8 yX8_mateBy wsX8_mateBy) := goodIn_app (goodIn_of _ (by decide +kernel)) ggX8_person_X8_mateBy
set_option maxRecDepth 20000 in
theorem ggX8_person_X8_owes : GoodIn wsX8_person wsX8_owes := goodIn_r _ [57, 16, 1, 50, 51, 52, 6, 53, 24, 42, 43, 44, 45, 38, 39, 40, 41, 46, 47, 48, 49, 58, 59, 60, 61, 62, 63, 64, 65, 70, 71, 72, 73, 74, 75, 76, 77, 78, 79, 80, 81, 82, 83, 84, 85, 86, 87, 88, 89, 90, 91, 92, 93, 94, 95, 96] rfl (by decide +kernel)
set_option maxRecDepth 20000 in
theorem gX8_person_X8_owes : GoodIn wsX8_person (wsV RX8 183 RX8 yX8_owes wsX8_owes) := goodIn_app (goodIn_of _ (by decide +kernel)) ggX8_person_X8_owes
set_option maxRecDepth 20000 in
theorem ggX8_person_X8_linesOf : GoodIn wsX8_person wsX8_linesOf := goodIn_r _ [69, 30, 31, 32, 6, 33, 34, 35, 36, 37, 16, 38, 39, 40, 41, 46, 47, 48, 49, 70, 71, 72, 73, 74, 75, 76, 77, 78, 79, 80, 81, 82, 83, 84, 85, 86, 87, 88, 89, 90, 91, 92, 93, 94, 95, 96] rfl (by decide +kernel)
set_option maxRecDepth 20000 in
theorem gX8_person_X8_linesOf : GoodIn wsX8_person (wsV RX8 186 RX8 yX8_linesOf wsX8_linesOf) := goodIn_app (goodIn_of _ (by decide +kernel)) ggX8_person_X8_linesOf
theorem dX8_person_0 : decode cX8_person 0 = .ok (.aload_n 0, 1) := by decide +kernel
theorem dX8_person_1 : decode cX8_person 1 = .ok (.iload_n 1, 1) := by decide +kernel
theorem dX8_person_2 : decode cX8_person 2 = .ok (.invokevirtual 174, 3) := by decide +kernel
theorem dX8_person_5 : decode cX8_person 5 = .ok (.ifCond .eq 13, 3) := by decide +kernel
theorem dX8_person_8 : decode cX8_person 8 = .ok (.iload_n 2, 1) := by decide +kernel
theorem dX8_person_9 : decode cX8_person 9 = .ok (.iconst 0, 1) := by decide +kernel
theorem dX8_person_10 : decode cX8_person 10 = .ok (.bipush 6, 2) := by decide +kernel
theorem dX8_person_12 : decode cX8_person 12 = .ok (.invokestatic 83, 3) := by decide +kernel
theorem dX8_person_15 : decode cX8_person 15 = .ok (.ifCond .ne 5, 3) := by decide +kernel
theorem dX8_person_18 : decode cX8_person 18 = .ok (.iconst (-1), 1) := by decide +kernel
theorem dX8_person_19 : decode cX8_person 19 = .ok (.ireturn, 1) := by decide +kernel
theorem dX8_person_20 : decode cX8_person 20 = .ok (.aload_n 0, 1) := by decide +kernel
theorem dX8_person_21 : decode cX8_person 21 = .ok (.invokevirtual 177, 3) := by decide +kernel
theorem dX8_person_24 : decode cX8_person 24 = .ok (.aload_n 0, 1) := by decide +kernel
theorem dX8_person_25 : decode cX8_person 25 = .ok (.invokevirtual 180, 3) := by decide +kernel
theorem dX8_person_28 : decode cX8_person 28 = .ok (.iload_n 2, 1) := by decide +kernel
theorem dX8_person_29 : decode cX8_person 29 = .ok (.iconst 3, 1) := by decide +kernel
theorem dX8_person_30 : decode cX8_person 30 = .ok (.if_icmp .ge 14, 3) := by decide +kernel
theorem dX8_person_33 : decode cX8_person 33 = .ok (.aload_n 0, 1) := by decide +kernel
theorem dX8_person_34 : decode cX8_person 34 = .ok (.getfield 7, 3) := by decide +kernel
theorem dX8_person_37 : decode cX8_person 37 = .ok (.iconst 3, 1) := by decide +kernel
theorem dX8_person_38 : decode cX8_person 38 = .ok (.iload_n 1, 1) := by decide +kernel
theorem dX8_person_39 : decode cX8_person 39 = .ok (.imul, 1) := by decide +kernel
theorem dX8_person_40 : decode cX8_person 40 = .ok (.iload_n 2, 1) := by decide +kernel
theorem dX8_person_41 : decode cX8_person 41 = .ok (.iadd, 1) := by decide +kernel
theorem dX8_person_42 : decode cX8_person 42 = .ok (.iaload, 1) := by decide +kernel
theorem dX8_person_43 : decode cX8_person 43 = .ok (.ireturn, 1) := by decide +kernel
theorem dX8_person_44 : decode cX8_person 44 = .ok (.iload_n 2, 1) := by decide +kernel
theorem dX8_person_45 : decode cX8_person 45 = .ok (.iconst 3, 1) := by decide +kernel
theorem dX8_person_46 : decode cX8_person 46 = .ok (.if_icmp .ne 14, 3) := by decide +kernel
theorem dX8_person_49 : decode cX8_person 49 = .ok (.aload_n 0, 1) := by decide +kernel
theorem dX8_person_50 : decode cX8_person 50 = .ok (.getfield 16, 3) := by decide +kernel
theorem dX8_person_53 : decode cX8_person 53 = .ok (.iconst 1, 1) := by decide +kernel
theorem dX8_person_54 : decode cX8_person 54 = .ok (.iload_n 1, 1) := by decide +kernel
theorem dX8_person_55 : decode cX8_person 55 = .ok (.iadd, 1) := by decide +kernel
theorem dX8_person_56 : decode cX8_person 56 = .ok (.iaload, 1) := by decide +kernel
theorem dX8_person_57 : decode cX8_person 57 = .ok (.goto 40, 3) := by decide +kernel
theorem dX8_person_60 : decode cX8_person 60 = .ok (.iload_n 2, 1) := by decide +kernel
theorem dX8_person_61 : decode cX8_person 61 = .ok (.iconst 4, 1) := by decide +kernel
theorem dX8_person_62 : decode cX8_person 62 = .ok (.if_icmp .ne 17, 3) := by decide +kernel
theorem dX8_person_65 : decode cX8_person 65 = .ok (.aload_n 0, 1) := by decide +kernel
theorem dX8_person_66 : decode cX8_person 66 = .ok (.iload_n 1, 1) := by decide +kernel
theorem dX8_person_67 : decode cX8_person 67 = .ok (.aload_n 0, 1) := by decide +kernel
theorem dX8_person_68 : decode cX8_person 68 = .ok (.getfield 16, 3) := by decide +kernel
theorem dX8_person_71 : decode cX8_person 71 = .ok (.iconst 0, 1) := by decide +kernel
theorem dX8_person_72 : decode cX8_person 72 = .ok (.iaload, 1) := by decide +kernel
theorem dX8_person_73 : decode cX8_person 73 = .ok (.invokevirtual 164, 3) := by decide +kernel
theorem dX8_person_76 : decode cX8_person 76 = .ok (.goto 21, 3) := by decide +kernel
theorem dX8_person_79 : decode cX8_person 79 = .ok (.iload_n 2, 1) := by decide +kernel
theorem dX8_person_80 : decode cX8_person 80 = .ok (.iconst 5, 1) := by decide +kernel
theorem dX8_person_81 : decode cX8_person 81 = .ok (.if_icmp .ne 11, 3) := by decide +kernel
theorem dX8_person_84 : decode cX8_person 84 = .ok (.aload_n 0, 1) := by decide +kernel
theorem dX8_person_85 : decode cX8_person 85 = .ok (.iload_n 1, 1) := by decide +kernel
theorem dX8_person_86 : decode cX8_person 86 = .ok (.invokevirtual 183, 3) := by decide +kernel
theorem dX8_person_89 : decode cX8_person 89 = .ok (.goto 8, 3) := by decide +kernel
theorem dX8_person_92 : decode cX8_person 92 = .ok (.aload_n 0, 1) := by decide +kernel
theorem dX8_person_93 : decode cX8_person 93 = .ok (.iload_n 1, 1) := by decide +kernel
theorem dX8_person_94 : decode cX8_person 94 = .ok (.invokevirtual 186, 3) := by decide +kernel
theorem dX8_person_97 : decode cX8_person 97 = .ok (.ireturn, 1) := by decide +kernel
set_option maxRecDepth 20000 in
theorem ggX8_blanksOf_X8_isBlank : GoodIn wsX8_blanksOf wsX8_isBlank := goodIn_r _ [5, 6, 7, 8, 4, 9, 10, 11, 12, 13, 14, 15, 16, 17, 18, 19, 20, 21, 22, 23, 24, 25, 26, 27, 28, 29, 30, 31, 32, 33, 34, 35, 36, 37, 38, 39, 40, 41] rfl (by decide +kernel)
set_option maxRecDepth 20000 in
theorem gX8_blanksOf_X8_isBlank : GoodIn wsX8_blanksOf (wsV RX8 189 RX8 yX8_isBlank wsX8_isBlank) := goodIn_app (goodIn_of _ (by decide +kernel)) ggX8_blanksOf_X8_isBlank
theorem dX8_blanksOf_0 : decode cX8_blanksOf 0 = .ok (.iconst 0, 1) := by decide +kernel
theorem dX8_blanksOf_1 : decode cX8_blanksOf 1 = .ok (.istore_n 2, 1) := by decide +kernel
theorem dX8_blanksOf_2 : decode cX8_blanksOf 2 = .ok (.iconst 0, 1) := by decide +kernel
theorem dX8_blanksOf_3 : decode cX8_blanksOf 3 = .ok (.istore_n 3, 1) := by decide +kernel
theorem dX8_blanksOf_4 : decode cX8_blanksOf 4 = .ok (.iload_n 3, 1) := by decide +kernel
theorem dX8_blanksOf_5 : decode cX8_blanksOf 5 = .ok (.bipush 8, 2) := by decide +kernel
theorem dX8_blanksOf_7 : decode cX8_blanksOf 7 = .ok (.if_icmp .ge 30, 3) := by decide +kernel
theorem dX8_blanksOf_10 : decode cX8_blanksOf 10 = .ok (.iload_n 2, 1) := by decide +kernel
theorem dX8_blanksOf_11 : decode cX8_blanksOf 11 = .ok (.aload_n 0, 1) := by decide +kernel
theorem dX8_blanksOf_12 : decode cX8_blanksOf 12 = .ok (.bipush 8, 2) := by decide +kernel
theorem dX8_blanksOf_14 : decode cX8_blanksOf 14 = .ok (.iload_n 1, 1) := by decide +kernel
theorem dX8_blanksOf_15 : decode cX8_blanksOf 15 = .ok (.imul, 1) := by decide +kernel
theorem dX8_blanksOf_16 : decode cX8_blanksOf 16 = .ok (.iload_n 3, 1) := by decide +kernel
theorem dX8_blanksOf_17 : decode cX8_blanksOf 17 = .ok (.iadd, 1) := by decide +kernel
theorem dX8_blanksOf_18 : decode cX8_blanksOf 18 = .ok (.invokevirtual 189, 3) := by decide +kernel
theorem dX8_blanksOf_21 : decode cX8_blanksOf 21 = .ok (.ifCond .eq 7, 3) := by decide +kernel
theorem dX8_blanksOf_24 : decode cX8_blanksOf 24 = .ok (.iconst 1, 1) := by decide +kernel
theorem dX8_blanksOf_25 : decode cX8_blanksOf 25 = .ok (.goto 4, 3) := by decide +kernel
theorem dX8_blanksOf_28 : decode cX8_blanksOf 28 = .ok (.iconst 0, 1) := by decide +kernel
theorem dX8_blanksOf_29 : decode cX8_blanksOf 29 = .ok (.iadd, 1) := by decide +kernel
theorem dX8_blanksOf_30 : decode cX8_blanksOf 30 = .ok (.istore_n 2, 1) := by decide +kernel
theorem dX8_blanksOf_31 : decode cX8_blanksOf 31 = .ok (.iinc 3 1, 3) := by decide +kernel
theorem dX8_blanksOf_34 : decode cX8_blanksOf 34 = .ok (.goto (-30), 3) := by decide +kernel
theorem dX8_blanksOf_37 : decode cX8_blanksOf 37 = .ok (.iload_n 2, 1) := by decide +kernel
theorem dX8_blanksOf_38 : decode cX8_blanksOf 38 = .ok (.ireturn, 1) := by decide +kernel
set_option maxRecDepth 20000 in
theorem ggX8_parson_X8_isParson : GoodIn wsX8_parson wsX8_isParson := goodIn_r _ [7, 8, 9, 10, 6, 11, 36, 37, 38, 39, 40, 41, 42, 43, 44, 45, 46, 47, 48, 49, 50, 51, 52, 53, 54, 55, 56, 57, 58, 59, 60, 61, 62] rfl (by decide +kernel)
set_option maxRecDepth 20000 in
theorem gX8_parson_X8_isParson : GoodIn wsX8_parson (wsV RX8 90 RX8 yX8_isParson wsX8_isParson) := goodIn_app (goodIn_of _ (by decide +kernel)) ggX8_parson_X8_isParson
set_option maxRecDepth 20000 in
theorem ggX8_parson_X8_in : GoodIn wsX8_parson wsX8_in := goodIn_r _ [11] rfl (by decide +kernel)
set_option maxRecDepth 20000 in
theorem gX8_parson_X8_in : GoodIn wsX8_parson (va_wsS RX8 83 yX8_in wsX8_in) := goodIn_app (goodIn_of _ (by decide +kernel)) ggX8_parson_X8_in
set_option maxRecDepth 20000 in
theorem ggX8_parson_X8_asItIs : GoodIn wsX8_parson wsX8_asItIs := goodIn_r _ [15, 16, 2, 17, 18, 6, 19, 36, 37, 38, 39, 40, 41, 42, 43, 44, 45, 46, 47, 48, 49, 50, 51, 52, 53, 54, 55, 56, 57, 58, 59, 60, 61, 62] rfl (by decide +kernel)
set_option maxRecDepth 20000 in
theorem gX8_parson_X8_asItIs : GoodIn wsX8_parson (wsV RX8 177 RX8 yX8_asItIs wsX8_asItIs) := goodIn_app (goodIn_of _ (by decide +kernel)) ggX8_parson_X8_asItIs
set_option maxRecDepth 20000 in
theorem ggX8_parson_X8_blanksOf : GoodIn wsX8_parson wsX8_blanksOf := goodIn_r _ [23, 24, 25, 26, 6, 27, 28, 29, 30, 31, 16, 32, 33, 34, 35, 36, 37, 38, 39, 40, 41, 42, 43, 44, 45, 46, 47, 48, 49, 50, 51, 52, 53, 54, 55, 56, 57, 58, 59, 60, 61, 62] rfl (by decide +kernel)
set_option maxRecDepth 20000 in
theorem gX8_parson_X8_blanksOf : GoodIn wsX8_parson (wsV RX8 192 RX8 yX8_blanksOf wsX8_blanksOf) := goodIn_app (goodIn_of _ (by decide +kernel)) ggX8_parson_X8_blanksOf
theorem dX8_parson_0 : decode cX8_parson 0 = .ok (.aload_n 0, 1) := by decide +kernel
theorem dX8_parson_1 : decode cX8_parson 1 = .ok (.iload_n 1, 1) := by decide +kernel
theorem dX8_parson_2 : decode cX8_parson 2 = .ok (.invokevirtual 90, 3) := by decide +kernel
theorem dX8_parson_5 : decode cX8_parson 5 = .ok (.ifCond .eq 12, 3) := by decide +kernel
theorem dX8_parson_8 : decode cX8_parson 8 = .ok (.iload_n 2, 1) := by decide +kernel
theorem dX8_parson_9 : decode cX8_parson 9 = .ok (.iconst 0, 1) := by decide +kernel
theorem dX8_parson_10 : decode cX8_parson 10 = .ok (.iconst 4, 1) := by decide +kernel
theorem dX8_parson_11 : decode cX8_parson 11 = .ok (.invokestatic 83, 3) := by decide +kernel
theorem dX8_parson_14 : decode cX8_parson 14 = .ok (.ifCond .ne 5, 3) := by decide +kernel
theorem dX8_parson_17 : decode cX8_parson 17 = .ok (.iconst (-1), 1) := by decide +kernel
theorem dX8_parson_18 : decode cX8_parson 18 = .ok (.ireturn, 1) := by decide +kernel
theorem dX8_parson_19 : decode cX8_parson 19 = .ok (.aload_n 0, 1) := by decide +kernel
theorem dX8_parson_20 : decode cX8_parson 20 = .ok (.invokevirtual 177, 3) := by decide +kernel
theorem dX8_parson_23 : decode cX8_parson 23 = .ok (.iload_n 2, 1) := by decide +kernel
theorem dX8_parson_24 : decode cX8_parson 24 = .ok (.iconst 2, 1) := by decide +kernel
theorem dX8_parson_25 : decode cX8_parson 25 = .ok (.if_icmp .ge 14, 3) := by decide +kernel
theorem dX8_parson_28 : decode cX8_parson 28 = .ok (.aload_n 0, 1) := by decide +kernel
theorem dX8_parson_29 : decode cX8_parson 29 = .ok (.getfield 13, 3) := by decide +kernel
theorem dX8_parson_32 : decode cX8_parson 32 = .ok (.iconst 2, 1) := by decide +kernel
theorem dX8_parson_33 : decode cX8_parson 33 = .ok (.iload_n 1, 1) := by decide +kernel
theorem dX8_parson_34 : decode cX8_parson 34 = .ok (.imul, 1) := by decide +kernel
theorem dX8_parson_35 : decode cX8_parson 35 = .ok (.iload_n 2, 1) := by decide +kernel
theorem dX8_parson_36 : decode cX8_parson 36 = .ok (.iadd, 1) := by decide +kernel
theorem dX8_parson_37 : decode cX8_parson 37 = .ok (.iaload, 1) := by decide +kernel
theorem dX8_parson_38 : decode cX8_parson 38 = .ok (.ireturn, 1) := by decide +kernel
theorem dX8_parson_39 : decode cX8_parson 39 = .ok (.iload_n 2, 1) := by decide +kernel
theorem dX8_parson_40 : decode cX8_parson 40 = .ok (.iconst 2, 1) := by decide +kernel
theorem dX8_parson_41 : decode cX8_parson 41 = .ok (.if_icmp .ne 15, 3) := by decide +kernel
theorem dX8_parson_44 : decode cX8_parson 44 = .ok (.aload_n 0, 1) := by decide +kernel
theorem dX8_parson_45 : decode cX8_parson 45 = .ok (.getfield 16, 3) := by decide +kernel
theorem dX8_parson_48 : decode cX8_parson 48 = .ok (.bipush 12, 2) := by decide +kernel
theorem dX8_parson_50 : decode cX8_parson 50 = .ok (.iload_n 1, 1) := by decide +kernel
theorem dX8_parson_51 : decode cX8_parson 51 = .ok (.iadd, 1) := by decide +kernel
theorem dX8_parson_52 : decode cX8_parson 52 = .ok (.iaload, 1) := by decide +kernel
theorem dX8_parson_53 : decode cX8_parson 53 = .ok (.goto 25, 3) := by decide +kernel
theorem dX8_parson_56 : decode cX8_parson 56 = .ok (.iload_n 2, 1) := by decide +kernel
theorem dX8_parson_57 : decode cX8_parson 57 = .ok (.iconst 3, 1) := by decide +kernel
theorem dX8_parson_58 : decode cX8_parson 58 = .ok (.if_icmp .ne 11, 3) := by decide +kernel
theorem dX8_parson_61 : decode cX8_parson 61 = .ok (.aload_n 0, 1) := by decide +kernel
theorem dX8_parson_62 : decode cX8_parson 62 = .ok (.iload_n 1, 1) := by decide +kernel
theorem dX8_parson_63 : decode cX8_parson 63 = .ok (.invokevirtual 192, 3) := by decide +kernel
theorem dX8_parson_66 : decode cX8_parson 66 = .ok (.goto 12, 3) := by decide +kernel
theorem dX8_parson_69 : decode cX8_parson 69 = .ok (.aload_n 0, 1) := by decide +kernel
theorem dX8_parson_70 : decode cX8_parson 70 = .ok (.getfield 16, 3) := by decide +kernel
theorem dX8_parson_73 : decode cX8_parson 73 = .ok (.bipush 9, 2) := by decide +kernel
theorem dX8_parson_75 : decode cX8_parson 75 = .ok (.iload_n 1, 1) := by decide +kernel
theorem dX8_parson_76 : decode cX8_parson 76 = .ok (.iadd, 1) := by decide +kernel
theorem dX8_parson_77 : decode cX8_parson 77 = .ok (.iaload, 1) := by decide +kernel
theorem dX8_parson_78 : decode cX8_parson 78 = .ok (.ireturn, 1) := by decide +kernel
set_option maxRecDepth 20000 in
theorem ggX8_line_X8_isLine : GoodIn wsX8_line wsX8_isLine := goodIn_r _ [7, 8, 9, 10, 11, 6, 12, 13, 14, 15, 16, 57, 58, 59, 60, 61, 62, 63, 64, 65, 66, 67, 68, 69, 70, 71, 72, 73, 74, 75, 76, 77, 78, 79, 80, 81, 82, 83] rfl (by decide +kernel)
set_option maxRecDepth 20000 in
theorem gX8_line_X8_isLine : GoodIn wsX8_line (wsV RX8 195 RX8 yX8_isLine wsX8_isLine) := goodIn_app (goodIn_of _ (by decide +kernel)) ggX8_line_X8_isLine
set_option maxRecDepth 20000 in
theorem ggX8_line_X8_in : GoodIn wsX8_line wsX8_in := goodIn_r _ [16] rfl (by decide +kernel)
set_option maxRecDepth 20000 in
theorem gX8_line_X8_in : GoodIn wsX8_line (va_wsS RX8 83 yX8_in wsX8_in) := goodIn_app (goodIn_of _ (by decide +kernel)) ggX8_line_X8_in
set_option maxRecDepth 20000 in
theorem ggX8_line_X8_asItIs : GoodIn wsX8_line wsX8_asItIs := goodIn_r _ [20, 2, 8, 21, 22, 6, 23, 57, 58, 59, 60, 61, 62, 63, 64, 65, 66, 67, 68, 69, 70, 71, 72, 73, 74, 75, 76, 77, 78, 79, 80, 81, 82, 83] rfl (by decide +kernel)
set_option maxRecDepth 20000 in
theorem gX8_line_X8_asItIs : GoodIn wsX8_line (wsV RX8 177 RX8 yX8_asItIs wsX8_asItIs) := goodIn_app (goodIn_of _ (by decide +kernel)) ggX8_line_X8_asItIs
set_option maxRecDepth 20000 in
theorem ggX8_line_X8_findHolds : GoodIn wsX8_line wsX8_findHolds := goodIn_r _ [27, 1, 28, 29, 30, 31, 6, 32, 33, 34, 35, 36, 37, 38, 39, 40, 2, 41, 42, 43, 44, 45, 46, 47, 48, 49, 50, 51, 52, 57, 58, 59, 60, 61, 62, 63, 64, 65, 66, 67, 68, 69, 70, 71, 72, 73, 74, 75, 76, 77, 78, 79, 80, 81, 82, 83] rfl (by decide +kernel)
set_option maxRecDepth 20000 in
theorem gX8_line_X8_findHolds : GoodIn wsX8_line (wsV RX8 180 RX8 yX8_findHolds wsX8_findHolds) := goodIn_app (goodIn_of _ (by decide +kernel)) ggX8_line_X8_findHolds
set_option maxRecDepth 20000 in
theorem ggX8_line_X8_isOfTwo : GoodIn wsX8_line wsX8_isOfTwo := goodIn_r _ [36, 37, 38, 39, 6, 40, 2, 41, 42, 43, 44, 57, 58, 59, 60, 61, 62, 63, 64, 65, 66, 67, 68, 69, 70, 71, 72, 73, 74, 75, 76, 77, 78, 79, 80, 81, 82, 83] rfl (by decide +kernel)
set_option maxRecDepth 20000 in
theorem gX8_line_X8_isOfTwo : GoodIn wsX8_line (wsV RX8 152 RX8 yX8_isOfTwo wsX8_isOfTwo) := goodIn_app (goodIn_of _ (by decide +kernel)) ggX8_line_X8_isOfTwo
set_option maxRecDepth 20000 in
theorem ggX8_line_X8_begun : GoodIn wsX8_line wsX8_begun := goodIn_r _ [48, 2, 57, 58, 59, 60, 61, 62, 63, 64, 65, 66, 67, 68, 69, 70, 71, 72, 73, 74, 75, 76, 77, 78, 79, 80, 81, 82, 83] rfl (by decide +kernel)
set_option maxRecDepth 20000 in
theorem gX8_line_X8_begun : GoodIn wsX8_line (wsV RX8 155 RX8 yX8_begun wsX8_begun) := goodIn_app (goodIn_of _ (by decide +kernel)) ggX8_line_X8_begun
set_option maxRecDepth 20000 in
theorem ggX8_line_X8_manOf : GoodIn wsX8_line wsX8_manOf := goodIn_r _ [44, 2, 57, 58, 59, 60, 61, 62, 63, 64, 65, 66, 67, 68, 69, 70, 71, 72, 73, 74, 75, 76, 77, 78, 79, 80, 81, 82, 83] rfl (by decide +kernel)
set_option maxRecDepth 20000 in
theorem gX8_line_X8_manOf : GoodIn wsX8_line (wsV RX8 149 RX8 yX8_manOf wsX8_manOf) := goodIn_app (goodIn_of _ (by decide +kernel)) ggX8_line_X8_manOf
set_option maxRecDepth 20000 in
theorem ggX8_line_X8_womanOf : GoodIn wsX8_line wsX8_womanOf := goodIn_r _ [52, 2, 57, 58, 59, 60, 61, 62, 63, 64, 65, 66, 67, 68, 69, 70, 71, 72, 73, 74, 75, 76, 77, 78, 79, 80, 81, 82, 83] rfl (by decide +kernel)
set_option maxRecDepth 20000 in
theorem gX8_line_X8_womanOf : GoodIn wsX8_line (wsV RX8 161 RX8 yX8_womanOf wsX8_womanOf) := goodIn_app (goodIn_of _ (by decide +kernel)) ggX8_line_X8_womanOf
set_option maxRecDepth 20000 in
theorem ggX8_line_X8_isBlank : GoodIn wsX8_line wsX8_isBlank := goodIn_r _ [56, 37, 38, 39, 6, 40, 2, 41, 42, 43, 44, 57, 58, 59, 60, 61, 62, 63, 64, 65, 66, 67, 68, 69, 70, 71, 72, 73, 74, 75, 76, 77, 78, 79, 80, 81, 82, 83] rfl (by decide +kernel)
set_option maxRecDepth 20000 in
theorem gX8_line_X8_isBlank : GoodIn wsX8_line (wsV RX8 189 RX8 yX8_isBlank wsX8_isBlank) := goodIn_app (goodIn_of _ (by decide +kernel)) ggX8_line_X8_isBlank
theorem dX8_line_0 : decode cX8_line 0 = .ok (.aload_n 0, 1) := by decide +kernel
theorem dX8_line_1 : decode cX8_line 1 = .ok (.iload_n 1, 1) := by decide +kernel
theorem dX8_line_2 : decode cX8_line 2 = .ok (.iload_n 2, 1) := by decide +kernel
theorem dX8_line_3 : decode cX8_line 3 = .ok (.invokevirtual 195, 3) := by decide +kernel
theorem dX8_line_6 : decode cX8_line 6 = .ok (.ifCond .eq 12, 3) := by decide +kernel
theorem dX8_line_9 : decode cX8_line 9 = .ok (.iload_n 3, 1) := by decide +kernel
theorem dX8_line_10 : decode cX8_line 10 = .ok (.iconst 0, 1) := by decide +kernel
theorem dX8_line_11 : decode cX8_line 11 = .ok (.iconst 5, 1) := by decide +kernel
theorem dX8_line_12 : decode cX8_line 12 = .ok (.invokestatic 83, 3) := by decide +kernel
theorem dX8_line_15 : decode cX8_line 15 = .ok (.ifCond .ne 5, 3) := by decide +kernel
theorem dX8_line_18 : decode cX8_line 18 = .ok (.iconst (-1), 1) := by decide +kernel
theorem dX8_line_19 : decode cX8_line 19 = .ok (.ireturn, 1) := by decide +kernel
theorem dX8_line_20 : decode cX8_line 20 = .ok (.aload_n 0, 1) := by decide +kernel
theorem dX8_line_21 : decode cX8_line 21 = .ok (.invokevirtual 177, 3) := by decide +kernel
theorem dX8_line_24 : decode cX8_line 24 = .ok (.aload_n 0, 1) := by decide +kernel
theorem dX8_line_25 : decode cX8_line 25 = .ok (.invokevirtual 180, 3) := by decide +kernel
theorem dX8_line_28 : decode cX8_line 28 = .ok (.bipush 8, 2) := by decide +kernel
theorem dX8_line_30 : decode cX8_line 30 = .ok (.iload_n 1, 1) := by decide +kernel
theorem dX8_line_31 : decode cX8_line 31 = .ok (.imul, 1) := by decide +kernel
theorem dX8_line_32 : decode cX8_line 32 = .ok (.iload_n 2, 1) := by decide +kernel
theorem dX8_line_33 : decode cX8_line 33 = .ok (.iadd, 1) := by decide +kernel
theorem dX8_line_34 : decode cX8_line 34 = .ok (.istore 4, 2) := by decide +kernel
theorem dX8_line_36 : decode cX8_line 36 = .ok (.aload_n 0, 1) := by decide +kernel
theorem dX8_line_37 : decode cX8_line 37 = .ok (.iload 4, 2) := by decide +kernel
theorem dX8_line_39 : decode cX8_line 39 = .ok (.invokevirtual 152, 3) := by decide +kernel
theorem dX8_line_42 : decode cX8_line 42 = .ok (.istore 5, 2) := by decide +kernel
theorem dX8_line_44 : decode cX8_line 44 = .ok (.iload_n 3, 1) := by decide +kernel
theorem dX8_line_45 : decode cX8_line 45 = .ok (.tableswitch 107 0 4 #[35, 42, 59, 76, 91], 35) := by decide +kernel
theorem dX8_line_80 : decode cX8_line 80 = .ok (.aload_n 0, 1) := by decide +kernel
theorem dX8_line_81 : decode cX8_line 81 = .ok (.iload 4, 2) := by decide +kernel
theorem dX8_line_83 : decode cX8_line 83 = .ok (.invokevirtual 155, 3) := by decide +kernel
theorem dX8_line_86 : decode cX8_line 86 = .ok (.ireturn, 1) := by decide +kernel
theorem dX8_line_87 : decode cX8_line 87 = .ok (.iload 5, 2) := by decide +kernel
theorem dX8_line_89 : decode cX8_line 89 = .ok (.ifCond .eq 12, 3) := by decide +kernel
theorem dX8_line_92 : decode cX8_line 92 = .ok (.aload_n 0, 1) := by decide +kernel
theorem dX8_line_93 : decode cX8_line 93 = .ok (.iload 4, 2) := by decide +kernel
theorem dX8_line_95 : decode cX8_line 95 = .ok (.invokevirtual 149, 3) := by decide +kernel
theorem dX8_line_98 : decode cX8_line 98 = .ok (.goto 5, 3) := by decide +kernel
theorem dX8_line_101 : decode cX8_line 101 = .ok (.bipush (-4), 2) := by decide +kernel
theorem dX8_line_103 : decode cX8_line 103 = .ok (.ireturn, 1) := by decide +kernel
theorem dX8_line_104 : decode cX8_line 104 = .ok (.iload 5, 2) := by decide +kernel
theorem dX8_line_106 : decode cX8_line 106 = .ok (.ifCond .eq 12, 3) := by decide +kernel
theorem dX8_line_109 : decode cX8_line 109 = .ok (.aload_n 0, 1) := by decide +kernel
theorem dX8_line_110 : decode cX8_line 110 = .ok (.iload 4, 2) := by decide +kernel
theorem dX8_line_112 : decode cX8_line 112 = .ok (.invokevirtual 161, 3) := by decide +kernel
theorem dX8_line_115 : decode cX8_line 115 = .ok (.goto 5, 3) := by decide +kernel
theorem dX8_line_118 : decode cX8_line 118 = .ok (.bipush (-4), 2) := by decide +kernel
theorem dX8_line_120 : decode cX8_line 120 = .ok (.ireturn, 1) := by decide +kernel
theorem dX8_line_121 : decode cX8_line 121 = .ok (.aload_n 0, 1) := by decide +kernel
theorem dX8_line_122 : decode cX8_line 122 = .ok (.iload 4, 2) := by decide +kernel
theorem dX8_line_124 : decode cX8_line 124 = .ok (.invokevirtual 189, 3) := by decide +kernel
theorem dX8_line_127 : decode cX8_line 127 = .ok (.ifCond .eq 7, 3) := by decide +kernel
theorem dX8_line_130 : decode cX8_line 130 = .ok (.iconst 1, 1) := by decide +kernel
theorem dX8_line_131 : decode cX8_line 131 = .ok (.goto 4, 3) := by decide +kernel
theorem dX8_line_134 : decode cX8_line 134 = .ok (.iconst 0, 1) := by decide +kernel
theorem dX8_line_135 : decode cX8_line 135 = .ok (.ireturn, 1) := by decide +kernel
theorem dX8_line_136 : decode cX8_line 136 = .ok (.aload_n 0, 1) := by decide +kernel
theorem dX8_line_137 : decode cX8_line 137 = .ok (.getfield 46, 3) := by decide +kernel
theorem dX8_line_140 : decode cX8_line 140 = .ok (.iload 4, 2) := by decide +kernel
theorem dX8_line_142 : decode cX8_line 142 = .ok (.baload, 1) := by decide +kernel
theorem dX8_line_143 : decode cX8_line 143 = .ok (.ifCond .eq 7, 3) := by decide +kernel
theorem dX8_line_146 : decode cX8_line 146 = .ok (.iconst 1, 1) := by decide +kernel
theorem dX8_line_147 : decode cX8_line 147 = .ok (.goto 4, 3) := by decide +kernel
theorem dX8_line_150 : decode cX8_line 150 = .ok (.iconst 0, 1) := by decide +kernel
theorem dX8_line_151 : decode cX8_line 151 = .ok (.ireturn, 1) := by decide +kernel
theorem dX8_line_152 : decode cX8_line 152 = .ok (.iload 5, 2) := by decide +kernel
theorem dX8_line_154 : decode cX8_line 154 = .ok (.ifCond .eq 20, 3) := by decide +kernel
theorem dX8_line_157 : decode cX8_line 157 = .ok (.aload_n 0, 1) := by decide +kernel
theorem dX8_line_158 : decode cX8_line 158 = .ok (.getfield 43, 3) := by decide +kernel
theorem dX8_line_161 : decode cX8_line 161 = .ok (.bipush 15, 2) := by decide +kernel
theorem dX8_line_163 : decode cX8_line 163 = .ok (.iconst 4, 1) := by decide +kernel
theorem dX8_line_164 : decode cX8_line 164 = .ok (.iload 4, 2) := by decide +kernel
theorem dX8_line_166 : decode cX8_line 166 = .ok (.imul, 1) := by decide +kernel
theorem dX8_line_167 : decode cX8_line 167 = .ok (.iadd, 1) := by decide +kernel
theorem dX8_line_168 : decode cX8_line 168 = .ok (.iconst 3, 1) := by decide +kernel
theorem dX8_line_169 : decode cX8_line 169 = .ok (.iadd, 1) := by decide +kernel
theorem dX8_line_170 : decode cX8_line 170 = .ok (.iaload, 1) := by decide +kernel
theorem dX8_line_171 : decode cX8_line 171 = .ok (.goto 5, 3) := by decide +kernel
theorem dX8_line_174 : decode cX8_line 174 = .ok (.bipush (-4), 2) := by decide +kernel
theorem dX8_line_176 : decode cX8_line 176 = .ok (.ireturn, 1) := by decide +kernel
set_option maxRecDepth 20000 in
theorem ggX8_remembers_X8_copies : GoodIn wsX8_remembers wsX8_copies := goodIn_r _ [7] rfl (by decide +kernel)
set_option maxRecDepth 20000 in
theorem gX8_remembers_X8_copies : GoodIn wsX8_remembers (va_wsS RX8 133 yX8_copies wsX8_copies) := goodIn_app (goodIn_of _ (by decide +kernel)) ggX8_remembers_X8_copies
theorem dX8_remembers_0 : decode cX8_remembers 0 = .ok (.aload_n 0, 1) := by decide +kernel
theorem dX8_remembers_1 : decode cX8_remembers 1 = .ok (.getfield 137, 3) := by decide +kernel
theorem dX8_remembers_4 : decode cX8_remembers 4 = .ok (.bipush 8, 2) := by decide +kernel
theorem dX8_remembers_6 : decode cX8_remembers 6 = .ok (.if_icmp .ne 43, 3) := by decide +kernel
theorem dX8_remembers_9 : decode cX8_remembers 9 = .ok (.iconst 0, 1) := by decide +kernel
theorem dX8_remembers_10 : decode cX8_remembers 10 = .ok (.istore_n 1, 1) := by decide +kernel
theorem dX8_remembers_11 : decode cX8_remembers 11 = .ok (.iload_n 1, 1) := by decide +kernel
theorem dX8_remembers_12 : decode cX8_remembers 12 = .ok (.sipush 777, 3) := by decide +kernel
theorem dX8_remembers_15 : decode cX8_remembers 15 = .ok (.if_icmp .ge 24, 3) := by decide +kernel
theorem dX8_remembers_18 : decode cX8_remembers 18 = .ok (.aload_n 0, 1) := by decide +kernel
theorem dX8_remembers_19 : decode cX8_remembers 19 = .ok (.getfield 19, 3) := by decide +kernel
theorem dX8_remembers_22 : decode cX8_remembers 22 = .ok (.iload_n 1, 1) := by decide +kernel
theorem dX8_remembers_23 : decode cX8_remembers 23 = .ok (.aload_n 0, 1) := by decide +kernel
theorem dX8_remembers_24 : decode cX8_remembers 24 = .ok (.getfield 19, 3) := by decide +kernel
theorem dX8_remembers_27 : decode cX8_remembers 27 = .ok (.iload_n 1, 1) := by decide +kernel
theorem dX8_remembers_28 : decode cX8_remembers 28 = .ok (.bipush 111, 2) := by decide +kernel
theorem dX8_remembers_30 : decode cX8_remembers 30 = .ok (.iadd, 1) := by decide +kernel
theorem dX8_remembers_31 : decode cX8_remembers 31 = .ok (.iaload, 1) := by decide +kernel
theorem dX8_remembers_32 : decode cX8_remembers 32 = .ok (.iastore, 1) := by decide +kernel
theorem dX8_remembers_33 : decode cX8_remembers 33 = .ok (.iinc 1 1, 3) := by decide +kernel
theorem dX8_remembers_36 : decode cX8_remembers 36 = .ok (.goto (-25), 3) := by decide +kernel
theorem dX8_remembers_39 : decode cX8_remembers 39 = .ok (.aload_n 0, 1) := by decide +kernel
theorem dX8_remembers_40 : decode cX8_remembers 40 = .ok (.dup, 1) := by decide +kernel
theorem dX8_remembers_41 : decode cX8_remembers 41 = .ok (.getfield 137, 3) := by decide +kernel
theorem dX8_remembers_44 : decode cX8_remembers 44 = .ok (.iconst 1, 1) := by decide +kernel
theorem dX8_remembers_45 : decode cX8_remembers 45 = .ok (.isub, 1) := by decide +kernel
theorem dX8_remembers_46 : decode cX8_remembers 46 = .ok (.putfield 137, 3) := by decide +kernel
theorem dX8_remembers_49 : decode cX8_remembers 49 = .ok (.aload_n 0, 1) := by decide +kernel
theorem dX8_remembers_50 : decode cX8_remembers 50 = .ok (.getfield 19, 3) := by decide +kernel
theorem dX8_remembers_53 : decode cX8_remembers 53 = .ok (.bipush 111, 2) := by decide +kernel
theorem dX8_remembers_55 : decode cX8_remembers 55 = .ok (.aload_n 0, 1) := by decide +kernel
theorem dX8_remembers_56 : decode cX8_remembers 56 = .ok (.getfield 137, 3) := by decide +kernel
theorem dX8_remembers_59 : decode cX8_remembers 59 = .ok (.imul, 1) := by decide +kernel
theorem dX8_remembers_60 : decode cX8_remembers 60 = .ok (.aload_n 0, 1) := by decide +kernel
theorem dX8_remembers_61 : decode cX8_remembers 61 = .ok (.getfield 16, 3) := by decide +kernel
theorem dX8_remembers_64 : decode cX8_remembers 64 = .ok (.iconst 0, 1) := by decide +kernel
theorem dX8_remembers_65 : decode cX8_remembers 65 = .ok (.bipush 111, 2) := by decide +kernel
theorem dX8_remembers_67 : decode cX8_remembers 67 = .ok (.invokestatic 133, 3) := by decide +kernel
theorem dX8_remembers_70 : decode cX8_remembers 70 = .ok (.aload_n 0, 1) := by decide +kernel
theorem dX8_remembers_71 : decode cX8_remembers 71 = .ok (.dup, 1) := by decide +kernel
theorem dX8_remembers_72 : decode cX8_remembers 72 = .ok (.getfield 137, 3) := by decide +kernel
theorem dX8_remembers_75 : decode cX8_remembers 75 = .ok (.iconst 1, 1) := by decide +kernel
theorem dX8_remembers_76 : decode cX8_remembers 76 = .ok (.iadd, 1) := by decide +kernel
theorem dX8_remembers_77 : decode cX8_remembers 77 = .ok (.putfield 137, 3) := by decide +kernel
theorem dX8_remembers_80 : decode cX8_remembers 80 = .ok (.return_, 1) := by decide +kernel
set_option maxRecDepth 20000 in
theorem ggX8_manOfTwo_X8_isWoman : GoodIn wsX8_manOfTwo wsX8_isWoman := goodIn_r _ [5, 6, 7, 8, 9, 10, 11, 12, 13, 14, 15, 16, 17, 18, 19, 20, 21, 22, 23, 24, 25, 26, 27, 28, 29, 30, 31, 32, 33] rfl (by decide +kernel)
set_option maxRecDepth 20000 in
theorem gX8_manOfTwo_X8_isWoman : GoodIn wsX8_manOfTwo (wsV RX8 168 RX8 yX8_isWoman wsX8_isWoman) := goodIn_app (goodIn_of _ (by decide +kernel)) ggX8_manOfTwo_X8_isWoman
theorem dX8_manOfTwo_0 : decode cX8_manOfTwo 0 = .ok (.aload_n 0, 1) := by decide +kernel
theorem dX8_manOfTwo_1 : decode cX8_manOfTwo 1 = .ok (.iload_n 1, 1) := by decide +kernel
theorem dX8_manOfTwo_2 : decode cX8_manOfTwo 2 = .ok (.invokevirtual 168, 3) := by decide +kernel
theorem dX8_manOfTwo_5 : decode cX8_manOfTwo 5 = .ok (.ifCond .eq 7, 3) := by decide +kernel
theorem dX8_manOfTwo_8 : decode cX8_manOfTwo 8 = .ok (.iload_n 2, 1) := by decide +kernel
theorem dX8_manOfTwo_9 : decode cX8_manOfTwo 9 = .ok (.goto 4, 3) := by decide +kernel
theorem dX8_manOfTwo_12 : decode cX8_manOfTwo 12 = .ok (.iload_n 1, 1) := by decide +kernel
theorem dX8_manOfTwo_13 : decode cX8_manOfTwo 13 = .ok (.ireturn, 1) := by decide +kernel
set_option maxRecDepth 20000 in
theorem ggX8_womanOfTwo_X8_isWoman : GoodIn wsX8_womanOfTwo wsX8_isWoman := goodIn_r _ [5, 6, 7, 8, 9, 10, 11, 12, 13, 14, 15, 16, 17, 18, 19, 20, 21, 22, 23, 24, 25, 26, 27, 28, 29, 30, 31, 32, 33] rfl (by decide +kernel)
set_option maxRecDepth 20000 in
theorem gX8_womanOfTwo_X8_isWoman : GoodIn wsX8_womanOfTwo (wsV RX8 168 RX8 yX8_isWoman wsX8_isWoman) := goodIn_app (goodIn_of _ (by decide +kernel)) ggX8_womanOfTwo_X8_isWoman
theorem dX8_womanOfTwo_0 : decode cX8_womanOfTwo 0 = .ok (.aload_n 0, 1) := by decide +kernel
theorem dX8_womanOfTwo_1 : decode cX8_womanOfTwo 1 = .ok (.iload_n 1, 1) := by decide +kernel
theorem dX8_womanOfTwo_2 : decode cX8_womanOfTwo 2 = .ok (.invokevirtual 168, 3) := by decide +kernel
theorem dX8_womanOfTwo_5 : decode cX8_womanOfTwo 5 = .ok (.ifCond .eq 7, 3) := by decide +kernel
theorem dX8_womanOfTwo_8 : decode cX8_womanOfTwo 8 = .ok (.iload_n 1, 1) := by decide +kernel
theorem dX8_womanOfTwo_9 : decode cX8_womanOfTwo 9 = .ok (.goto 4, 3) := by decide +kernel
theorem dX8_womanOfTwo_12 : decode cX8_womanOfTwo 12 = .ok (.iload_n 2, 1) := by decide +kernel
theorem dX8_womanOfTwo_13 : decode cX8_womanOfTwo 13 = .ok (.ireturn, 1) := by decide +kernel
set_option maxRecDepth 20000 in
theorem ggX8_canBeTwo_X8_manOfTwo : GoodIn wsX8_canBeTwo wsX8_manOfTwo := goodIn_r _ [5, 6, 7, 8, 4, 9, 10, 19, 20, 21, 22, 23, 24, 25, 26, 27, 28, 29, 30, 31, 32, 33, 34, 35, 36, 37, 38, 39, 40, 41, 42, 43, 44, 45] rfl (by decide +kernel)
set_option maxRecDepth 20000 in
theorem gX8_canBeTwo_X8_manOfTwo : GoodIn wsX8_canBeTwo (wsV RX8 199 RX8 yX8_manOfTwo wsX8_manOfTwo) := goodIn_app (goodIn_of _ (by decide +kernel)) ggX8_canBeTwo_X8_manOfTwo
set_option maxRecDepth 20000 in
theorem ggX8_canBeTwo_X8_womanOfTwo : GoodIn wsX8_canBeTwo wsX8_womanOfTwo := goodIn_r _ [14, 6, 7, 8, 4, 9, 10, 19, 20, 21, 22, 23, 24, 25, 26, 27, 28, 29, 30, 31, 32, 33, 34, 35, 36, 37, 38, 39, 40, 41, 42, 43, 44, 45] rfl (by decide +kernel)
set_option maxRecDepth 20000 in
theorem gX8_canBeTwo_X8_womanOfTwo : GoodIn wsX8_canBeTwo (wsV RX8 202 RX8 yX8_womanOfTwo wsX8_womanOfTwo) := goodIn_app (goodIn_of _ (by decide +kernel)) ggX8_canBeTwo_X8_womanOfTwo
set_option maxRecDepth 20000 in
theorem ggX8_canBeTwo_X8_isWoman : GoodIn wsX8_canBeTwo wsX8_isWoman := goodIn_r _ [9, 10, 19, 20, 21, 22, 23, 24, 25, 26, 27, 28, 29, 30, 31, 32, 33, 34, 35, 36, 37, 38, 39, 40, 41, 42, 43, 44, 45] rfl (by decide +kernel)
set_option maxRecDepth 20000 in
theorem gX8_canBeTwo_X8_isWoman : GoodIn wsX8_canBeTwo (wsV RX8 168 RX8 yX8_isWoman wsX8_isWoman) := goodIn_app (goodIn_of _ (by decide +kernel)) ggX8_canBeTwo_X8_isWoman
set_option maxRecDepth 20000 in
theorem ggX8_canBeTwo_X8_kindOf : GoodIn wsX8_canBeTwo wsX8_kindOf := goodIn_r _ [18, 10, 19, 20, 21, 22, 23, 24, 25, 26, 27, 28, 29, 30, 31, 32, 33, 34, 35, 36, 37, 38, 39, 40, 41, 42, 43, 44, 45] rfl (by decide +kernel)
set_option maxRecDepth 20000 in
theorem gX8_canBeTwo_X8_kindOf : GoodIn wsX8_canBeTwo (wsV RX8 171 RX8 yX8_kindOf wsX8_kindOf) := goodIn_app (goodIn_of _ (by decide +kernel)) ggX8_canBeTwo_X8_kindOf
theorem dX8_canBeTwo_0 : decode cX8_canBeTwo 0 = .ok (.aload_n 0, 1) := by decide +kernel
theorem dX8_canBeTwo_1 : decode cX8_canBeTwo 1 = .ok (.iload_n 1, 1) := by decide +kernel
theorem dX8_canBeTwo_2 : decode cX8_canBeTwo 2 = .ok (.iload_n 2, 1) := by decide +kernel
theorem dX8_canBeTwo_3 : decode cX8_canBeTwo 3 = .ok (.invokevirtual 199, 3) := by decide +kernel
theorem dX8_canBeTwo_6 : decode cX8_canBeTwo 6 = .ok (.istore_n 3, 1) := by decide +kernel
theorem dX8_canBeTwo_7 : decode cX8_canBeTwo 7 = .ok (.aload_n 0, 1) := by decide +kernel
theorem dX8_canBeTwo_8 : decode cX8_canBeTwo 8 = .ok (.iload_n 1, 1) := by decide +kernel
theorem dX8_canBeTwo_9 : decode cX8_canBeTwo 9 = .ok (.iload_n 2, 1) := by decide +kernel
theorem dX8_canBeTwo_10 : decode cX8_canBeTwo 10 = .ok (.invokevirtual 202, 3) := by decide +kernel
theorem dX8_canBeTwo_13 : decode cX8_canBeTwo 13 = .ok (.istore 4, 2) := by decide +kernel
theorem dX8_canBeTwo_15 : decode cX8_canBeTwo 15 = .ok (.aload_n 0, 1) := by decide +kernel
theorem dX8_canBeTwo_16 : decode cX8_canBeTwo 16 = .ok (.iload_n 1, 1) := by decide +kernel
theorem dX8_canBeTwo_17 : decode cX8_canBeTwo 17 = .ok (.invokevirtual 168, 3) := by decide +kernel
theorem dX8_canBeTwo_20 : decode cX8_canBeTwo 20 = .ok (.aload_n 0, 1) := by decide +kernel
theorem dX8_canBeTwo_21 : decode cX8_canBeTwo 21 = .ok (.iload_n 2, 1) := by decide +kernel
theorem dX8_canBeTwo_22 : decode cX8_canBeTwo 22 = .ok (.invokevirtual 168, 3) := by decide +kernel
theorem dX8_canBeTwo_25 : decode cX8_canBeTwo 25 = .ok (.if_icmp .eq 26, 3) := by decide +kernel
theorem dX8_canBeTwo_28 : decode cX8_canBeTwo 28 = .ok (.aload_n 0, 1) := by decide +kernel
theorem dX8_canBeTwo_29 : decode cX8_canBeTwo 29 = .ok (.iload 4, 2) := by decide +kernel
theorem dX8_canBeTwo_31 : decode cX8_canBeTwo 31 = .ok (.invokevirtual 171, 3) := by decide +kernel
theorem dX8_canBeTwo_34 : decode cX8_canBeTwo 34 = .ok (.iconst 2, 1) := by decide +kernel
theorem dX8_canBeTwo_35 : decode cX8_canBeTwo 35 = .ok (.if_icmp .ne 12, 3) := by decide +kernel
theorem dX8_canBeTwo_38 : decode cX8_canBeTwo 38 = .ok (.aload_n 0, 1) := by decide +kernel
theorem dX8_canBeTwo_39 : decode cX8_canBeTwo 39 = .ok (.iload_n 3, 1) := by decide +kernel
theorem dX8_canBeTwo_40 : decode cX8_canBeTwo 40 = .ok (.invokevirtual 171, 3) := by decide +kernel
theorem dX8_canBeTwo_43 : decode cX8_canBeTwo 43 = .ok (.iconst 2, 1) := by decide +kernel
theorem dX8_canBeTwo_44 : decode cX8_canBeTwo 44 = .ok (.if_icmp .ne 7, 3) := by decide +kernel
theorem dX8_canBeTwo_47 : decode cX8_canBeTwo 47 = .ok (.iconst 1, 1) := by decide +kernel
theorem dX8_canBeTwo_48 : decode cX8_canBeTwo 48 = .ok (.goto 4, 3) := by decide +kernel
theorem dX8_canBeTwo_51 : decode cX8_canBeTwo 51 = .ok (.iconst 0, 1) := by decide +kernel
theorem dX8_canBeTwo_52 : decode cX8_canBeTwo 52 = .ok (.ireturn, 1) := by decide +kernel
theorem dX8_canPay_0 : decode cX8_canPay 0 = .ok (.aload_n 0, 1) := by decide +kernel
theorem dX8_canPay_1 : decode cX8_canPay 1 = .ok (.getfield 43, 3) := by decide +kernel
theorem dX8_canPay_4 : decode cX8_canPay 4 = .ok (.iconst 1, 1) := by decide +kernel
theorem dX8_canPay_5 : decode cX8_canPay 5 = .ok (.iload_n 1, 1) := by decide +kernel
theorem dX8_canPay_6 : decode cX8_canPay 6 = .ok (.iadd, 1) := by decide +kernel
theorem dX8_canPay_7 : decode cX8_canPay 7 = .ok (.iaload, 1) := by decide +kernel
theorem dX8_canPay_8 : decode cX8_canPay 8 = .ok (.aload_n 0, 1) := by decide +kernel
theorem dX8_canPay_9 : decode cX8_canPay 9 = .ok (.getfield 43, 3) := by decide +kernel
theorem dX8_canPay_12 : decode cX8_canPay 12 = .ok (.iconst 1, 1) := by decide +kernel
theorem dX8_canPay_13 : decode cX8_canPay 13 = .ok (.iload_n 2, 1) := by decide +kernel
theorem dX8_canPay_14 : decode cX8_canPay 14 = .ok (.iadd, 1) := by decide +kernel
theorem dX8_canPay_15 : decode cX8_canPay 15 = .ok (.iaload, 1) := by decide +kernel
theorem dX8_canPay_16 : decode cX8_canPay 16 = .ok (.iadd, 1) := by decide +kernel
theorem dX8_canPay_17 : decode cX8_canPay 17 = .ok (.iload_n 3, 1) := by decide +kernel
theorem dX8_canPay_18 : decode cX8_canPay 18 = .ok (.if_icmp .lt 7, 3) := by decide +kernel
theorem dX8_canPay_21 : decode cX8_canPay 21 = .ok (.iconst 1, 1) := by decide +kernel
theorem dX8_canPay_22 : decode cX8_canPay 22 = .ok (.goto 4, 3) := by decide +kernel
theorem dX8_canPay_25 : decode cX8_canPay 25 = .ok (.iconst 0, 1) := by decide +kernel
theorem dX8_canPay_26 : decode cX8_canPay 26 = .ok (.ireturn, 1) := by decide +kernel
set_option maxRecDepth 20000 in
theorem ggX8_pays_X8_manOfTwo : GoodIn wsX8_pays wsX8_manOfTwo := goodIn_r _ [6, 7, 8, 9, 5, 10, 11, 16, 17, 18, 19, 20, 21, 22, 23, 24, 25, 26, 27, 28, 29, 30, 31, 32, 33, 34, 35, 36, 37, 38, 39, 40, 41, 42] rfl (by decide +kernel)
set_option maxRecDepth 20000 in
theorem gX8_pays_X8_manOfTwo : GoodIn wsX8_pays (wsV RX8 199 RX8 yX8_manOfTwo wsX8_manOfTwo) := goodIn_app (goodIn_of _ (by decide +kernel)) ggX8_pays_X8_manOfTwo
set_option maxRecDepth 20000 in
theorem ggX8_pays_X8_womanOfTwo : GoodIn wsX8_pays wsX8_womanOfTwo := goodIn_r _ [15, 7, 8, 9, 5, 10, 11, 16, 17, 18, 19, 20, 21, 22, 23, 24, 25, 26, 27, 28, 29, 30, 31, 32, 33, 34, 35, 36, 37, 38, 39, 40, 41, 42] rfl (by decide +kernel)
set_option maxRecDepth 20000 in
theorem gX8_pays_X8_womanOfTwo : GoodIn wsX8_pays (wsV RX8 202 RX8 yX8_womanOfTwo wsX8_womanOfTwo) := goodIn_app (goodIn_of _ (by decide +kernel)) ggX8_pays_X8_womanOfTwo
theorem dX8_pays_0 : decode cX8_pays 0 = .ok (.aload_n 0, 1) := by decide +kernel
theorem dX8_pays_1 : decode cX8_pays 1 = .ok (.iload_n 2, 1) := by decide +kernel
theorem dX8_pays_2 : decode cX8_pays 2 = .ok (.iload_n 3, 1) := by decide +kernel
theorem dX8_pays_3 : decode cX8_pays 3 = .ok (.invokevirtual 199, 3) := by decide +kernel
theorem dX8_pays_6 : decode cX8_pays 6 = .ok (.istore 5, 2) := by decide +kernel
theorem dX8_pays_8 : decode cX8_pays 8 = .ok (.aload_n 0, 1) := by decide +kernel
theorem dX8_pays_9 : decode cX8_pays 9 = .ok (.getfield 43, 3) := by decide +kernel
theorem dX8_pays_12 : decode cX8_pays 12 = .ok (.iconst 1, 1) := by decide +kernel
theorem dX8_pays_13 : decode cX8_pays 13 = .ok (.iload 5, 2) := by decide +kernel
theorem dX8_pays_15 : decode cX8_pays 15 = .ok (.iadd, 1) := by decide +kernel
theorem dX8_pays_16 : decode cX8_pays 16 = .ok (.iaload, 1) := by decide +kernel
theorem dX8_pays_17 : decode cX8_pays 17 = .ok (.iload 4, 2) := by decide +kernel
theorem dX8_pays_19 : decode cX8_pays 19 = .ok (.if_icmp .ge 15, 3) := by decide +kernel
theorem dX8_pays_22 : decode cX8_pays 22 = .ok (.aload_n 0, 1) := by decide +kernel
theorem dX8_pays_23 : decode cX8_pays 23 = .ok (.getfield 43, 3) := by decide +kernel
theorem dX8_pays_26 : decode cX8_pays 26 = .ok (.iconst 1, 1) := by decide +kernel
theorem dX8_pays_27 : decode cX8_pays 27 = .ok (.iload 5, 2) := by decide +kernel
theorem dX8_pays_29 : decode cX8_pays 29 = .ok (.iadd, 1) := by decide +kernel
theorem dX8_pays_30 : decode cX8_pays 30 = .ok (.iaload, 1) := by decide +kernel
theorem dX8_pays_31 : decode cX8_pays 31 = .ok (.goto 5, 3) := by decide +kernel
theorem dX8_pays_34 : decode cX8_pays 34 = .ok (.iload 4, 2) := by decide +kernel
theorem dX8_pays_36 : decode cX8_pays 36 = .ok (.istore 6, 2) := by decide +kernel
theorem dX8_pays_38 : decode cX8_pays 38 = .ok (.aload_n 0, 1) := by decide +kernel
theorem dX8_pays_39 : decode cX8_pays 39 = .ok (.getfield 43, 3) := by decide +kernel
theorem dX8_pays_42 : decode cX8_pays 42 = .ok (.iconst 1, 1) := by decide +kernel
theorem dX8_pays_43 : decode cX8_pays 43 = .ok (.iload 5, 2) := by decide +kernel
theorem dX8_pays_45 : decode cX8_pays 45 = .ok (.iadd, 1) := by decide +kernel
theorem dX8_pays_46 : decode cX8_pays 46 = .ok (.dup2, 1) := by decide +kernel
theorem dX8_pays_47 : decode cX8_pays 47 = .ok (.iaload, 1) := by decide +kernel
theorem dX8_pays_48 : decode cX8_pays 48 = .ok (.iload 6, 2) := by decide +kernel
theorem dX8_pays_50 : decode cX8_pays 50 = .ok (.isub, 1) := by decide +kernel
theorem dX8_pays_51 : decode cX8_pays 51 = .ok (.iastore, 1) := by decide +kernel
theorem dX8_pays_52 : decode cX8_pays 52 = .ok (.aload_n 0, 1) := by decide +kernel
theorem dX8_pays_53 : decode cX8_pays 53 = .ok (.getfield 43, 3) := by decide +kernel
theorem dX8_pays_56 : decode cX8_pays 56 = .ok (.iconst 1, 1) := by decide +kernel
theorem dX8_pays_57 : decode cX8_pays 57 = .ok (.aload_n 0, 1) := by decide +kernel
theorem dX8_pays_58 : decode cX8_pays 58 = .ok (.iload_n 2, 1) := by decide +kernel
theorem dX8_pays_59 : decode cX8_pays 59 = .ok (.iload_n 3, 1) := by decide +kernel
theorem dX8_pays_60 : decode cX8_pays 60 = .ok (.invokevirtual 202, 3) := by decide +kernel
theorem dX8_pays_63 : decode cX8_pays 63 = .ok (.iadd, 1) := by decide +kernel
theorem dX8_pays_64 : decode cX8_pays 64 = .ok (.dup2, 1) := by decide +kernel
theorem dX8_pays_65 : decode cX8_pays 65 = .ok (.iaload, 1) := by decide +kernel
theorem dX8_pays_66 : decode cX8_pays 66 = .ok (.iload 4, 2) := by decide +kernel
theorem dX8_pays_68 : decode cX8_pays 68 = .ok (.iload 6, 2) := by decide +kernel
theorem dX8_pays_70 : decode cX8_pays 70 = .ok (.isub, 1) := by decide +kernel
theorem dX8_pays_71 : decode cX8_pays 71 = .ok (.isub, 1) := by decide +kernel
theorem dX8_pays_72 : decode cX8_pays 72 = .ok (.iastore, 1) := by decide +kernel
theorem dX8_pays_73 : decode cX8_pays 73 = .ok (.aload_n 0, 1) := by decide +kernel
theorem dX8_pays_74 : decode cX8_pays 74 = .ok (.getfield 43, 3) := by decide +kernel
theorem dX8_pays_77 : decode cX8_pays 77 = .ok (.bipush 9, 2) := by decide +kernel
theorem dX8_pays_79 : decode cX8_pays 79 = .ok (.iload_n 1, 1) := by decide +kernel
theorem dX8_pays_80 : decode cX8_pays 80 = .ok (.iadd, 1) := by decide +kernel
theorem dX8_pays_81 : decode cX8_pays 81 = .ok (.dup2, 1) := by decide +kernel
theorem dX8_pays_82 : decode cX8_pays 82 = .ok (.iaload, 1) := by decide +kernel
theorem dX8_pays_83 : decode cX8_pays 83 = .ok (.iload 4, 2) := by decide +kernel
theorem dX8_pays_85 : decode cX8_pays 85 = .ok (.iadd, 1) := by decide +kernel
theorem dX8_pays_86 : decode cX8_pays 86 = .ok (.iastore, 1) := by decide +kernel
theorem dX8_pays_87 : decode cX8_pays 87 = .ok (.return_, 1) := by decide +kernel
theorem dX8_isLaw_0 : decode cX8_isLaw 0 = .ok (.aload_n 0, 1) := by decide +kernel
theorem dX8_isLaw_1 : decode cX8_isLaw 1 = .ok (.getfield 43, 3) := by decide +kernel
theorem dX8_isLaw_4 : decode cX8_isLaw 4 = .ok (.iconst 0, 1) := by decide +kernel
theorem dX8_isLaw_5 : decode cX8_isLaw 5 = .ok (.iaload, 1) := by decide +kernel
theorem dX8_isLaw_6 : decode cX8_isLaw 6 = .ok (.aload_n 0, 1) := by decide +kernel
theorem dX8_isLaw_7 : decode cX8_isLaw 7 = .ok (.getfield 130, 3) := by decide +kernel
theorem dX8_isLaw_10 : decode cX8_isLaw 10 = .ok (.if_icmp .lt 7, 3) := by decide +kernel
theorem dX8_isLaw_13 : decode cX8_isLaw 13 = .ok (.iconst 1, 1) := by decide +kernel
theorem dX8_isLaw_14 : decode cX8_isLaw 14 = .ok (.goto 4, 3) := by decide +kernel
theorem dX8_isLaw_17 : decode cX8_isLaw 17 = .ok (.iconst 0, 1) := by decide +kernel
theorem dX8_isLaw_18 : decode cX8_isLaw 18 = .ok (.ireturn, 1) := by decide +kernel
set_option maxRecDepth 20000 in
theorem ggX8_canWed_X8_canBeTwo : GoodIn wsX8_canWed wsX8_canBeTwo := goodIn_r _ [6, 7, 8, 9, 5, 10, 11, 12, 13, 14, 15, 16, 17, 18, 19, 20, 21, 22, 23, 34, 35, 36, 37, 38, 39, 40, 41, 42, 43, 44, 45, 46, 47, 48, 49, 50, 51, 52, 53, 54, 55, 56, 57, 58, 59, 60] rfl (by decide +kernel)
set_option maxRecDepth 20000 in
theorem gX8_canWed_X8_canBeTwo : GoodIn wsX8_canWed (wsV RX8 205 RX8 yX8_canBeTwo wsX8_canBeTwo) := goodIn_app (goodIn_of _ (by decide +kernel)) ggX8_canWed_X8_canBeTwo
set_option maxRecDepth 20000 in
theorem ggX8_canWed_X8_isLaw : GoodIn wsX8_canWed wsX8_isLaw := goodIn_r _ [27, 28, 29, 34, 35, 36, 37, 38, 39, 40, 41, 42, 43, 44, 45, 46, 47, 48, 49, 50, 51, 52, 53, 54, 55, 56, 57, 58, 59, 60] rfl (by decide +kernel)
set_option maxRecDepth 20000 in
theorem gX8_canWed_X8_isLaw : GoodIn wsX8_canWed (wsV RX8 208 RX8 yX8_isLaw wsX8_isLaw) := goodIn_app (goodIn_of _ (by decide +kernel)) ggX8_canWed_X8_isLaw
set_option maxRecDepth 20000 in
theorem ggX8_canWed_X8_canPay : GoodIn wsX8_canWed wsX8_canPay := goodIn_r _ [33, 28, 34, 35, 36, 37, 38, 39, 40, 41, 42, 43, 44, 45, 46, 47, 48, 49, 50, 51, 52, 53, 54, 55, 56, 57, 58, 59, 60] rfl (by decide +kernel)
set_option maxRecDepth 20000 in
theorem gX8_canWed_X8_canPay : GoodIn wsX8_canWed (wsV RX8 211 RX8 yX8_canPay wsX8_canPay) := goodIn_app (goodIn_of _ (by decide +kernel)) ggX8_canWed_X8_canPay
theorem dX8_canWed_0 : decode cX8_canWed 0 = .ok (.aload_n 0, 1) := by decide +kernel
theorem dX8_canWed_1 : decode cX8_canWed 1 = .ok (.iload_n 2, 1) := by decide +kernel
theorem dX8_canWed_2 : decode cX8_canWed 2 = .ok (.iload_n 3, 1) := by decide +kernel
theorem dX8_canWed_3 : decode cX8_canWed 3 = .ok (.invokevirtual 205, 3) := by decide +kernel
theorem dX8_canWed_6 : decode cX8_canWed 6 = .ok (.ifCond .eq 33, 3) := by decide +kernel
theorem dX8_canWed_9 : decode cX8_canWed 9 = .ok (.aload_n 0, 1) := by decide +kernel
theorem dX8_canWed_10 : decode cX8_canWed 10 = .ok (.invokevirtual 208, 3) := by decide +kernel
theorem dX8_canWed_13 : decode cX8_canWed 13 = .ok (.ifCond .ne 26, 3) := by decide +kernel
theorem dX8_canWed_16 : decode cX8_canWed 16 = .ok (.aload_n 0, 1) := by decide +kernel
theorem dX8_canWed_17 : decode cX8_canWed 17 = .ok (.iload_n 2, 1) := by decide +kernel
theorem dX8_canWed_18 : decode cX8_canWed 18 = .ok (.iload_n 3, 1) := by decide +kernel
theorem dX8_canWed_19 : decode cX8_canWed 19 = .ok (.aload_n 0, 1) := by decide +kernel
theorem dX8_canWed_20 : decode cX8_canWed 20 = .ok (.getfield 13, 3) := by decide +kernel
theorem dX8_canWed_23 : decode cX8_canWed 23 = .ok (.iconst 2, 1) := by decide +kernel
theorem dX8_canWed_24 : decode cX8_canWed 24 = .ok (.iload_n 1, 1) := by decide +kernel
theorem dX8_canWed_25 : decode cX8_canWed 25 = .ok (.imul, 1) := by decide +kernel
theorem dX8_canWed_26 : decode cX8_canWed 26 = .ok (.iconst 1, 1) := by decide +kernel
theorem dX8_canWed_27 : decode cX8_canWed 27 = .ok (.iadd, 1) := by decide +kernel
theorem dX8_canWed_28 : decode cX8_canWed 28 = .ok (.iaload, 1) := by decide +kernel
theorem dX8_canWed_29 : decode cX8_canWed 29 = .ok (.invokevirtual 211, 3) := by decide +kernel
theorem dX8_canWed_32 : decode cX8_canWed 32 = .ok (.ifCond .eq 7, 3) := by decide +kernel
theorem dX8_canWed_35 : decode cX8_canWed 35 = .ok (.iconst 1, 1) := by decide +kernel
theorem dX8_canWed_36 : decode cX8_canWed 36 = .ok (.goto 4, 3) := by decide +kernel
theorem dX8_canWed_39 : decode cX8_canWed 39 = .ok (.iconst 0, 1) := by decide +kernel
theorem dX8_canWed_40 : decode cX8_canWed 40 = .ok (.ireturn, 1) := by decide +kernel
set_option maxRecDepth 20000 in
theorem ggX8_writes_X8_manOfTwo : GoodIn wsX8_writes wsX8_manOfTwo := goodIn_r _ [6, 7, 8, 9, 5, 10, 11, 16, 17, 18, 19, 20, 21, 22, 23, 24, 25, 26, 27, 28, 29, 30, 31, 32, 33, 34, 35, 36, 37, 38, 39, 40, 41, 42] rfl (by decide +kernel)
set_option maxRecDepth 20000 in
theorem gX8_writes_X8_manOfTwo : GoodIn wsX8_writes (wsV RX8 199 RX8 yX8_manOfTwo wsX8_manOfTwo) := goodIn_app (goodIn_of _ (by decide +kernel)) ggX8_writes_X8_manOfTwo
set_option maxRecDepth 20000 in
theorem ggX8_writes_X8_womanOfTwo : GoodIn wsX8_writes wsX8_womanOfTwo := goodIn_r _ [15, 7, 8, 9, 5, 10, 11, 16, 17, 18, 19, 20, 21, 22, 23, 24, 25, 26, 27, 28, 29, 30, 31, 32, 33, 34, 35, 36, 37, 38, 39, 40, 41, 42] rfl (by decide +kernel)
set_option maxRecDepth 20000 in
theorem gX8_writes_X8_womanOfTwo : GoodIn wsX8_writes (wsV RX8 202 RX8 yX8_womanOfTwo wsX8_womanOfTwo) := goodIn_app (goodIn_of _ (by decide +kernel)) ggX8_writes_X8_womanOfTwo
theorem dX8_writes_0 : decode cX8_writes 0 = .ok (.aload_n 0, 1) := by decide +kernel
theorem dX8_writes_1 : decode cX8_writes 1 = .ok (.getfield 43, 3) := by decide +kernel
theorem dX8_writes_4 : decode cX8_writes 4 = .ok (.bipush 15, 2) := by decide +kernel
theorem dX8_writes_6 : decode cX8_writes 6 = .ok (.iconst 4, 1) := by decide +kernel
theorem dX8_writes_7 : decode cX8_writes 7 = .ok (.iload_n 1, 1) := by decide +kernel
theorem dX8_writes_8 : decode cX8_writes 8 = .ok (.imul, 1) := by decide +kernel
theorem dX8_writes_9 : decode cX8_writes 9 = .ok (.iadd, 1) := by decide +kernel
theorem dX8_writes_10 : decode cX8_writes 10 = .ok (.iconst 1, 1) := by decide +kernel
theorem dX8_writes_11 : decode cX8_writes 11 = .ok (.iadd, 1) := by decide +kernel
theorem dX8_writes_12 : decode cX8_writes 12 = .ok (.aload_n 0, 1) := by decide +kernel
theorem dX8_writes_13 : decode cX8_writes 13 = .ok (.iload_n 2, 1) := by decide +kernel
theorem dX8_writes_14 : decode cX8_writes 14 = .ok (.iload_n 3, 1) := by decide +kernel
theorem dX8_writes_15 : decode cX8_writes 15 = .ok (.invokevirtual 199, 3) := by decide +kernel
theorem dX8_writes_18 : decode cX8_writes 18 = .ok (.iastore, 1) := by decide +kernel
theorem dX8_writes_19 : decode cX8_writes 19 = .ok (.aload_n 0, 1) := by decide +kernel
theorem dX8_writes_20 : decode cX8_writes 20 = .ok (.getfield 43, 3) := by decide +kernel
theorem dX8_writes_23 : decode cX8_writes 23 = .ok (.bipush 15, 2) := by decide +kernel
theorem dX8_writes_25 : decode cX8_writes 25 = .ok (.iconst 4, 1) := by decide +kernel
theorem dX8_writes_26 : decode cX8_writes 26 = .ok (.iload_n 1, 1) := by decide +kernel
theorem dX8_writes_27 : decode cX8_writes 27 = .ok (.imul, 1) := by decide +kernel
theorem dX8_writes_28 : decode cX8_writes 28 = .ok (.iadd, 1) := by decide +kernel
theorem dX8_writes_29 : decode cX8_writes 29 = .ok (.iconst 2, 1) := by decide +kernel
theorem dX8_writes_30 : decode cX8_writes 30 = .ok (.iadd, 1) := by decide +kernel
theorem dX8_writes_31 : decode cX8_writes 31 = .ok (.aload_n 0, 1) := by decide +kernel
theorem dX8_writes_32 : decode cX8_writes 32 = .ok (.iload_n 2, 1) := by decide +kernel
theorem dX8_writes_33 : decode cX8_writes 33 = .ok (.iload_n 3, 1) := by decide +kernel
theorem dX8_writes_34 : decode cX8_writes 34 = .ok (.invokevirtual 202, 3) := by decide +kernel
theorem dX8_writes_37 : decode cX8_writes 37 = .ok (.iastore, 1) := by decide +kernel
theorem dX8_writes_38 : decode cX8_writes 38 = .ok (.aload_n 0, 1) := by decide +kernel
theorem dX8_writes_39 : decode cX8_writes 39 = .ok (.getfield 43, 3) := by decide +kernel
theorem dX8_writes_42 : decode cX8_writes 42 = .ok (.bipush 15, 2) := by decide +kernel
theorem dX8_writes_44 : decode cX8_writes 44 = .ok (.iconst 4, 1) := by decide +kernel
theorem dX8_writes_45 : decode cX8_writes 45 = .ok (.iload_n 1, 1) := by decide +kernel
theorem dX8_writes_46 : decode cX8_writes 46 = .ok (.imul, 1) := by decide +kernel
theorem dX8_writes_47 : decode cX8_writes 47 = .ok (.iadd, 1) := by decide +kernel
theorem dX8_writes_48 : decode cX8_writes 48 = .ok (.iconst 3, 1) := by decide +kernel
theorem dX8_writes_49 : decode cX8_writes 49 = .ok (.iadd, 1) := by decide +kernel
theorem dX8_writes_50 : decode cX8_writes 50 = .ok (.aload_n 0, 1) := by decide +kernel
theorem dX8_writes_51 : decode cX8_writes 51 = .ok (.getfield 43, 3) := by decide +kernel
theorem dX8_writes_54 : decode cX8_writes 54 = .ok (.iconst 0, 1) := by decide +kernel
theorem dX8_writes_55 : decode cX8_writes 55 = .ok (.iaload, 1) := by decide +kernel
theorem dX8_writes_56 : decode cX8_writes 56 = .ok (.iastore, 1) := by decide +kernel
theorem dX8_writes_57 : decode cX8_writes 57 = .ok (.return_, 1) := by decide +kernel
theorem dX8_begins_0 : decode cX8_begins 0 = .ok (.bipush 8, 2) := by decide +kernel
theorem dX8_begins_2 : decode cX8_begins 2 = .ok (.iload_n 1, 1) := by decide +kernel
theorem dX8_begins_3 : decode cX8_begins 3 = .ok (.imul, 1) := by decide +kernel
theorem dX8_begins_4 : decode cX8_begins 4 = .ok (.aload_n 0, 1) := by decide +kernel
theorem dX8_begins_5 : decode cX8_begins 5 = .ok (.getfield 43, 3) := by decide +kernel
theorem dX8_begins_8 : decode cX8_begins 8 = .ok (.bipush 12, 2) := by decide +kernel
theorem dX8_begins_10 : decode cX8_begins 10 = .ok (.iload_n 1, 1) := by decide +kernel
theorem dX8_begins_11 : decode cX8_begins 11 = .ok (.iadd, 1) := by decide +kernel
theorem dX8_begins_12 : decode cX8_begins 12 = .ok (.iaload, 1) := by decide +kernel
theorem dX8_begins_13 : decode cX8_begins 13 = .ok (.iadd, 1) := by decide +kernel
theorem dX8_begins_14 : decode cX8_begins 14 = .ok (.istore_n 2, 1) := by decide +kernel
theorem dX8_begins_15 : decode cX8_begins 15 = .ok (.aload_n 0, 1) := by decide +kernel
theorem dX8_begins_16 : decode cX8_begins 16 = .ok (.getfield 43, 3) := by decide +kernel
theorem dX8_begins_19 : decode cX8_begins 19 = .ok (.bipush 15, 2) := by decide +kernel
theorem dX8_begins_21 : decode cX8_begins 21 = .ok (.iconst 4, 1) := by decide +kernel
theorem dX8_begins_22 : decode cX8_begins 22 = .ok (.iload_n 2, 1) := by decide +kernel
theorem dX8_begins_23 : decode cX8_begins 23 = .ok (.imul, 1) := by decide +kernel
theorem dX8_begins_24 : decode cX8_begins 24 = .ok (.iadd, 1) := by decide +kernel
theorem dX8_begins_25 : decode cX8_begins 25 = .ok (.aload_n 0, 1) := by decide +kernel
theorem dX8_begins_26 : decode cX8_begins 26 = .ok (.getfield 43, 3) := by decide +kernel
theorem dX8_begins_29 : decode cX8_begins 29 = .ok (.iconst 0, 1) := by decide +kernel
theorem dX8_begins_30 : decode cX8_begins 30 = .ok (.iaload, 1) := by decide +kernel
theorem dX8_begins_31 : decode cX8_begins 31 = .ok (.iastore, 1) := by decide +kernel
theorem dX8_begins_32 : decode cX8_begins 32 = .ok (.aload_n 0, 1) := by decide +kernel
theorem dX8_begins_33 : decode cX8_begins 33 = .ok (.getfield 43, 3) := by decide +kernel
theorem dX8_begins_36 : decode cX8_begins 36 = .ok (.bipush 15, 2) := by decide +kernel
theorem dX8_begins_38 : decode cX8_begins 38 = .ok (.iconst 4, 1) := by decide +kernel
theorem dX8_begins_39 : decode cX8_begins 39 = .ok (.iload_n 2, 1) := by decide +kernel
theorem dX8_begins_40 : decode cX8_begins 40 = .ok (.imul, 1) := by decide +kernel
theorem dX8_begins_41 : decode cX8_begins 41 = .ok (.iadd, 1) := by decide +kernel
theorem dX8_begins_42 : decode cX8_begins 42 = .ok (.iconst 1, 1) := by decide +kernel
theorem dX8_begins_43 : decode cX8_begins 43 = .ok (.iadd, 1) := by decide +kernel
theorem dX8_begins_44 : decode cX8_begins 44 = .ok (.iconst (-1), 1) := by decide +kernel
theorem dX8_begins_45 : decode cX8_begins 45 = .ok (.iastore, 1) := by decide +kernel
theorem dX8_begins_46 : decode cX8_begins 46 = .ok (.aload_n 0, 1) := by decide +kernel
theorem dX8_begins_47 : decode cX8_begins 47 = .ok (.getfield 43, 3) := by decide +kernel
theorem dX8_begins_50 : decode cX8_begins 50 = .ok (.bipush 12, 2) := by decide +kernel
theorem dX8_begins_52 : decode cX8_begins 52 = .ok (.iload_n 1, 1) := by decide +kernel
theorem dX8_begins_53 : decode cX8_begins 53 = .ok (.iadd, 1) := by decide +kernel
theorem dX8_begins_54 : decode cX8_begins 54 = .ok (.dup2, 1) := by decide +kernel
theorem dX8_begins_55 : decode cX8_begins 55 = .ok (.iaload, 1) := by decide +kernel
theorem dX8_begins_56 : decode cX8_begins 56 = .ok (.iconst 1, 1) := by decide +kernel
theorem dX8_begins_57 : decode cX8_begins 57 = .ok (.iadd, 1) := by decide +kernel
theorem dX8_begins_58 : decode cX8_begins 58 = .ok (.iastore, 1) := by decide +kernel
theorem dX8_begins_59 : decode cX8_begins 59 = .ok (.iload_n 2, 1) := by decide +kernel
theorem dX8_begins_60 : decode cX8_begins 60 = .ok (.ireturn, 1) := by decide +kernel
set_option maxRecDepth 20000 in
theorem ggX8_weds_X8_pays : GoodIn wsX8_weds wsX8_pays := goodIn_r _ [6, 7, 8, 9, 10, 5, 11, 12, 13, 14, 15, 16, 17, 18, 19, 20, 29, 30, 31, 32, 33, 34, 35, 36, 37, 38, 39, 40, 41, 42, 43, 44, 45, 46, 47, 48, 49, 50, 51, 52, 53, 54, 55] rfl (by decide +kernel)
set_option maxRecDepth 20000 in
theorem gX8_weds_X8_pays : GoodIn wsX8_weds (wsV RX8 214 RX8 yX8_pays wsX8_pays) := goodIn_app (goodIn_of _ (by decide +kernel)) ggX8_weds_X8_pays
set_option maxRecDepth 20000 in
theorem ggX8_weds_X8_begins : GoodIn wsX8_weds wsX8_begins := goodIn_r _ [24, 7, 29, 30, 31, 32, 33, 34, 35, 36, 37, 38, 39, 40, 41, 42, 43, 44, 45, 46, 47, 48, 49, 50, 51, 52, 53, 54, 55] rfl (by decide +kernel)
set_option maxRecDepth 20000 in
theorem gX8_weds_X8_begins : GoodIn wsX8_weds (wsV RX8 217 RX8 yX8_begins wsX8_begins) := goodIn_app (goodIn_of _ (by decide +kernel)) ggX8_weds_X8_begins
set_option maxRecDepth 20000 in
theorem ggX8_weds_X8_writes : GoodIn wsX8_weds wsX8_writes := goodIn_r _ [28, 7, 8, 9, 10, 5, 11, 12, 13, 14, 15, 16, 17, 18, 19, 20, 29, 30, 31, 32, 33, 34, 35, 36, 37, 38, 39, 40, 41, 42, 43, 44, 45, 46, 47, 48, 49, 50, 51, 52, 53, 54, 55] rfl (by decide +kernel)
set_option maxRecDepth 20000 in
theorem gX8_weds_X8_writes : GoodIn wsX8_weds (wsV RX8 220 RX8 yX8_writes wsX8_writes) := goodIn_app (goodIn_of _ (by decide +kernel)) ggX8_weds_X8_writes
theorem dX8_weds_0 : decode cX8_weds 0 = .ok (.aload_n 0, 1) := by decide +kernel
theorem dX8_weds_1 : decode cX8_weds 1 = .ok (.iload_n 1, 1) := by decide +kernel
theorem dX8_weds_2 : decode cX8_weds 2 = .ok (.iload_n 2, 1) := by decide +kernel
theorem dX8_weds_3 : decode cX8_weds 3 = .ok (.iload_n 3, 1) := by decide +kernel
theorem dX8_weds_4 : decode cX8_weds 4 = .ok (.aload_n 0, 1) := by decide +kernel
theorem dX8_weds_5 : decode cX8_weds 5 = .ok (.getfield 13, 3) := by decide +kernel
theorem dX8_weds_8 : decode cX8_weds 8 = .ok (.iconst 2, 1) := by decide +kernel
theorem dX8_weds_9 : decode cX8_weds 9 = .ok (.iload_n 1, 1) := by decide +kernel
theorem dX8_weds_10 : decode cX8_weds 10 = .ok (.imul, 1) := by decide +kernel
theorem dX8_weds_11 : decode cX8_weds 11 = .ok (.iconst 1, 1) := by decide +kernel
theorem dX8_weds_12 : decode cX8_weds 12 = .ok (.iadd, 1) := by decide +kernel
theorem dX8_weds_13 : decode cX8_weds 13 = .ok (.iaload, 1) := by decide +kernel
theorem dX8_weds_14 : decode cX8_weds 14 = .ok (.invokevirtual 214, 3) := by decide +kernel
theorem dX8_weds_17 : decode cX8_weds 17 = .ok (.aload_n 0, 1) := by decide +kernel
theorem dX8_weds_18 : decode cX8_weds 18 = .ok (.aload_n 0, 1) := by decide +kernel
theorem dX8_weds_19 : decode cX8_weds 19 = .ok (.iload_n 1, 1) := by decide +kernel
theorem dX8_weds_20 : decode cX8_weds 20 = .ok (.invokevirtual 217, 3) := by decide +kernel
theorem dX8_weds_23 : decode cX8_weds 23 = .ok (.iload_n 2, 1) := by decide +kernel
theorem dX8_weds_24 : decode cX8_weds 24 = .ok (.iload_n 3, 1) := by decide +kernel
theorem dX8_weds_25 : decode cX8_weds 25 = .ok (.invokevirtual 220, 3) := by decide +kernel
theorem dX8_weds_28 : decode cX8_weds 28 = .ok (.return_, 1) := by decide +kernel
set_option maxRecDepth 20000 in
theorem ggX8_wed_X8_isParson : GoodIn wsX8_wed wsX8_isParson := goodIn_r _ [7, 8, 9, 10, 6, 11, 81, 82, 83, 84, 85, 86, 87, 88, 89, 90, 91, 92, 93, 94, 95, 96, 97, 98, 99, 100, 101, 102, 103, 104, 105, 106, 107] rfl (by decide +kernel)
set_option maxRecDepth 20000 in
theorem gX8_wed_X8_isParson : GoodIn wsX8_wed (wsV RX8 90 RX8 yX8_isParson wsX8_isParson) := goodIn_app (goodIn_of _ (by decide +kernel)) ggX8_wed_X8_isParson
set_option maxRecDepth 20000 in
theorem ggX8_wed_X8_isPerson : GoodIn wsX8_wed wsX8_isPerson := goodIn_r _ [15, 16, 9, 10, 6, 11, 81, 82, 83, 84, 85, 86, 87, 88, 89, 90, 91, 92, 93, 94, 95, 96, 97, 98, 99, 100, 101, 102, 103, 104, 105, 106, 107] rfl (by decide +kernel)
set_option maxRecDepth 20000 in
theorem gX8_wed_X8_isPerson : GoodIn wsX8_wed (wsV RX8 174 RX8 yX8_isPerson wsX8_isPerson) := goodIn_app (goodIn_of _ (by decide +kernel)) ggX8_wed_X8_isPerson
set_option maxRecDepth 20000 in
theorem ggX8_wed_X8_asItIs : GoodIn wsX8_wed wsX8_asItIs := goodIn_r _ [20, 2, 1, 21, 22, 6, 23, 81, 82, 83, 84, 85, 86, 87, 88, 89, 90, 91, 92, 93, 94, 95, 96, 97, 98, 99, 100, 101, 102, 103, 104, 105, 106, 107] rfl (by decide +kernel)
set_option maxRecDepth 20000 in
theorem gX8_wed_X8_asItIs : GoodIn wsX8_wed (wsV RX8 177 RX8 yX8_asItIs wsX8_asItIs) := goodIn_app (goodIn_of _ (by decide +kernel)) ggX8_wed_X8_asItIs
set_option maxRecDepth 20000 in
theorem ggX8_wed_X8_canWed : GoodIn wsX8_wed wsX8_canWed := goodIn_r _ [27, 28, 29, 30, 31, 6, 32, 33, 34, 35, 36, 37, 38, 39, 40, 41, 42, 43, 44, 45, 46, 47, 48, 49, 50, 51, 52, 53, 2, 54, 55, 56, 57, 58, 81, 82, 83, 84, 85, 86, 87, 88, 89, 90, 91, 92, 93, 94, 95, 96, 97, 98, 99, 100, 101, 102, 103, 104, 105, 106, 107] rfl (by decide +kernel)
set_option maxRecDepth 20000 in
theorem gX8_wed_X8_canWed : GoodIn wsX8_wed (wsV RX8 224 RX8 yX8_canWed wsX8_canWed) := goodIn_app (goodIn_of _ (by decide +kernel)) ggX8_wed_X8_canWed
set_option maxRecDepth 20000 in
theorem ggX8_wed_X8_remembers : GoodIn wsX8_wed wsX8_remembers := goodIn_r _ [62, 63, 64, 1, 21, 22, 6, 23, 81, 82, 83, 84, 85, 86, 87, 88, 89, 90, 91, 92, 93, 94, 95, 96, 97, 98, 99, 100, 101, 102, 103, 104, 105, 106, 107] rfl (by decide +kernel)
set_option maxRecDepth 20000 in
theorem gX8_wed_X8_remembers : GoodIn wsX8_wed (wsV RX8 227 RX8 yX8_remembers wsX8_remembers) := goodIn_app (goodIn_of _ (by decide +kernel)) ggX8_wed_X8_remembers
set_option maxRecDepth 20000 in
theorem ggX8_wed_X8_weds : GoodIn wsX8_wed wsX8_weds := goodIn_r _ [68, 28, 69, 70, 71, 6, 72, 2, 33, 34, 35, 36, 37, 38, 39, 40, 41, 42, 43, 44, 45, 73, 74, 75, 76, 77, 78, 79, 80, 81, 82, 83, 84, 85, 86, 87, 88, 89, 90, 91, 92, 93, 94, 95, 96, 97, 98, 99, 100, 101, 102, 103, 104, 105, 106, 107] rfl (by decide +kernel)
set_option maxRecDepth 20000 in
theorem gX8_wed_X8_weds : GoodIn wsX8_wed (wsV RX8 230 RX8 yX8_weds wsX8_weds) := goodIn_app (goodIn_of _ (by decide +kernel)) ggX8_wed_X8_weds
set_option maxRecDepth 20000 in
theorem ggX8_wed_X8_copies : GoodIn wsX8_wed wsX8_copies := goodIn_r _ [23] rfl (by decide +kernel)
set_option maxRecDepth 20000 in
theorem gX8_wed_X8_copies : GoodIn wsX8_wed (va_wsS RX8 133 yX8_copies wsX8_copies) := goodIn_app (goodIn_of _ (by decide +kernel)) ggX8_wed_X8_copies
theorem dX8_wed_0 : decode cX8_wed 0 = .ok (.aload_n 0, 1) := by decide +kernel
theorem dX8_wed_1 : decode cX8_wed 1 = .ok (.iload_n 1, 1) := by decide +kernel
theorem dX8_wed_2 : decode cX8_wed 2 = .ok (.invokevirtual 90, 3) := by decide +kernel
theorem dX8_wed_5 : decode cX8_wed 5 = .ok (.ifCond .eq 24, 3) := by decide +kernel
theorem dX8_wed_8 : decode cX8_wed 8 = .ok (.aload_n 0, 1) := by decide +kernel
theorem dX8_wed_9 : decode cX8_wed 9 = .ok (.iload_n 2, 1) := by decide +kernel
theorem dX8_wed_10 : decode cX8_wed 10 = .ok (.invokevirtual 174, 3) := by decide +kernel
theorem dX8_wed_13 : decode cX8_wed 13 = .ok (.ifCond .eq 16, 3) := by decide +kernel
theorem dX8_wed_16 : decode cX8_wed 16 = .ok (.aload_n 0, 1) := by decide +kernel
theorem dX8_wed_17 : decode cX8_wed 17 = .ok (.iload_n 3, 1) := by decide +kernel
theorem dX8_wed_18 : decode cX8_wed 18 = .ok (.invokevirtual 174, 3) := by decide +kernel
theorem dX8_wed_21 : decode cX8_wed 21 = .ok (.ifCond .eq 8, 3) := by decide +kernel
theorem dX8_wed_24 : decode cX8_wed 24 = .ok (.iload_n 2, 1) := by decide +kernel
theorem dX8_wed_25 : decode cX8_wed 25 = .ok (.iload_n 3, 1) := by decide +kernel
theorem dX8_wed_26 : decode cX8_wed 26 = .ok (.if_icmp .ne 5, 3) := by decide +kernel
theorem dX8_wed_29 : decode cX8_wed 29 = .ok (.iconst (-1), 1) := by decide +kernel
theorem dX8_wed_30 : decode cX8_wed 30 = .ok (.ireturn, 1) := by decide +kernel
theorem dX8_wed_31 : decode cX8_wed 31 = .ok (.aload_n 0, 1) := by decide +kernel
theorem dX8_wed_32 : decode cX8_wed 32 = .ok (.invokevirtual 177, 3) := by decide +kernel
theorem dX8_wed_35 : decode cX8_wed 35 = .ok (.aload_n 0, 1) := by decide +kernel
theorem dX8_wed_36 : decode cX8_wed 36 = .ok (.iload_n 1, 1) := by decide +kernel
theorem dX8_wed_37 : decode cX8_wed 37 = .ok (.iload_n 2, 1) := by decide +kernel
theorem dX8_wed_38 : decode cX8_wed 38 = .ok (.iload_n 3, 1) := by decide +kernel
theorem dX8_wed_39 : decode cX8_wed 39 = .ok (.invokevirtual 224, 3) := by decide +kernel
theorem dX8_wed_42 : decode cX8_wed 42 = .ok (.ifCond .ne 6, 3) := by decide +kernel
theorem dX8_wed_45 : decode cX8_wed 45 = .ok (.bipush (-2), 2) := by decide +kernel
theorem dX8_wed_47 : decode cX8_wed 47 = .ok (.ireturn, 1) := by decide +kernel
theorem dX8_wed_48 : decode cX8_wed 48 = .ok (.aload_n 0, 1) := by decide +kernel
theorem dX8_wed_49 : decode cX8_wed 49 = .ok (.getfield 16, 3) := by decide +kernel
theorem dX8_wed_52 : decode cX8_wed 52 = .ok (.bipush 12, 2) := by decide +kernel
theorem dX8_wed_54 : decode cX8_wed 54 = .ok (.iload_n 1, 1) := by decide +kernel
theorem dX8_wed_55 : decode cX8_wed 55 = .ok (.iadd, 1) := by decide +kernel
theorem dX8_wed_56 : decode cX8_wed 56 = .ok (.iaload, 1) := by decide +kernel
theorem dX8_wed_57 : decode cX8_wed 57 = .ok (.bipush 8, 2) := by decide +kernel
theorem dX8_wed_59 : decode cX8_wed 59 = .ok (.if_icmp .ne 6, 3) := by decide +kernel
theorem dX8_wed_62 : decode cX8_wed 62 = .ok (.bipush (-3), 2) := by decide +kernel
theorem dX8_wed_64 : decode cX8_wed 64 = .ok (.ireturn, 1) := by decide +kernel
theorem dX8_wed_65 : decode cX8_wed 65 = .ok (.aload_n 0, 1) := by decide +kernel
theorem dX8_wed_66 : decode cX8_wed 66 = .ok (.invokevirtual 227, 3) := by decide +kernel
theorem dX8_wed_69 : decode cX8_wed 69 = .ok (.aload_n 0, 1) := by decide +kernel
theorem dX8_wed_70 : decode cX8_wed 70 = .ok (.iload_n 1, 1) := by decide +kernel
theorem dX8_wed_71 : decode cX8_wed 71 = .ok (.iload_n 2, 1) := by decide +kernel
theorem dX8_wed_72 : decode cX8_wed 72 = .ok (.iload_n 3, 1) := by decide +kernel
theorem dX8_wed_73 : decode cX8_wed 73 = .ok (.invokevirtual 230, 3) := by decide +kernel
theorem dX8_wed_76 : decode cX8_wed 76 = .ok (.aload_n 0, 1) := by decide +kernel
theorem dX8_wed_77 : decode cX8_wed 77 = .ok (.getfield 16, 3) := by decide +kernel
theorem dX8_wed_80 : decode cX8_wed 80 = .ok (.iconst 0, 1) := by decide +kernel
theorem dX8_wed_81 : decode cX8_wed 81 = .ok (.aload_n 0, 1) := by decide +kernel
theorem dX8_wed_82 : decode cX8_wed 82 = .ok (.getfield 43, 3) := by decide +kernel
theorem dX8_wed_85 : decode cX8_wed 85 = .ok (.iconst 0, 1) := by decide +kernel
theorem dX8_wed_86 : decode cX8_wed 86 = .ok (.bipush 111, 2) := by decide +kernel
theorem dX8_wed_88 : decode cX8_wed 88 = .ok (.invokestatic 133, 3) := by decide +kernel
theorem dX8_wed_91 : decode cX8_wed 91 = .ok (.aload_n 0, 1) := by decide +kernel
theorem dX8_wed_92 : decode cX8_wed 92 = .ok (.getfield 16, 3) := by decide +kernel
theorem dX8_wed_95 : decode cX8_wed 95 = .ok (.bipush 12, 2) := by decide +kernel
theorem dX8_wed_97 : decode cX8_wed 97 = .ok (.iload_n 1, 1) := by decide +kernel
theorem dX8_wed_98 : decode cX8_wed 98 = .ok (.iadd, 1) := by decide +kernel
theorem dX8_wed_99 : decode cX8_wed 99 = .ok (.iaload, 1) := by decide +kernel
theorem dX8_wed_100 : decode cX8_wed 100 = .ok (.iconst 1, 1) := by decide +kernel
theorem dX8_wed_101 : decode cX8_wed 101 = .ok (.isub, 1) := by decide +kernel
theorem dX8_wed_102 : decode cX8_wed 102 = .ok (.ireturn, 1) := by decide +kernel
set_option maxRecDepth 20000 in
theorem ggX8_canLeave_X8_isLaw : GoodIn wsX8_canLeave wsX8_isLaw := goodIn_r _ [6, 7, 8, 25, 26, 27, 28, 29, 30, 31, 32, 33, 34, 35, 36, 37, 38, 39, 40, 41, 42, 43, 44, 45, 46, 47, 48, 49, 50, 51] rfl (by decide +kernel)
set_option maxRecDepth 20000 in
theorem gX8_canLeave_X8_isLaw : GoodIn wsX8_canLeave (wsV RX8 208 RX8 yX8_isLaw wsX8_isLaw) := goodIn_app (goodIn_of _ (by decide +kernel)) ggX8_canLeave_X8_isLaw
set_option maxRecDepth 20000 in
theorem ggX8_canLeave_X8_blanksOf : GoodIn wsX8_canLeave wsX8_blanksOf := goodIn_r _ [12, 13, 14, 15, 5, 16, 17, 18, 19, 20, 7, 21, 22, 23, 24, 25, 26, 27, 28, 29, 30, 31, 32, 33, 34, 35, 36, 37, 38, 39, 40, 41, 42, 43, 44, 45, 46, 47, 48, 49, 50, 51] rfl (by decide +kernel)
set_option maxRecDepth 20000 in
theorem gX8_canLeave_X8_blanksOf : GoodIn wsX8_canLeave (wsV RX8 192 RX8 yX8_blanksOf wsX8_blanksOf) := goodIn_app (goodIn_of _ (by decide +kernel)) ggX8_canLeave_X8_blanksOf
theorem dX8_canLeave_0 : decode cX8_canLeave 0 = .ok (.aload_n 0, 1) := by decide +kernel
theorem dX8_canLeave_1 : decode cX8_canLeave 1 = .ok (.getfield 13, 3) := by decide +kernel
theorem dX8_canLeave_4 : decode cX8_canLeave 4 = .ok (.iconst 2, 1) := by decide +kernel
theorem dX8_canLeave_5 : decode cX8_canLeave 5 = .ok (.iload_n 1, 1) := by decide +kernel
theorem dX8_canLeave_6 : decode cX8_canLeave 6 = .ok (.imul, 1) := by decide +kernel
theorem dX8_canLeave_7 : decode cX8_canLeave 7 = .ok (.iaload, 1) := by decide +kernel
theorem dX8_canLeave_8 : decode cX8_canLeave 8 = .ok (.istore_n 2, 1) := by decide +kernel
theorem dX8_canLeave_9 : decode cX8_canLeave 9 = .ok (.iload_n 2, 1) := by decide +kernel
theorem dX8_canLeave_10 : decode cX8_canLeave 10 = .ok (.ifCond .eq 28, 3) := by decide +kernel
theorem dX8_canLeave_13 : decode cX8_canLeave 13 = .ok (.aload_n 0, 1) := by decide +kernel
theorem dX8_canLeave_14 : decode cX8_canLeave 14 = .ok (.invokevirtual 208, 3) := by decide +kernel
theorem dX8_canLeave_17 : decode cX8_canLeave 17 = .ok (.ifCond .ne 21, 3) := by decide +kernel
theorem dX8_canLeave_20 : decode cX8_canLeave 20 = .ok (.iload_n 2, 1) := by decide +kernel
theorem dX8_canLeave_21 : decode cX8_canLeave 21 = .ok (.iconst 1, 1) := by decide +kernel
theorem dX8_canLeave_22 : decode cX8_canLeave 22 = .ok (.if_icmp .ne 12, 3) := by decide +kernel
theorem dX8_canLeave_25 : decode cX8_canLeave 25 = .ok (.aload_n 0, 1) := by decide +kernel
theorem dX8_canLeave_26 : decode cX8_canLeave 26 = .ok (.iload_n 1, 1) := by decide +kernel
theorem dX8_canLeave_27 : decode cX8_canLeave 27 = .ok (.invokevirtual 192, 3) := by decide +kernel
theorem dX8_canLeave_30 : decode cX8_canLeave 30 = .ok (.iconst 2, 1) := by decide +kernel
theorem dX8_canLeave_31 : decode cX8_canLeave 31 = .ok (.if_icmp .ge 7, 3) := by decide +kernel
theorem dX8_canLeave_34 : decode cX8_canLeave 34 = .ok (.iconst 1, 1) := by decide +kernel
theorem dX8_canLeave_35 : decode cX8_canLeave 35 = .ok (.goto 4, 3) := by decide +kernel
theorem dX8_canLeave_38 : decode cX8_canLeave 38 = .ok (.iconst 0, 1) := by decide +kernel
theorem dX8_canLeave_39 : decode cX8_canLeave 39 = .ok (.ireturn, 1) := by decide +kernel
set_option maxRecDepth 20000 in
theorem ggX8_leave_X8_isParson : GoodIn wsX8_leave wsX8_isParson := goodIn_r _ [7, 8, 9, 10, 6, 11, 55, 56, 57, 58, 59, 60, 61, 62, 63, 64, 65, 66, 67, 68, 69, 70, 71, 72, 73, 74, 75, 76, 77, 78, 79, 80, 81] rfl (by decide +kernel)
set_option maxRecDepth 20000 in
theorem gX8_leave_X8_isParson : GoodIn wsX8_leave (wsV RX8 90 RX8 yX8_isParson wsX8_isParson) := goodIn_app (goodIn_of _ (by decide +kernel)) ggX8_leave_X8_isParson
set_option maxRecDepth 20000 in
theorem ggX8_leave_X8_asItIs : GoodIn wsX8_leave wsX8_asItIs := goodIn_r _ [15, 2, 1, 16, 17, 6, 18, 55, 56, 57, 58, 59, 60, 61, 62, 63, 64, 65, 66, 67, 68, 69, 70, 71, 72, 73, 74, 75, 76, 77, 78, 79, 80, 81] rfl (by decide +kernel)
set_option maxRecDepth 20000 in
theorem gX8_leave_X8_asItIs : GoodIn wsX8_leave (wsV RX8 177 RX8 yX8_asItIs wsX8_asItIs) := goodIn_app (goodIn_of _ (by decide +kernel)) ggX8_leave_X8_asItIs
set_option maxRecDepth 20000 in
theorem ggX8_leave_X8_canLeave : GoodIn wsX8_leave wsX8_canLeave := goodIn_r _ [22, 23, 24, 25, 26, 6, 27, 2, 28, 29, 30, 31, 32, 33, 34, 35, 36, 37, 38, 39, 40, 41, 42, 43, 44, 55, 56, 57, 58, 59, 60, 61, 62, 63, 64, 65, 66, 67, 68, 69, 70, 71, 72, 73, 74, 75, 76, 77, 78, 79, 80, 81] rfl (by decide +kernel)
set_option maxRecDepth 20000 in
theorem gX8_leave_X8_canLeave : GoodIn wsX8_leave (wsV RX8 233 RX8 yX8_canLeave wsX8_canLeave) := goodIn_app (goodIn_of _ (by decide +kernel)) ggX8_leave_X8_canLeave
set_option maxRecDepth 20000 in
theorem ggX8_leave_X8_remembers : GoodIn wsX8_leave wsX8_remembers := goodIn_r _ [48, 49, 50, 1, 16, 17, 6, 18, 55, 56, 57, 58, 59, 60, 61, 62, 63, 64, 65, 66, 67, 68, 69, 70, 71, 72, 73, 74, 75, 76, 77, 78, 79, 80, 81] rfl (by decide +kernel)
set_option maxRecDepth 20000 in
theorem gX8_leave_X8_remembers : GoodIn wsX8_leave (wsV RX8 227 RX8 yX8_remembers wsX8_remembers) := goodIn_app (goodIn_of _ (by decide +kernel)) ggX8_leave_X8_remembers
set_option maxRecDepth 20000 in
theorem ggX8_leave_X8_begins : GoodIn wsX8_leave wsX8_begins := goodIn_r _ [54, 2, 55, 56, 57, 58, 59, 60, 61, 62, 63, 64, 65, 66, 67, 68, 69, 70, 71, 72, 73, 74, 75, 76, 77, 78, 79, 80, 81] rfl (by decide +kernel)
set_option maxRecDepth 20000 in
theorem gX8_leave_X8_begins : GoodIn wsX8_leave (wsV RX8 217 RX8 yX8_begins wsX8_begins) := goodIn_app (goodIn_of _ (by decide +kernel)) ggX8_leave_X8_begins
set_option maxRecDepth 20000 in
theorem ggX8_leave_X8_copies : GoodIn wsX8_leave wsX8_copies := goodIn_r _ [18] rfl (by decide +kernel)
set_option maxRecDepth 20000 in
theorem gX8_leave_X8_copies : GoodIn wsX8_leave (va_wsS RX8 133 yX8_copies wsX8_copies) := goodIn_app (goodIn_of _ (by decide +kernel)) ggX8_leave_X8_copies
theorem dX8_leave_0 : decode cX8_leave 0 = .ok (.aload_n 0, 1) := by decide +kernel
theorem dX8_leave_1 : decode cX8_leave 1 = .ok (.iload_n 1, 1) := by decide +kernel
theorem dX8_leave_2 : decode cX8_leave 2 = .ok (.invokevirtual 90, 3) := by decide +kernel
theorem dX8_leave_5 : decode cX8_leave 5 = .ok (.ifCond .ne 5, 3) := by decide +kernel
theorem dX8_leave_8 : decode cX8_leave 8 = .ok (.iconst (-1), 1) := by decide +kernel
theorem dX8_leave_9 : decode cX8_leave 9 = .ok (.ireturn, 1) := by decide +kernel
theorem dX8_leave_10 : decode cX8_leave 10 = .ok (.aload_n 0, 1) := by decide +kernel
theorem dX8_leave_11 : decode cX8_leave 11 = .ok (.invokevirtual 177, 3) := by decide +kernel
theorem dX8_leave_14 : decode cX8_leave 14 = .ok (.aload_n 0, 1) := by decide +kernel
theorem dX8_leave_15 : decode cX8_leave 15 = .ok (.iload_n 1, 1) := by decide +kernel
theorem dX8_leave_16 : decode cX8_leave 16 = .ok (.invokevirtual 233, 3) := by decide +kernel
theorem dX8_leave_19 : decode cX8_leave 19 = .ok (.ifCond .ne 6, 3) := by decide +kernel
theorem dX8_leave_22 : decode cX8_leave 22 = .ok (.bipush (-2), 2) := by decide +kernel
theorem dX8_leave_24 : decode cX8_leave 24 = .ok (.ireturn, 1) := by decide +kernel
theorem dX8_leave_25 : decode cX8_leave 25 = .ok (.aload_n 0, 1) := by decide +kernel
theorem dX8_leave_26 : decode cX8_leave 26 = .ok (.getfield 16, 3) := by decide +kernel
theorem dX8_leave_29 : decode cX8_leave 29 = .ok (.bipush 12, 2) := by decide +kernel
theorem dX8_leave_31 : decode cX8_leave 31 = .ok (.iload_n 1, 1) := by decide +kernel
theorem dX8_leave_32 : decode cX8_leave 32 = .ok (.iadd, 1) := by decide +kernel
theorem dX8_leave_33 : decode cX8_leave 33 = .ok (.iaload, 1) := by decide +kernel
theorem dX8_leave_34 : decode cX8_leave 34 = .ok (.bipush 8, 2) := by decide +kernel
theorem dX8_leave_36 : decode cX8_leave 36 = .ok (.if_icmp .ne 6, 3) := by decide +kernel
theorem dX8_leave_39 : decode cX8_leave 39 = .ok (.bipush (-3), 2) := by decide +kernel
theorem dX8_leave_41 : decode cX8_leave 41 = .ok (.ireturn, 1) := by decide +kernel
theorem dX8_leave_42 : decode cX8_leave 42 = .ok (.aload_n 0, 1) := by decide +kernel
theorem dX8_leave_43 : decode cX8_leave 43 = .ok (.invokevirtual 227, 3) := by decide +kernel
theorem dX8_leave_46 : decode cX8_leave 46 = .ok (.aload_n 0, 1) := by decide +kernel
theorem dX8_leave_47 : decode cX8_leave 47 = .ok (.iload_n 1, 1) := by decide +kernel
theorem dX8_leave_48 : decode cX8_leave 48 = .ok (.invokevirtual 217, 3) := by decide +kernel
theorem dX8_leave_51 : decode cX8_leave 51 = .ok (.istore_n 2, 1) := by decide +kernel
theorem dX8_leave_52 : decode cX8_leave 52 = .ok (.aload_n 0, 1) := by decide +kernel
theorem dX8_leave_53 : decode cX8_leave 53 = .ok (.getfield 16, 3) := by decide +kernel
theorem dX8_leave_56 : decode cX8_leave 56 = .ok (.iconst 0, 1) := by decide +kernel
theorem dX8_leave_57 : decode cX8_leave 57 = .ok (.aload_n 0, 1) := by decide +kernel
theorem dX8_leave_58 : decode cX8_leave 58 = .ok (.getfield 43, 3) := by decide +kernel
theorem dX8_leave_61 : decode cX8_leave 61 = .ok (.iconst 0, 1) := by decide +kernel
theorem dX8_leave_62 : decode cX8_leave 62 = .ok (.bipush 111, 2) := by decide +kernel
theorem dX8_leave_64 : decode cX8_leave 64 = .ok (.invokestatic 133, 3) := by decide +kernel
theorem dX8_leave_67 : decode cX8_leave 67 = .ok (.iload_n 2, 1) := by decide +kernel
theorem dX8_leave_68 : decode cX8_leave 68 = .ok (.bipush 8, 2) := by decide +kernel
theorem dX8_leave_70 : decode cX8_leave 70 = .ok (.irem, 1) := by decide +kernel
theorem dX8_leave_71 : decode cX8_leave 71 = .ok (.ireturn, 1) := by decide +kernel
set_option maxRecDepth 20000 in
theorem ggX8_costOf_X8_begun : GoodIn wsX8_costOf wsX8_begun := goodIn_r _ [7, 1, 8, 9, 10, 11, 12, 13, 14, 15, 16, 17, 18, 19, 20, 21, 22, 23, 24, 25, 26, 27, 28, 29, 30, 31, 32, 33, 34] rfl (by decide +kernel)
set_option maxRecDepth 20000 in
theorem gX8_costOf_X8_begun : GoodIn wsX8_costOf (wsV RX8 155 RX8 yX8_begun wsX8_begun) := goodIn_app (goodIn_of _ (by decide +kernel)) ggX8_costOf_X8_begun
theorem dX8_costOf_0 : decode cX8_costOf 0 = .ok (.iload_n 1, 1) := by decide +kernel
theorem dX8_costOf_1 : decode cX8_costOf 1 = .ok (.bipush 8, 2) := by decide +kernel
theorem dX8_costOf_3 : decode cX8_costOf 3 = .ok (.idiv, 1) := by decide +kernel
theorem dX8_costOf_4 : decode cX8_costOf 4 = .ok (.istore_n 2, 1) := by decide +kernel
theorem dX8_costOf_5 : decode cX8_costOf 5 = .ok (.aload_n 0, 1) := by decide +kernel
theorem dX8_costOf_6 : decode cX8_costOf 6 = .ok (.getfield 43, 3) := by decide +kernel
theorem dX8_costOf_9 : decode cX8_costOf 9 = .ok (.iconst 0, 1) := by decide +kernel
theorem dX8_costOf_10 : decode cX8_costOf 10 = .ok (.iaload, 1) := by decide +kernel
theorem dX8_costOf_11 : decode cX8_costOf 11 = .ok (.aload_n 0, 1) := by decide +kernel
theorem dX8_costOf_12 : decode cX8_costOf 12 = .ok (.iload_n 1, 1) := by decide +kernel
theorem dX8_costOf_13 : decode cX8_costOf 13 = .ok (.invokevirtual 155, 3) := by decide +kernel
theorem dX8_costOf_16 : decode cX8_costOf 16 = .ok (.isub, 1) := by decide +kernel
theorem dX8_costOf_17 : decode cX8_costOf 17 = .ok (.istore_n 3, 1) := by decide +kernel
theorem dX8_costOf_18 : decode cX8_costOf 18 = .ok (.aload_n 0, 1) := by decide +kernel
theorem dX8_costOf_19 : decode cX8_costOf 19 = .ok (.getfield 13, 3) := by decide +kernel
theorem dX8_costOf_22 : decode cX8_costOf 22 = .ok (.iconst 2, 1) := by decide +kernel
theorem dX8_costOf_23 : decode cX8_costOf 23 = .ok (.iload_n 2, 1) := by decide +kernel
theorem dX8_costOf_24 : decode cX8_costOf 24 = .ok (.imul, 1) := by decide +kernel
theorem dX8_costOf_25 : decode cX8_costOf 25 = .ok (.iconst 1, 1) := by decide +kernel
theorem dX8_costOf_26 : decode cX8_costOf 26 = .ok (.iadd, 1) := by decide +kernel
theorem dX8_costOf_27 : decode cX8_costOf 27 = .ok (.iaload, 1) := by decide +kernel
theorem dX8_costOf_28 : decode cX8_costOf 28 = .ok (.aload_n 0, 1) := by decide +kernel
theorem dX8_costOf_29 : decode cX8_costOf 29 = .ok (.getfield 13, 3) := by decide +kernel
theorem dX8_costOf_32 : decode cX8_costOf 32 = .ok (.iconst 2, 1) := by decide +kernel
theorem dX8_costOf_33 : decode cX8_costOf 33 = .ok (.iload_n 2, 1) := by decide +kernel
theorem dX8_costOf_34 : decode cX8_costOf 34 = .ok (.imul, 1) := by decide +kernel
theorem dX8_costOf_35 : decode cX8_costOf 35 = .ok (.iaload, 1) := by decide +kernel
theorem dX8_costOf_36 : decode cX8_costOf 36 = .ok (.iconst 2, 1) := by decide +kernel
theorem dX8_costOf_37 : decode cX8_costOf 37 = .ok (.if_icmp .ne 9, 3) := by decide +kernel
theorem dX8_costOf_40 : decode cX8_costOf 40 = .ok (.iload_n 3, 1) := by decide +kernel
theorem dX8_costOf_41 : decode cX8_costOf 41 = .ok (.iconst 2, 1) := by decide +kernel
theorem dX8_costOf_42 : decode cX8_costOf 42 = .ok (.idiv, 1) := by decide +kernel
theorem dX8_costOf_43 : decode cX8_costOf 43 = .ok (.goto 4, 3) := by decide +kernel
theorem dX8_costOf_46 : decode cX8_costOf 46 = .ok (.iload_n 3, 1) := by decide +kernel
theorem dX8_costOf_47 : decode cX8_costOf 47 = .ok (.iadd, 1) := by decide +kernel
theorem dX8_costOf_48 : decode cX8_costOf 48 = .ok (.ireturn, 1) := by decide +kernel
set_option maxRecDepth 20000 in
theorem ggX8_fill_X8_isLine : GoodIn wsX8_fill wsX8_isLine := goodIn_r _ [7, 1, 8, 9, 10, 6, 11, 12, 13, 14, 15, 88, 89, 90, 91, 92, 93, 94, 95, 96, 97, 98, 99, 100, 101, 102, 103, 104, 105, 106, 107, 108, 109, 110, 111, 112, 113, 114] rfl (by decide +kernel)
set_option maxRecDepth 20000 in
theorem gX8_fill_X8_isLine : GoodIn wsX8_fill (wsV RX8 195 RX8 yX8_isLine wsX8_isLine) := goodIn_app (goodIn_of _ (by decide +kernel)) ggX8_fill_X8_isLine
set_option maxRecDepth 20000 in
theorem ggX8_fill_X8_isPerson : GoodIn wsX8_fill wsX8_isPerson := goodIn_r _ [19, 20, 13, 14, 6, 15, 88, 89, 90, 91, 92, 93, 94, 95, 96, 97, 98, 99, 100, 101, 102, 103, 104, 105, 106, 107, 108, 109, 110, 111, 112, 113, 114] rfl (by decide +kernel)
set_option maxRecDepth 20000 in
theorem gX8_fill_X8_isPerson : GoodIn wsX8_fill (wsV RX8 174 RX8 yX8_isPerson wsX8_isPerson) := goodIn_app (goodIn_of _ (by decide +kernel)) ggX8_fill_X8_isPerson
set_option maxRecDepth 20000 in
theorem ggX8_fill_X8_asItIs : GoodIn wsX8_fill wsX8_asItIs := goodIn_r _ [24, 2, 1, 25, 26, 6, 27, 88, 89, 90, 91, 92, 93, 94, 95, 96, 97, 98, 99, 100, 101, 102, 103, 104, 105, 106, 107, 108, 109, 110, 111, 112, 113, 114] rfl (by decide +kernel)
set_option maxRecDepth 20000 in
theorem gX8_fill_X8_asItIs : GoodIn wsX8_fill (wsV RX8 177 RX8 yX8_asItIs wsX8_asItIs) := goodIn_app (goodIn_of _ (by decide +kernel)) ggX8_fill_X8_asItIs
set_option maxRecDepth 20000 in
theorem ggX8_fill_X8_isBlank : GoodIn wsX8_fill wsX8_isBlank := goodIn_r _ [31, 32, 33, 34, 6, 35, 2, 36, 37, 38, 39, 88, 89, 90, 91, 92, 93, 94, 95, 96, 97, 98, 99, 100, 101, 102, 103, 104, 105, 106, 107, 108, 109, 110, 111, 112, 113, 114] rfl (by decide +kernel)
set_option maxRecDepth 20000 in
theorem gX8_fill_X8_isBlank : GoodIn wsX8_fill (wsV RX8 189 RX8 yX8_isBlank wsX8_isBlank) := goodIn_app (goodIn_of _ (by decide +kernel)) ggX8_fill_X8_isBlank
set_option maxRecDepth 20000 in
theorem ggX8_fill_X8_canBeTwo : GoodIn wsX8_fill wsX8_canBeTwo := goodIn_r _ [43, 44, 45, 46, 6, 47, 48, 49, 50, 51, 52, 53, 54, 55, 56, 57, 58, 59, 60, 88, 89, 90, 91, 92, 93, 94, 95, 96, 97, 98, 99, 100, 101, 102, 103, 104, 105, 106, 107, 108, 109, 110, 111, 112, 113, 114] rfl (by decide +kernel)
set_option maxRecDepth 20000 in
theorem gX8_fill_X8_canBeTwo : GoodIn wsX8_fill (wsV RX8 205 RX8 yX8_canBeTwo wsX8_canBeTwo) := goodIn_app (goodIn_of _ (by decide +kernel)) ggX8_fill_X8_canBeTwo
set_option maxRecDepth 20000 in
theorem ggX8_fill_X8_costOf : GoodIn wsX8_fill wsX8_costOf := goodIn_r _ [64, 2, 65, 66, 67, 68, 6, 69, 88, 89, 90, 91, 92, 93, 94, 95, 96, 97, 98, 99, 100, 101, 102, 103, 104, 105, 106, 107, 108, 109, 110, 111, 112, 113, 114] rfl (by decide +kernel)
set_option maxRecDepth 20000 in
theorem gX8_fill_X8_costOf : GoodIn wsX8_fill (wsV RX8 236 RX8 yX8_costOf wsX8_costOf) := goodIn_app (goodIn_of _ (by decide +kernel)) ggX8_fill_X8_costOf
set_option maxRecDepth 20000 in
theorem ggX8_fill_X8_canPay : GoodIn wsX8_fill wsX8_canPay := goodIn_r _ [73, 2, 88, 89, 90, 91, 92, 93, 94, 95, 96, 97, 98, 99, 100, 101, 102, 103, 104, 105, 106, 107, 108, 109, 110, 111, 112, 113, 114] rfl (by decide +kernel)
set_option maxRecDepth 20000 in
theorem gX8_fill_X8_canPay : GoodIn wsX8_fill (wsV RX8 211 RX8 yX8_canPay wsX8_canPay) := goodIn_app (goodIn_of _ (by decide +kernel)) ggX8_fill_X8_canPay
set_option maxRecDepth 20000 in
theorem ggX8_fill_X8_remembers : GoodIn wsX8_fill wsX8_remembers := goodIn_r _ [77, 78, 79, 1, 25, 26, 6, 27, 88, 89, 90, 91, 92, 93, 94, 95, 96, 97, 98, 99, 100, 101, 102, 103, 104, 105, 106, 107, 108, 109, 110, 111, 112, 113, 114] rfl (by decide +kernel)
set_option maxRecDepth 20000 in
theorem gX8_fill_X8_remembers : GoodIn wsX8_fill (wsV RX8 227 RX8 yX8_remembers wsX8_remembers) := goodIn_app (goodIn_of _ (by decide +kernel)) ggX8_fill_X8_remembers
set_option maxRecDepth 20000 in
theorem ggX8_fill_X8_pays : GoodIn wsX8_fill wsX8_pays := goodIn_r _ [83, 2, 44, 45, 46, 6, 47, 48, 49, 50, 51, 52, 53, 54, 55, 56, 88, 89, 90, 91, 92, 93, 94, 95, 96, 97, 98, 99, 100, 101, 102, 103, 104, 105, 106, 107, 108, 109, 110, 111, 112, 113, 114] rfl (by decide +kernel)
set_option maxRecDepth 20000 in
theorem gX8_fill_X8_pays : GoodIn wsX8_fill (wsV RX8 214 RX8 yX8_pays wsX8_pays) := goodIn_app (goodIn_of _ (by decide +kernel)) ggX8_fill_X8_pays
set_option maxRecDepth 20000 in
theorem ggX8_fill_X8_writes : GoodIn wsX8_fill wsX8_writes := goodIn_r _ [87, 2, 44, 45, 46, 6, 47, 48, 49, 50, 51, 52, 53, 54, 55, 56, 88, 89, 90, 91, 92, 93, 94, 95, 96, 97, 98, 99, 100, 101, 102, 103, 104, 105, 106, 107, 108, 109, 110, 111, 112, 113, 114] rfl (by decide +kernel)
set_option maxRecDepth 20000 in
theorem gX8_fill_X8_writes : GoodIn wsX8_fill (wsV RX8 220 RX8 yX8_writes wsX8_writes) := goodIn_app (goodIn_of _ (by decide +kernel)) ggX8_fill_X8_writes
set_option maxRecDepth 20000 in
theorem ggX8_fill_X8_copies : GoodIn wsX8_fill wsX8_copies := goodIn_r _ [27] rfl (by decide +kernel)
set_option maxRecDepth 20000 in
theorem gX8_fill_X8_copies : GoodIn wsX8_fill (va_wsS RX8 133 yX8_copies wsX8_copies) := goodIn_app (goodIn_of _ (by decide +kernel)) ggX8_fill_X8_copies
theorem dX8_fill_0 : decode cX8_fill 0 = .ok (.aload_n 0, 1) := by decide +kernel
theorem dX8_fill_1 : decode cX8_fill 1 = .ok (.iload_n 1, 1) := by decide +kernel
theorem dX8_fill_2 : decode cX8_fill 2 = .ok (.iload_n 2, 1) := by decide +kernel
theorem dX8_fill_3 : decode cX8_fill 3 = .ok (.invokevirtual 195, 3) := by decide +kernel
theorem dX8_fill_6 : decode cX8_fill 6 = .ok (.ifCond .eq 26, 3) := by decide +kernel
theorem dX8_fill_9 : decode cX8_fill 9 = .ok (.aload_n 0, 1) := by decide +kernel
theorem dX8_fill_10 : decode cX8_fill 10 = .ok (.iload_n 3, 1) := by decide +kernel
theorem dX8_fill_11 : decode cX8_fill 11 = .ok (.invokevirtual 174, 3) := by decide +kernel
theorem dX8_fill_14 : decode cX8_fill 14 = .ok (.ifCond .eq 18, 3) := by decide +kernel
theorem dX8_fill_17 : decode cX8_fill 17 = .ok (.aload_n 0, 1) := by decide +kernel
theorem dX8_fill_18 : decode cX8_fill 18 = .ok (.iload 4, 2) := by decide +kernel
theorem dX8_fill_20 : decode cX8_fill 20 = .ok (.invokevirtual 174, 3) := by decide +kernel
theorem dX8_fill_23 : decode cX8_fill 23 = .ok (.ifCond .eq 9, 3) := by decide +kernel
theorem dX8_fill_26 : decode cX8_fill 26 = .ok (.iload_n 3, 1) := by decide +kernel
theorem dX8_fill_27 : decode cX8_fill 27 = .ok (.iload 4, 2) := by decide +kernel
theorem dX8_fill_29 : decode cX8_fill 29 = .ok (.if_icmp .ne 5, 3) := by decide +kernel
theorem dX8_fill_32 : decode cX8_fill 32 = .ok (.iconst (-1), 1) := by decide +kernel
theorem dX8_fill_33 : decode cX8_fill 33 = .ok (.ireturn, 1) := by decide +kernel
theorem dX8_fill_34 : decode cX8_fill 34 = .ok (.aload_n 0, 1) := by decide +kernel
theorem dX8_fill_35 : decode cX8_fill 35 = .ok (.invokevirtual 177, 3) := by decide +kernel
theorem dX8_fill_38 : decode cX8_fill 38 = .ok (.bipush 8, 2) := by decide +kernel
theorem dX8_fill_40 : decode cX8_fill 40 = .ok (.iload_n 1, 1) := by decide +kernel
theorem dX8_fill_41 : decode cX8_fill 41 = .ok (.imul, 1) := by decide +kernel
theorem dX8_fill_42 : decode cX8_fill 42 = .ok (.iload_n 2, 1) := by decide +kernel
theorem dX8_fill_43 : decode cX8_fill 43 = .ok (.iadd, 1) := by decide +kernel
theorem dX8_fill_44 : decode cX8_fill 44 = .ok (.istore 5, 2) := by decide +kernel
theorem dX8_fill_46 : decode cX8_fill 46 = .ok (.aload_n 0, 1) := by decide +kernel
theorem dX8_fill_47 : decode cX8_fill 47 = .ok (.iload 5, 2) := by decide +kernel
theorem dX8_fill_49 : decode cX8_fill 49 = .ok (.invokevirtual 189, 3) := by decide +kernel
theorem dX8_fill_52 : decode cX8_fill 52 = .ok (.ifCond .eq 29, 3) := by decide +kernel
theorem dX8_fill_55 : decode cX8_fill 55 = .ok (.aload_n 0, 1) := by decide +kernel
theorem dX8_fill_56 : decode cX8_fill 56 = .ok (.iload_n 3, 1) := by decide +kernel
theorem dX8_fill_57 : decode cX8_fill 57 = .ok (.iload 4, 2) := by decide +kernel
theorem dX8_fill_59 : decode cX8_fill 59 = .ok (.invokevirtual 205, 3) := by decide +kernel
theorem dX8_fill_62 : decode cX8_fill 62 = .ok (.ifCond .eq 19, 3) := by decide +kernel
theorem dX8_fill_65 : decode cX8_fill 65 = .ok (.aload_n 0, 1) := by decide +kernel
theorem dX8_fill_66 : decode cX8_fill 66 = .ok (.iload_n 3, 1) := by decide +kernel
theorem dX8_fill_67 : decode cX8_fill 67 = .ok (.iload 4, 2) := by decide +kernel
theorem dX8_fill_69 : decode cX8_fill 69 = .ok (.aload_n 0, 1) := by decide +kernel
theorem dX8_fill_70 : decode cX8_fill 70 = .ok (.iload 5, 2) := by decide +kernel
theorem dX8_fill_72 : decode cX8_fill 72 = .ok (.invokevirtual 236, 3) := by decide +kernel
theorem dX8_fill_75 : decode cX8_fill 75 = .ok (.invokevirtual 211, 3) := by decide +kernel
theorem dX8_fill_78 : decode cX8_fill 78 = .ok (.ifCond .ne 6, 3) := by decide +kernel
theorem dX8_fill_81 : decode cX8_fill 81 = .ok (.bipush (-2), 2) := by decide +kernel
theorem dX8_fill_83 : decode cX8_fill 83 = .ok (.ireturn, 1) := by decide +kernel
theorem dX8_fill_84 : decode cX8_fill 84 = .ok (.aload_n 0, 1) := by decide +kernel
theorem dX8_fill_85 : decode cX8_fill 85 = .ok (.invokevirtual 227, 3) := by decide +kernel
theorem dX8_fill_88 : decode cX8_fill 88 = .ok (.aload_n 0, 1) := by decide +kernel
theorem dX8_fill_89 : decode cX8_fill 89 = .ok (.iload 5, 2) := by decide +kernel
theorem dX8_fill_91 : decode cX8_fill 91 = .ok (.invokevirtual 236, 3) := by decide +kernel
theorem dX8_fill_94 : decode cX8_fill 94 = .ok (.istore 6, 2) := by decide +kernel
theorem dX8_fill_96 : decode cX8_fill 96 = .ok (.aload_n 0, 1) := by decide +kernel
theorem dX8_fill_97 : decode cX8_fill 97 = .ok (.iload_n 1, 1) := by decide +kernel
theorem dX8_fill_98 : decode cX8_fill 98 = .ok (.iload_n 3, 1) := by decide +kernel
theorem dX8_fill_99 : decode cX8_fill 99 = .ok (.iload 4, 2) := by decide +kernel
theorem dX8_fill_101 : decode cX8_fill 101 = .ok (.iload 6, 2) := by decide +kernel
theorem dX8_fill_103 : decode cX8_fill 103 = .ok (.invokevirtual 214, 3) := by decide +kernel
theorem dX8_fill_106 : decode cX8_fill 106 = .ok (.aload_n 0, 1) := by decide +kernel
theorem dX8_fill_107 : decode cX8_fill 107 = .ok (.iload 5, 2) := by decide +kernel
theorem dX8_fill_109 : decode cX8_fill 109 = .ok (.iload_n 3, 1) := by decide +kernel
theorem dX8_fill_110 : decode cX8_fill 110 = .ok (.iload 4, 2) := by decide +kernel
theorem dX8_fill_112 : decode cX8_fill 112 = .ok (.invokevirtual 220, 3) := by decide +kernel
theorem dX8_fill_115 : decode cX8_fill 115 = .ok (.aload_n 0, 1) := by decide +kernel
theorem dX8_fill_116 : decode cX8_fill 116 = .ok (.getfield 16, 3) := by decide +kernel
theorem dX8_fill_119 : decode cX8_fill 119 = .ok (.iconst 0, 1) := by decide +kernel
theorem dX8_fill_120 : decode cX8_fill 120 = .ok (.aload_n 0, 1) := by decide +kernel
theorem dX8_fill_121 : decode cX8_fill 121 = .ok (.getfield 43, 3) := by decide +kernel
theorem dX8_fill_124 : decode cX8_fill 124 = .ok (.iconst 0, 1) := by decide +kernel
theorem dX8_fill_125 : decode cX8_fill 125 = .ok (.bipush 111, 2) := by decide +kernel
theorem dX8_fill_127 : decode cX8_fill 127 = .ok (.invokestatic 133, 3) := by decide +kernel
theorem dX8_fill_130 : decode cX8_fill 130 = .ok (.iload 6, 2) := by decide +kernel
theorem dX8_fill_132 : decode cX8_fill 132 = .ok (.ireturn, 1) := by decide +kernel
set_option maxRecDepth 20000 in
theorem ggX8_strike_X8_isLine : GoodIn wsX8_strike wsX8_isLine := goodIn_r _ [7, 2, 8, 9, 10, 6, 11, 12, 13, 14, 15, 63, 64, 65, 66, 67, 68, 69, 70, 71, 72, 73, 74, 75, 76, 77, 78, 79, 80, 81, 82, 83, 84, 85, 86, 87, 88, 89] rfl (by decide +kernel)
set_option maxRecDepth 20000 in
theorem gX8_strike_X8_isLine : GoodIn wsX8_strike (wsV RX8 195 RX8 yX8_isLine wsX8_isLine) := goodIn_app (goodIn_of _ (by decide +kernel)) ggX8_strike_X8_isLine
set_option maxRecDepth 20000 in
theorem ggX8_strike_X8_asItIs : GoodIn wsX8_strike wsX8_asItIs := goodIn_r _ [19, 1, 2, 20, 21, 6, 22, 63, 64, 65, 66, 67, 68, 69, 70, 71, 72, 73, 74, 75, 76, 77, 78, 79, 80, 81, 82, 83, 84, 85, 86, 87, 88, 89] rfl (by decide +kernel)
set_option maxRecDepth 20000 in
theorem gX8_strike_X8_asItIs : GoodIn wsX8_strike (wsV RX8 177 RX8 yX8_asItIs wsX8_asItIs) := goodIn_app (goodIn_of _ (by decide +kernel)) ggX8_strike_X8_asItIs
set_option maxRecDepth 20000 in
theorem ggX8_strike_X8_isOfTwo : GoodIn wsX8_strike wsX8_isOfTwo := goodIn_r _ [26, 27, 28, 29, 6, 30, 1, 31, 32, 33, 34, 63, 64, 65, 66, 67, 68, 69, 70, 71, 72, 73, 74, 75, 76, 77, 78, 79, 80, 81, 82, 83, 84, 85, 86, 87, 88, 89] rfl (by decide +kernel)
set_option maxRecDepth 20000 in
theorem gX8_strike_X8_isOfTwo : GoodIn wsX8_strike (wsV RX8 152 RX8 yX8_isOfTwo wsX8_isOfTwo) := goodIn_app (goodIn_of _ (by decide +kernel)) ggX8_strike_X8_isOfTwo
set_option maxRecDepth 20000 in
theorem ggX8_strike_X8_remembers : GoodIn wsX8_strike wsX8_remembers := goodIn_r _ [38, 39, 40, 2, 20, 21, 6, 22, 63, 64, 65, 66, 67, 68, 69, 70, 71, 72, 73, 74, 75, 76, 77, 78, 79, 80, 81, 82, 83, 84, 85, 86, 87, 88, 89] rfl (by decide +kernel)
set_option maxRecDepth 20000 in
theorem gX8_strike_X8_remembers : GoodIn wsX8_strike (wsV RX8 227 RX8 yX8_remembers wsX8_remembers) := goodIn_app (goodIn_of _ (by decide +kernel)) ggX8_strike_X8_remembers
set_option maxRecDepth 20000 in
theorem ggX8_strike_X8_copies : GoodIn wsX8_strike wsX8_copies := goodIn_r _ [22] rfl (by decide +kernel)
set_option maxRecDepth 20000 in
theorem gX8_strike_X8_copies : GoodIn wsX8_strike (va_wsS RX8 133 yX8_copies wsX8_copies) := goodIn_app (goodIn_of _ (by decide +kernel)) ggX8_strike_X8_copies
set_option maxRecDepth 20000 in
theorem ggX8_strike_X8_findHolds : GoodIn wsX8_strike wsX8_findHolds := goodIn_r _ [44, 45, 46, 47, 48, 49, 6, 50, 23, 24, 25, 26, 27, 28, 29, 30, 1, 31, 32, 33, 34, 51, 52, 53, 54, 55, 56, 57, 58, 63, 64, 65, 66, 67, 68, 69, 70, 71, 72, 73, 74, 75, 76, 77, 78, 79, 80, 81, 82, 83, 84, 85, 86, 87, 88, 89] rfl (by decide +kernel)
set_option maxRecDepth 20000 in
theorem gX8_strike_X8_findHolds : GoodIn wsX8_strike (wsV RX8 180 RX8 yX8_findHolds wsX8_findHolds) := goodIn_app (goodIn_of _ (by decide +kernel)) ggX8_strike_X8_findHolds
set_option maxRecDepth 20000 in
theorem ggX8_strike_X8_manyHold : GoodIn wsX8_strike wsX8_manyHold := goodIn_r _ [62, 45, 63, 64, 65, 66, 67, 68, 69, 70, 71, 72, 73, 74, 75, 76, 77, 78, 79, 80, 81, 82, 83, 84, 85, 86, 87, 88, 89] rfl (by decide +kernel)
set_option maxRecDepth 20000 in
theorem gX8_strike_X8_manyHold : GoodIn wsX8_strike (wsV RX8 239 RX8 yX8_manyHold wsX8_manyHold) := goodIn_app (goodIn_of _ (by decide +kernel)) ggX8_strike_X8_manyHold
theorem dX8_strike_0 : decode cX8_strike 0 = .ok (.aload_n 0, 1) := by decide +kernel
theorem dX8_strike_1 : decode cX8_strike 1 = .ok (.iload_n 1, 1) := by decide +kernel
theorem dX8_strike_2 : decode cX8_strike 2 = .ok (.iload_n 2, 1) := by decide +kernel
theorem dX8_strike_3 : decode cX8_strike 3 = .ok (.invokevirtual 195, 3) := by decide +kernel
theorem dX8_strike_6 : decode cX8_strike 6 = .ok (.ifCond .ne 5, 3) := by decide +kernel
theorem dX8_strike_9 : decode cX8_strike 9 = .ok (.iconst (-1), 1) := by decide +kernel
theorem dX8_strike_10 : decode cX8_strike 10 = .ok (.ireturn, 1) := by decide +kernel
theorem dX8_strike_11 : decode cX8_strike 11 = .ok (.aload_n 0, 1) := by decide +kernel
theorem dX8_strike_12 : decode cX8_strike 12 = .ok (.invokevirtual 177, 3) := by decide +kernel
theorem dX8_strike_15 : decode cX8_strike 15 = .ok (.bipush 8, 2) := by decide +kernel
theorem dX8_strike_17 : decode cX8_strike 17 = .ok (.iload_n 1, 1) := by decide +kernel
theorem dX8_strike_18 : decode cX8_strike 18 = .ok (.imul, 1) := by decide +kernel
theorem dX8_strike_19 : decode cX8_strike 19 = .ok (.iload_n 2, 1) := by decide +kernel
theorem dX8_strike_20 : decode cX8_strike 20 = .ok (.iadd, 1) := by decide +kernel
theorem dX8_strike_21 : decode cX8_strike 21 = .ok (.istore_n 3, 1) := by decide +kernel
theorem dX8_strike_22 : decode cX8_strike 22 = .ok (.aload_n 0, 1) := by decide +kernel
theorem dX8_strike_23 : decode cX8_strike 23 = .ok (.iload_n 3, 1) := by decide +kernel
theorem dX8_strike_24 : decode cX8_strike 24 = .ok (.invokevirtual 152, 3) := by decide +kernel
theorem dX8_strike_27 : decode cX8_strike 27 = .ok (.ifCond .ne 6, 3) := by decide +kernel
theorem dX8_strike_30 : decode cX8_strike 30 = .ok (.bipush (-2), 2) := by decide +kernel
theorem dX8_strike_32 : decode cX8_strike 32 = .ok (.ireturn, 1) := by decide +kernel
theorem dX8_strike_33 : decode cX8_strike 33 = .ok (.aload_n 0, 1) := by decide +kernel
theorem dX8_strike_34 : decode cX8_strike 34 = .ok (.invokevirtual 227, 3) := by decide +kernel
theorem dX8_strike_37 : decode cX8_strike 37 = .ok (.aload_n 0, 1) := by decide +kernel
theorem dX8_strike_38 : decode cX8_strike 38 = .ok (.getfield 43, 3) := by decide +kernel
theorem dX8_strike_41 : decode cX8_strike 41 = .ok (.bipush 15, 2) := by decide +kernel
theorem dX8_strike_43 : decode cX8_strike 43 = .ok (.iconst 4, 1) := by decide +kernel
theorem dX8_strike_44 : decode cX8_strike 44 = .ok (.iload_n 3, 1) := by decide +kernel
theorem dX8_strike_45 : decode cX8_strike 45 = .ok (.imul, 1) := by decide +kernel
theorem dX8_strike_46 : decode cX8_strike 46 = .ok (.iadd, 1) := by decide +kernel
theorem dX8_strike_47 : decode cX8_strike 47 = .ok (.iconst 1, 1) := by decide +kernel
theorem dX8_strike_48 : decode cX8_strike 48 = .ok (.iadd, 1) := by decide +kernel
theorem dX8_strike_49 : decode cX8_strike 49 = .ok (.bipush (-2), 2) := by decide +kernel
theorem dX8_strike_51 : decode cX8_strike 51 = .ok (.iastore, 1) := by decide +kernel
theorem dX8_strike_52 : decode cX8_strike 52 = .ok (.aload_n 0, 1) := by decide +kernel
theorem dX8_strike_53 : decode cX8_strike 53 = .ok (.getfield 16, 3) := by decide +kernel
theorem dX8_strike_56 : decode cX8_strike 56 = .ok (.iconst 0, 1) := by decide +kernel
theorem dX8_strike_57 : decode cX8_strike 57 = .ok (.aload_n 0, 1) := by decide +kernel
theorem dX8_strike_58 : decode cX8_strike 58 = .ok (.getfield 43, 3) := by decide +kernel
theorem dX8_strike_61 : decode cX8_strike 61 = .ok (.iconst 0, 1) := by decide +kernel
theorem dX8_strike_62 : decode cX8_strike 62 = .ok (.bipush 111, 2) := by decide +kernel
theorem dX8_strike_64 : decode cX8_strike 64 = .ok (.invokestatic 133, 3) := by decide +kernel
theorem dX8_strike_67 : decode cX8_strike 67 = .ok (.aload_n 0, 1) := by decide +kernel
theorem dX8_strike_68 : decode cX8_strike 68 = .ok (.invokevirtual 180, 3) := by decide +kernel
theorem dX8_strike_71 : decode cX8_strike 71 = .ok (.aload_n 0, 1) := by decide +kernel
theorem dX8_strike_72 : decode cX8_strike 72 = .ok (.invokevirtual 239, 3) := by decide +kernel
theorem dX8_strike_75 : decode cX8_strike 75 = .ok (.ireturn, 1) := by decide +kernel
set_option maxRecDepth 20000 in
theorem ggX8_pass_X8_in : GoodIn wsX8_pass wsX8_in := goodIn_r _ [5] rfl (by decide +kernel)
set_option maxRecDepth 20000 in
theorem gX8_pass_X8_in : GoodIn wsX8_pass (va_wsS RX8 83 yX8_in wsX8_in) := goodIn_app (goodIn_of _ (by decide +kernel)) ggX8_pass_X8_in
set_option maxRecDepth 20000 in
theorem ggX8_pass_X8_remembers : GoodIn wsX8_pass wsX8_remembers := goodIn_r _ [9, 10, 11, 1, 12, 13, 4, 14, 15, 16, 17, 18, 19, 20, 21, 22, 23, 24, 25, 26, 27, 28, 29, 30, 31, 32, 33, 34, 35, 36, 37, 38, 39, 40, 41] rfl (by decide +kernel)
set_option maxRecDepth 20000 in
theorem gX8_pass_X8_remembers : GoodIn wsX8_pass (wsV RX8 227 RX8 yX8_remembers wsX8_remembers) := goodIn_app (goodIn_of _ (by decide +kernel)) ggX8_pass_X8_remembers
theorem dX8_pass_0 : decode cX8_pass 0 = .ok (.iload_n 1, 1) := by decide +kernel
theorem dX8_pass_1 : decode cX8_pass 1 = .ok (.iconst 1, 1) := by decide +kernel
theorem dX8_pass_2 : decode cX8_pass 2 = .ok (.bipush 30, 2) := by decide +kernel
theorem dX8_pass_4 : decode cX8_pass 4 = .ok (.invokestatic 83, 3) := by decide +kernel
theorem dX8_pass_7 : decode cX8_pass 7 = .ok (.ifCond .ne 5, 3) := by decide +kernel
theorem dX8_pass_10 : decode cX8_pass 10 = .ok (.iconst (-1), 1) := by decide +kernel
theorem dX8_pass_11 : decode cX8_pass 11 = .ok (.ireturn, 1) := by decide +kernel
theorem dX8_pass_12 : decode cX8_pass 12 = .ok (.aload_n 0, 1) := by decide +kernel
theorem dX8_pass_13 : decode cX8_pass 13 = .ok (.invokevirtual 227, 3) := by decide +kernel
theorem dX8_pass_16 : decode cX8_pass 16 = .ok (.aload_n 0, 1) := by decide +kernel
theorem dX8_pass_17 : decode cX8_pass 17 = .ok (.getfield 16, 3) := by decide +kernel
theorem dX8_pass_20 : decode cX8_pass 20 = .ok (.iconst 0, 1) := by decide +kernel
theorem dX8_pass_21 : decode cX8_pass 21 = .ok (.dup2, 1) := by decide +kernel
theorem dX8_pass_22 : decode cX8_pass 22 = .ok (.iaload, 1) := by decide +kernel
theorem dX8_pass_23 : decode cX8_pass 23 = .ok (.iload_n 1, 1) := by decide +kernel
theorem dX8_pass_24 : decode cX8_pass 24 = .ok (.iadd, 1) := by decide +kernel
theorem dX8_pass_25 : decode cX8_pass 25 = .ok (.iastore, 1) := by decide +kernel
theorem dX8_pass_26 : decode cX8_pass 26 = .ok (.aload_n 0, 1) := by decide +kernel
theorem dX8_pass_27 : decode cX8_pass 27 = .ok (.getfield 16, 3) := by decide +kernel
theorem dX8_pass_30 : decode cX8_pass 30 = .ok (.iconst 0, 1) := by decide +kernel
theorem dX8_pass_31 : decode cX8_pass 31 = .ok (.iaload, 1) := by decide +kernel
theorem dX8_pass_32 : decode cX8_pass 32 = .ok (.ireturn, 1) := by decide +kernel
set_option maxRecDepth 20000 in
theorem ggX8_undo_X8_copies : GoodIn wsX8_undo wsX8_copies := goodIn_r _ [7] rfl (by decide +kernel)
set_option maxRecDepth 20000 in
theorem gX8_undo_X8_copies : GoodIn wsX8_undo (va_wsS RX8 133 yX8_copies wsX8_copies) := goodIn_app (goodIn_of _ (by decide +kernel)) ggX8_undo_X8_copies
theorem dX8_undo_0 : decode cX8_undo 0 = .ok (.aload_n 0, 1) := by decide +kernel
theorem dX8_undo_1 : decode cX8_undo 1 = .ok (.getfield 137, 3) := by decide +kernel
theorem dX8_undo_4 : decode cX8_undo 4 = .ok (.ifCond .ne 6, 3) := by decide +kernel
theorem dX8_undo_7 : decode cX8_undo 7 = .ok (.bipush (-2), 2) := by decide +kernel
theorem dX8_undo_9 : decode cX8_undo 9 = .ok (.ireturn, 1) := by decide +kernel
theorem dX8_undo_10 : decode cX8_undo 10 = .ok (.aload_n 0, 1) := by decide +kernel
theorem dX8_undo_11 : decode cX8_undo 11 = .ok (.dup, 1) := by decide +kernel
theorem dX8_undo_12 : decode cX8_undo 12 = .ok (.getfield 137, 3) := by decide +kernel
theorem dX8_undo_15 : decode cX8_undo 15 = .ok (.iconst 1, 1) := by decide +kernel
theorem dX8_undo_16 : decode cX8_undo 16 = .ok (.isub, 1) := by decide +kernel
theorem dX8_undo_17 : decode cX8_undo 17 = .ok (.putfield 137, 3) := by decide +kernel
theorem dX8_undo_20 : decode cX8_undo 20 = .ok (.aload_n 0, 1) := by decide +kernel
theorem dX8_undo_21 : decode cX8_undo 21 = .ok (.getfield 16, 3) := by decide +kernel
theorem dX8_undo_24 : decode cX8_undo 24 = .ok (.iconst 0, 1) := by decide +kernel
theorem dX8_undo_25 : decode cX8_undo 25 = .ok (.aload_n 0, 1) := by decide +kernel
theorem dX8_undo_26 : decode cX8_undo 26 = .ok (.getfield 19, 3) := by decide +kernel
theorem dX8_undo_29 : decode cX8_undo 29 = .ok (.bipush 111, 2) := by decide +kernel
theorem dX8_undo_31 : decode cX8_undo 31 = .ok (.aload_n 0, 1) := by decide +kernel
theorem dX8_undo_32 : decode cX8_undo 32 = .ok (.getfield 137, 3) := by decide +kernel
theorem dX8_undo_35 : decode cX8_undo 35 = .ok (.imul, 1) := by decide +kernel
theorem dX8_undo_36 : decode cX8_undo 36 = .ok (.bipush 111, 2) := by decide +kernel
theorem dX8_undo_38 : decode cX8_undo 38 = .ok (.invokestatic 133, 3) := by decide +kernel
theorem dX8_undo_41 : decode cX8_undo 41 = .ok (.aload_n 0, 1) := by decide +kernel
theorem dX8_undo_42 : decode cX8_undo 42 = .ok (.getfield 137, 3) := by decide +kernel
theorem dX8_undo_45 : decode cX8_undo 45 = .ok (.ireturn, 1) := by decide +kernel
set_option maxRecDepth 20000 in
theorem ggX8_mate_X8_isPerson : GoodIn wsX8_mate wsX8_isPerson := goodIn_r _ [5, 6, 7, 8, 4, 9, 53, 54, 55, 56, 57, 58, 59, 60, 61, 62, 63, 64, 65, 66, 67, 68, 69, 70, 71, 72, 73, 74, 75, 76, 77, 78, 79] rfl (by decide +kernel)
set_option maxRecDepth 20000 in
theorem gX8_mate_X8_isPerson : GoodIn wsX8_mate (wsV RX8 174 RX8 yX8_isPerson wsX8_isPerson) := goodIn_app (goodIn_of _ (by decide +kernel)) ggX8_mate_X8_isPerson
set_option maxRecDepth 20000 in
theorem ggX8_mate_X8_in : GoodIn wsX8_mate wsX8_in := goodIn_r _ [9] rfl (by decide +kernel)
set_option maxRecDepth 20000 in
theorem gX8_mate_X8_in : GoodIn wsX8_mate (va_wsS RX8 83 yX8_in wsX8_in) := goodIn_app (goodIn_of _ (by decide +kernel)) ggX8_mate_X8_in
set_option maxRecDepth 20000 in
theorem ggX8_mate_X8_asItIs : GoodIn wsX8_mate wsX8_asItIs := goodIn_r _ [13, 14, 15, 16, 17, 4, 18, 53, 54, 55, 56, 57, 58, 59, 60, 61, 62, 63, 64, 65, 66, 67, 68, 69, 70, 71, 72, 73, 74, 75, 76, 77, 78, 79] rfl (by decide +kernel)
set_option maxRecDepth 20000 in
theorem gX8_mate_X8_asItIs : GoodIn wsX8_mate (wsV RX8 177 RX8 yX8_asItIs wsX8_asItIs) := goodIn_app (goodIn_of _ (by decide +kernel)) ggX8_mate_X8_asItIs
set_option maxRecDepth 20000 in
theorem ggX8_mate_X8_findHolds : GoodIn wsX8_mate wsX8_findHolds := goodIn_r _ [22, 23, 24, 25, 26, 27, 4, 28, 29, 30, 31, 32, 33, 34, 35, 36, 14, 37, 38, 39, 40, 41, 42, 43, 44, 45, 46, 47, 48, 53, 54, 55, 56, 57, 58, 59, 60, 61, 62, 63, 64, 65, 66, 67, 68, 69, 70, 71, 72, 73, 74, 75, 76, 77, 78, 79] rfl (by decide +kernel)
set_option maxRecDepth 20000 in
theorem gX8_mate_X8_findHolds : GoodIn wsX8_mate (wsV RX8 180 RX8 yX8_findHolds wsX8_findHolds) := goodIn_app (goodIn_of _ (by decide +kernel)) ggX8_mate_X8_findHolds
set_option maxRecDepth 20000 in
theorem ggX8_mate_X8_mateBy : GoodIn wsX8_mate wsX8_mateBy := goodIn_r _ [52, 23, 41, 42, 43, 4, 44, 14, 37, 38, 39, 40, 45, 46, 47, 48, 53, 54, 55, 56, 57, 58, 59, 60, 61, 62, 63, 64, 65, 66, 67, 68, 69, 70, 71, 72, 73, 74, 75, 76, 77, 78, 79] rfl (by decide +kernel)
set_option maxRecDepth 20000 in
theorem gX8_mate_X8_mateBy : GoodIn wsX8_mate (wsV RX8 164 RX8 yX8_mateBy wsX8_mateBy) := goodIn_app (goodIn_of _ (by decide +kernel)) ggX8_mate_X8_mateBy
theorem dX8_mate_0 : decode cX8_mate 0 = .ok (.aload_n 0, 1) := by decide +kernel
theorem dX8_mate_1 : decode cX8_mate 1 = .ok (.iload_n 1, 1) := by decide +kernel
theorem dX8_mate_2 : decode cX8_mate 2 = .ok (.invokevirtual 174, 3) := by decide +kernel
theorem dX8_mate_5 : decode cX8_mate 5 = .ok (.ifCond .eq 14, 3) := by decide +kernel
theorem dX8_mate_8 : decode cX8_mate 8 = .ok (.iload_n 2, 1) := by decide +kernel
theorem dX8_mate_9 : decode cX8_mate 9 = .ok (.iconst 0, 1) := by decide +kernel
theorem dX8_mate_10 : decode cX8_mate 10 = .ok (.sipush 999, 3) := by decide +kernel
theorem dX8_mate_13 : decode cX8_mate 13 = .ok (.invokestatic 83, 3) := by decide +kernel
theorem dX8_mate_16 : decode cX8_mate 16 = .ok (.ifCond .ne 5, 3) := by decide +kernel
theorem dX8_mate_19 : decode cX8_mate 19 = .ok (.iconst (-1), 1) := by decide +kernel
theorem dX8_mate_20 : decode cX8_mate 20 = .ok (.ireturn, 1) := by decide +kernel
theorem dX8_mate_21 : decode cX8_mate 21 = .ok (.aload_n 0, 1) := by decide +kernel
theorem dX8_mate_22 : decode cX8_mate 22 = .ok (.invokevirtual 177, 3) := by decide +kernel
theorem dX8_mate_25 : decode cX8_mate 25 = .ok (.aload_n 0, 1) := by decide +kernel
theorem dX8_mate_26 : decode cX8_mate 26 = .ok (.invokevirtual 180, 3) := by decide +kernel
theorem dX8_mate_29 : decode cX8_mate 29 = .ok (.aload_n 0, 1) := by decide +kernel
theorem dX8_mate_30 : decode cX8_mate 30 = .ok (.iload_n 1, 1) := by decide +kernel
theorem dX8_mate_31 : decode cX8_mate 31 = .ok (.iload_n 2, 1) := by decide +kernel
theorem dX8_mate_32 : decode cX8_mate 32 = .ok (.invokevirtual 164, 3) := by decide +kernel
theorem dX8_mate_35 : decode cX8_mate 35 = .ok (.ireturn, 1) := by decide +kernel
set_option maxRecDepth 20000 in
theorem ggX8_twice_X8_asItIs : GoodIn wsX8_twice wsX8_asItIs := goodIn_r _ [6, 7, 8, 9, 10, 5, 11, 32, 33, 34, 35, 36, 37, 38, 39, 40, 41, 42, 43, 44, 45, 46, 47, 48, 49, 50, 51, 52, 53, 54, 55, 56, 57, 58] rfl (by decide +kernel)
set_option maxRecDepth 20000 in
theorem gX8_twice_X8_asItIs : GoodIn wsX8_twice (wsV RX8 177 RX8 yX8_asItIs wsX8_asItIs) := goodIn_app (goodIn_of _ (by decide +kernel)) ggX8_twice_X8_asItIs
set_option maxRecDepth 20000 in
theorem ggX8_twice_X8_linesOf : GoodIn wsX8_twice wsX8_linesOf := goodIn_r _ [15, 16, 17, 18, 5, 19, 20, 21, 22, 23, 7, 24, 25, 26, 27, 28, 29, 30, 31, 32, 33, 34, 35, 36, 37, 38, 39, 40, 41, 42, 43, 44, 45, 46, 47, 48, 49, 50, 51, 52, 53, 54, 55, 56, 57, 58] rfl (by decide +kernel)
set_option maxRecDepth 20000 in
theorem gX8_twice_X8_linesOf : GoodIn wsX8_twice (wsV RX8 186 RX8 yX8_linesOf wsX8_linesOf) := goodIn_app (goodIn_of _ (by decide +kernel)) ggX8_twice_X8_linesOf
theorem dX8_twice_0 : decode cX8_twice 0 = .ok (.aload_n 0, 1) := by decide +kernel
theorem dX8_twice_1 : decode cX8_twice 1 = .ok (.invokevirtual 177, 3) := by decide +kernel
theorem dX8_twice_4 : decode cX8_twice 4 = .ok (.iconst 0, 1) := by decide +kernel
theorem dX8_twice_5 : decode cX8_twice 5 = .ok (.istore_n 1, 1) := by decide +kernel
theorem dX8_twice_6 : decode cX8_twice 6 = .ok (.iconst 0, 1) := by decide +kernel
theorem dX8_twice_7 : decode cX8_twice 7 = .ok (.istore_n 2, 1) := by decide +kernel
theorem dX8_twice_8 : decode cX8_twice 8 = .ok (.iload_n 2, 1) := by decide +kernel
theorem dX8_twice_9 : decode cX8_twice 9 = .ok (.aload_n 0, 1) := by decide +kernel
theorem dX8_twice_10 : decode cX8_twice 10 = .ok (.getfield 80, 3) := by decide +kernel
theorem dX8_twice_13 : decode cX8_twice 13 = .ok (.if_icmp .ge 28, 3) := by decide +kernel
theorem dX8_twice_16 : decode cX8_twice 16 = .ok (.iload_n 1, 1) := by decide +kernel
theorem dX8_twice_17 : decode cX8_twice 17 = .ok (.aload_n 0, 1) := by decide +kernel
theorem dX8_twice_18 : decode cX8_twice 18 = .ok (.iload_n 2, 1) := by decide +kernel
theorem dX8_twice_19 : decode cX8_twice 19 = .ok (.invokevirtual 186, 3) := by decide +kernel
theorem dX8_twice_22 : decode cX8_twice 22 = .ok (.iconst 1, 1) := by decide +kernel
theorem dX8_twice_23 : decode cX8_twice 23 = .ok (.if_icmp .le 9, 3) := by decide +kernel
theorem dX8_twice_26 : decode cX8_twice 26 = .ok (.iconst 1, 1) := by decide +kernel
theorem dX8_twice_27 : decode cX8_twice 27 = .ok (.iload_n 2, 1) := by decide +kernel
theorem dX8_twice_28 : decode cX8_twice 28 = .ok (.ishl, 1) := by decide +kernel
theorem dX8_twice_29 : decode cX8_twice 29 = .ok (.goto 4, 3) := by decide +kernel
theorem dX8_twice_32 : decode cX8_twice 32 = .ok (.iconst 0, 1) := by decide +kernel
theorem dX8_twice_33 : decode cX8_twice 33 = .ok (.ior, 1) := by decide +kernel
theorem dX8_twice_34 : decode cX8_twice 34 = .ok (.istore_n 1, 1) := by decide +kernel
theorem dX8_twice_35 : decode cX8_twice 35 = .ok (.iinc 2 1, 3) := by decide +kernel
theorem dX8_twice_38 : decode cX8_twice 38 = .ok (.goto (-30), 3) := by decide +kernel
theorem dX8_twice_41 : decode cX8_twice 41 = .ok (.iload_n 1, 1) := by decide +kernel
theorem dX8_twice_42 : decode cX8_twice 42 = .ok (.ireturn, 1) := by decide +kernel
set_option maxRecDepth 20000 in
theorem ggX8_falseOnes_X8_asItIs : GoodIn wsX8_falseOnes wsX8_asItIs := goodIn_r _ [6, 7, 8, 9, 10, 5, 11, 28, 29, 30, 31, 32, 33, 34, 35, 36, 37, 38, 39, 40, 41, 42, 43, 44, 45, 46, 47, 48, 49, 50, 51, 52, 53, 54] rfl (by decide +kernel)
set_option maxRecDepth 20000 in
theorem gX8_falseOnes_X8_asItIs : GoodIn wsX8_falseOnes (wsV RX8 177 RX8 yX8_asItIs wsX8_asItIs) := goodIn_app (goodIn_of _ (by decide +kernel)) ggX8_falseOnes_X8_asItIs
set_option maxRecDepth 20000 in
theorem ggX8_falseOnes_X8_isOfTwo : GoodIn wsX8_falseOnes wsX8_isOfTwo := goodIn_r _ [15, 16, 17, 18, 5, 19, 7, 20, 21, 22, 23, 28, 29, 30, 31, 32, 33, 34, 35, 36, 37, 38, 39, 40, 41, 42, 43, 44, 45, 46, 47, 48, 49, 50, 51, 52, 53, 54] rfl (by decide +kernel)
set_option maxRecDepth 20000 in
theorem gX8_falseOnes_X8_isOfTwo : GoodIn wsX8_falseOnes (wsV RX8 152 RX8 yX8_isOfTwo wsX8_isOfTwo) := goodIn_app (goodIn_of _ (by decide +kernel)) ggX8_falseOnes_X8_isOfTwo
set_option maxRecDepth 20000 in
theorem ggX8_falseOnes_X8_manOf : GoodIn wsX8_falseOnes wsX8_manOf := goodIn_r _ [23, 7, 28, 29, 30, 31, 32, 33, 34, 35, 36, 37, 38, 39, 40, 41, 42, 43, 44, 45, 46, 47, 48, 49, 50, 51, 52, 53, 54] rfl (by decide +kernel)
set_option maxRecDepth 20000 in
theorem gX8_falseOnes_X8_manOf : GoodIn wsX8_falseOnes (wsV RX8 149 RX8 yX8_manOf wsX8_manOf) := goodIn_app (goodIn_of _ (by decide +kernel)) ggX8_falseOnes_X8_manOf
set_option maxRecDepth 20000 in
theorem ggX8_falseOnes_X8_womanOf : GoodIn wsX8_falseOnes wsX8_womanOf := goodIn_r _ [27, 7, 28, 29, 30, 31, 32, 33, 34, 35, 36, 37, 38, 39, 40, 41, 42, 43, 44, 45, 46, 47, 48, 49, 50, 51, 52, 53, 54] rfl (by decide +kernel)
set_option maxRecDepth 20000 in
theorem gX8_falseOnes_X8_womanOf : GoodIn wsX8_falseOnes (wsV RX8 161 RX8 yX8_womanOf wsX8_womanOf) := goodIn_app (goodIn_of _ (by decide +kernel)) ggX8_falseOnes_X8_womanOf
theorem dX8_falseOnes_0 : decode cX8_falseOnes 0 = .ok (.aload_n 0, 1) := by decide +kernel
theorem dX8_falseOnes_1 : decode cX8_falseOnes 1 = .ok (.invokevirtual 177, 3) := by decide +kernel
theorem dX8_falseOnes_4 : decode cX8_falseOnes 4 = .ok (.iconst 0, 1) := by decide +kernel
theorem dX8_falseOnes_5 : decode cX8_falseOnes 5 = .ok (.istore_n 1, 1) := by decide +kernel
theorem dX8_falseOnes_6 : decode cX8_falseOnes 6 = .ok (.iconst 0, 1) := by decide +kernel
theorem dX8_falseOnes_7 : decode cX8_falseOnes 7 = .ok (.istore_n 2, 1) := by decide +kernel
theorem dX8_falseOnes_8 : decode cX8_falseOnes 8 = .ok (.iload_n 2, 1) := by decide +kernel
theorem dX8_falseOnes_9 : decode cX8_falseOnes 9 = .ok (.sipush 256, 3) := by decide +kernel
theorem dX8_falseOnes_12 : decode cX8_falseOnes 12 = .ok (.if_icmp .ge 24, 3) := by decide +kernel
theorem dX8_falseOnes_15 : decode cX8_falseOnes 15 = .ok (.aload_n 0, 1) := by decide +kernel
theorem dX8_falseOnes_16 : decode cX8_falseOnes 16 = .ok (.getfield 53, 3) := by decide +kernel
theorem dX8_falseOnes_19 : decode cX8_falseOnes 19 = .ok (.iload_n 2, 1) := by decide +kernel
theorem dX8_falseOnes_20 : decode cX8_falseOnes 20 = .ok (.iload_n 2, 1) := by decide +kernel
theorem dX8_falseOnes_21 : decode cX8_falseOnes 21 = .ok (.ifCond .ne 7, 3) := by decide +kernel
theorem dX8_falseOnes_24 : decode cX8_falseOnes 24 = .ok (.iconst 0, 1) := by decide +kernel
theorem dX8_falseOnes_25 : decode cX8_falseOnes 25 = .ok (.goto 4, 3) := by decide +kernel
theorem dX8_falseOnes_28 : decode cX8_falseOnes 28 = .ok (.iconst (-1), 1) := by decide +kernel
theorem dX8_falseOnes_29 : decode cX8_falseOnes 29 = .ok (.iastore, 1) := by decide +kernel
theorem dX8_falseOnes_30 : decode cX8_falseOnes 30 = .ok (.iinc 2 1, 3) := by decide +kernel
theorem dX8_falseOnes_33 : decode cX8_falseOnes 33 = .ok (.goto (-25), 3) := by decide +kernel
theorem dX8_falseOnes_36 : decode cX8_falseOnes 36 = .ok (.iconst 0, 1) := by decide +kernel
theorem dX8_falseOnes_37 : decode cX8_falseOnes 37 = .ok (.istore_n 2, 1) := by decide +kernel
theorem dX8_falseOnes_38 : decode cX8_falseOnes 38 = .ok (.iload_n 2, 1) := by decide +kernel
theorem dX8_falseOnes_39 : decode cX8_falseOnes 39 = .ok (.bipush 24, 2) := by decide +kernel
theorem dX8_falseOnes_41 : decode cX8_falseOnes 41 = .ok (.if_icmp .ge 120, 3) := by decide +kernel
theorem dX8_falseOnes_44 : decode cX8_falseOnes 44 = .ok (.aload_n 0, 1) := by decide +kernel
theorem dX8_falseOnes_45 : decode cX8_falseOnes 45 = .ok (.iload_n 2, 1) := by decide +kernel
theorem dX8_falseOnes_46 : decode cX8_falseOnes 46 = .ok (.invokevirtual 152, 3) := by decide +kernel
theorem dX8_falseOnes_49 : decode cX8_falseOnes 49 = .ok (.ifCond .eq 106, 3) := by decide +kernel
theorem dX8_falseOnes_52 : decode cX8_falseOnes 52 = .ok (.iinc 1 1, 3) := by decide +kernel
theorem dX8_falseOnes_55 : decode cX8_falseOnes 55 = .ok (.iconst 1, 1) := by decide +kernel
theorem dX8_falseOnes_56 : decode cX8_falseOnes 56 = .ok (.aload_n 0, 1) := by decide +kernel
theorem dX8_falseOnes_57 : decode cX8_falseOnes 57 = .ok (.iload_n 2, 1) := by decide +kernel
theorem dX8_falseOnes_58 : decode cX8_falseOnes 58 = .ok (.invokevirtual 149, 3) := by decide +kernel
theorem dX8_falseOnes_61 : decode cX8_falseOnes 61 = .ok (.ishl, 1) := by decide +kernel
theorem dX8_falseOnes_62 : decode cX8_falseOnes 62 = .ok (.iconst 1, 1) := by decide +kernel
theorem dX8_falseOnes_63 : decode cX8_falseOnes 63 = .ok (.aload_n 0, 1) := by decide +kernel
theorem dX8_falseOnes_64 : decode cX8_falseOnes 64 = .ok (.iload_n 2, 1) := by decide +kernel
theorem dX8_falseOnes_65 : decode cX8_falseOnes 65 = .ok (.invokevirtual 161, 3) := by decide +kernel
theorem dX8_falseOnes_68 : decode cX8_falseOnes 68 = .ok (.ishl, 1) := by decide +kernel
theorem dX8_falseOnes_69 : decode cX8_falseOnes 69 = .ok (.ior, 1) := by decide +kernel
theorem dX8_falseOnes_70 : decode cX8_falseOnes 70 = .ok (.istore_n 3, 1) := by decide +kernel
theorem dX8_falseOnes_71 : decode cX8_falseOnes 71 = .ok (.sipush 255, 3) := by decide +kernel
theorem dX8_falseOnes_74 : decode cX8_falseOnes 74 = .ok (.istore 4, 2) := by decide +kernel
theorem dX8_falseOnes_76 : decode cX8_falseOnes 76 = .ok (.iload 4, 2) := by decide +kernel
theorem dX8_falseOnes_78 : decode cX8_falseOnes 78 = .ok (.ifCond .lt 77, 3) := by decide +kernel
theorem dX8_falseOnes_81 : decode cX8_falseOnes 81 = .ok (.aload_n 0, 1) := by decide +kernel
theorem dX8_falseOnes_82 : decode cX8_falseOnes 82 = .ok (.getfield 53, 3) := by decide +kernel
theorem dX8_falseOnes_85 : decode cX8_falseOnes 85 = .ok (.iload 4, 2) := by decide +kernel
theorem dX8_falseOnes_87 : decode cX8_falseOnes 87 = .ok (.iaload, 1) := by decide +kernel
theorem dX8_falseOnes_88 : decode cX8_falseOnes 88 = .ok (.ifCond .lt 14, 3) := by decide +kernel
theorem dX8_falseOnes_91 : decode cX8_falseOnes 91 = .ok (.iload 4, 2) := by decide +kernel
theorem dX8_falseOnes_93 : decode cX8_falseOnes 93 = .ok (.iload_n 3, 1) := by decide +kernel
theorem dX8_falseOnes_94 : decode cX8_falseOnes 94 = .ok (.iand, 1) := by decide +kernel
theorem dX8_falseOnes_95 : decode cX8_falseOnes 95 = .ok (.ifCond .ne 7, 3) := by decide +kernel
theorem dX8_falseOnes_98 : decode cX8_falseOnes 98 = .ok (.iconst 1, 1) := by decide +kernel
theorem dX8_falseOnes_99 : decode cX8_falseOnes 99 = .ok (.goto 4, 3) := by decide +kernel
theorem dX8_falseOnes_102 : decode cX8_falseOnes 102 = .ok (.iconst 0, 1) := by decide +kernel
theorem dX8_falseOnes_103 : decode cX8_falseOnes 103 = .ok (.istore 5, 2) := by decide +kernel
theorem dX8_falseOnes_105 : decode cX8_falseOnes 105 = .ok (.iload 5, 2) := by decide +kernel
theorem dX8_falseOnes_107 : decode cX8_falseOnes 107 = .ok (.ifCond .eq 42, 3) := by decide +kernel
theorem dX8_falseOnes_110 : decode cX8_falseOnes 110 = .ok (.aload_n 0, 1) := by decide +kernel
theorem dX8_falseOnes_111 : decode cX8_falseOnes 111 = .ok (.getfield 53, 3) := by decide +kernel
theorem dX8_falseOnes_114 : decode cX8_falseOnes 114 = .ok (.iload 4, 2) := by decide +kernel
theorem dX8_falseOnes_116 : decode cX8_falseOnes 116 = .ok (.iaload, 1) := by decide +kernel
theorem dX8_falseOnes_117 : decode cX8_falseOnes 117 = .ok (.iconst 1, 1) := by decide +kernel
theorem dX8_falseOnes_118 : decode cX8_falseOnes 118 = .ok (.iadd, 1) := by decide +kernel
theorem dX8_falseOnes_119 : decode cX8_falseOnes 119 = .ok (.aload_n 0, 1) := by decide +kernel
theorem dX8_falseOnes_120 : decode cX8_falseOnes 120 = .ok (.getfield 53, 3) := by decide +kernel
theorem dX8_falseOnes_123 : decode cX8_falseOnes 123 = .ok (.iload 4, 2) := by decide +kernel
theorem dX8_falseOnes_125 : decode cX8_falseOnes 125 = .ok (.iload_n 3, 1) := by decide +kernel
theorem dX8_falseOnes_126 : decode cX8_falseOnes 126 = .ok (.ior, 1) := by decide +kernel
theorem dX8_falseOnes_127 : decode cX8_falseOnes 127 = .ok (.iaload, 1) := by decide +kernel
theorem dX8_falseOnes_128 : decode cX8_falseOnes 128 = .ok (.if_icmp .le 21, 3) := by decide +kernel
theorem dX8_falseOnes_131 : decode cX8_falseOnes 131 = .ok (.aload_n 0, 1) := by decide +kernel
theorem dX8_falseOnes_132 : decode cX8_falseOnes 132 = .ok (.getfield 53, 3) := by decide +kernel
theorem dX8_falseOnes_135 : decode cX8_falseOnes 135 = .ok (.iload 4, 2) := by decide +kernel
theorem dX8_falseOnes_137 : decode cX8_falseOnes 137 = .ok (.iload_n 3, 1) := by decide +kernel
theorem dX8_falseOnes_138 : decode cX8_falseOnes 138 = .ok (.ior, 1) := by decide +kernel
theorem dX8_falseOnes_139 : decode cX8_falseOnes 139 = .ok (.aload_n 0, 1) := by decide +kernel
theorem dX8_falseOnes_140 : decode cX8_falseOnes 140 = .ok (.getfield 53, 3) := by decide +kernel
theorem dX8_falseOnes_143 : decode cX8_falseOnes 143 = .ok (.iload 4, 2) := by decide +kernel
theorem dX8_falseOnes_145 : decode cX8_falseOnes 145 = .ok (.iaload, 1) := by decide +kernel
theorem dX8_falseOnes_146 : decode cX8_falseOnes 146 = .ok (.iconst 1, 1) := by decide +kernel
theorem dX8_falseOnes_147 : decode cX8_falseOnes 147 = .ok (.iadd, 1) := by decide +kernel
theorem dX8_falseOnes_148 : decode cX8_falseOnes 148 = .ok (.iastore, 1) := by decide +kernel
theorem dX8_falseOnes_149 : decode cX8_falseOnes 149 = .ok (.iinc 4 (-1), 3) := by decide +kernel
theorem dX8_falseOnes_152 : decode cX8_falseOnes 152 = .ok (.goto (-76), 3) := by decide +kernel
theorem dX8_falseOnes_155 : decode cX8_falseOnes 155 = .ok (.iinc 2 1, 3) := by decide +kernel
theorem dX8_falseOnes_158 : decode cX8_falseOnes 158 = .ok (.goto (-120), 3) := by decide +kernel
theorem dX8_falseOnes_161 : decode cX8_falseOnes 161 = .ok (.iconst 0, 1) := by decide +kernel
theorem dX8_falseOnes_162 : decode cX8_falseOnes 162 = .ok (.istore_n 2, 1) := by decide +kernel
theorem dX8_falseOnes_163 : decode cX8_falseOnes 163 = .ok (.iconst 0, 1) := by decide +kernel
theorem dX8_falseOnes_164 : decode cX8_falseOnes 164 = .ok (.istore_n 3, 1) := by decide +kernel
theorem dX8_falseOnes_165 : decode cX8_falseOnes 165 = .ok (.iload_n 3, 1) := by decide +kernel
theorem dX8_falseOnes_166 : decode cX8_falseOnes 166 = .ok (.sipush 256, 3) := by decide +kernel
theorem dX8_falseOnes_169 : decode cX8_falseOnes 169 = .ok (.if_icmp .ge 30, 3) := by decide +kernel
theorem dX8_falseOnes_172 : decode cX8_falseOnes 172 = .ok (.aload_n 0, 1) := by decide +kernel
theorem dX8_falseOnes_173 : decode cX8_falseOnes 173 = .ok (.getfield 53, 3) := by decide +kernel
theorem dX8_falseOnes_176 : decode cX8_falseOnes 176 = .ok (.iload_n 3, 1) := by decide +kernel
theorem dX8_falseOnes_177 : decode cX8_falseOnes 177 = .ok (.iaload, 1) := by decide +kernel
theorem dX8_falseOnes_178 : decode cX8_falseOnes 178 = .ok (.iload_n 2, 1) := by decide +kernel
theorem dX8_falseOnes_179 : decode cX8_falseOnes 179 = .ok (.if_icmp .le 12, 3) := by decide +kernel
theorem dX8_falseOnes_182 : decode cX8_falseOnes 182 = .ok (.aload_n 0, 1) := by decide +kernel
theorem dX8_falseOnes_183 : decode cX8_falseOnes 183 = .ok (.getfield 53, 3) := by decide +kernel
theorem dX8_falseOnes_186 : decode cX8_falseOnes 186 = .ok (.iload_n 3, 1) := by decide +kernel
theorem dX8_falseOnes_187 : decode cX8_falseOnes 187 = .ok (.iaload, 1) := by decide +kernel
theorem dX8_falseOnes_188 : decode cX8_falseOnes 188 = .ok (.goto 4, 3) := by decide +kernel
theorem dX8_falseOnes_191 : decode cX8_falseOnes 191 = .ok (.iload_n 2, 1) := by decide +kernel
theorem dX8_falseOnes_192 : decode cX8_falseOnes 192 = .ok (.istore_n 2, 1) := by decide +kernel
theorem dX8_falseOnes_193 : decode cX8_falseOnes 193 = .ok (.iinc 3 1, 3) := by decide +kernel
theorem dX8_falseOnes_196 : decode cX8_falseOnes 196 = .ok (.goto (-31), 3) := by decide +kernel
theorem dX8_falseOnes_199 : decode cX8_falseOnes 199 = .ok (.iload_n 1, 1) := by decide +kernel
theorem dX8_falseOnes_200 : decode cX8_falseOnes 200 = .ok (.iload_n 2, 1) := by decide +kernel
theorem dX8_falseOnes_201 : decode cX8_falseOnes 201 = .ok (.isub, 1) := by decide +kernel
theorem dX8_falseOnes_202 : decode cX8_falseOnes 202 = .ok (.ireturn, 1) := by decide +kernel
set_option maxRecDepth 20000 in
theorem ggX8_date_X8_isParson : GoodIn wsX8_date wsX8_isParson := goodIn_r _ [7, 8, 9, 10, 6, 11, 45, 46, 47, 48, 49, 50, 51, 52, 53, 54, 55, 56, 57, 58, 59, 60, 61, 62, 63, 64, 65, 66, 67, 68, 69, 70, 71] rfl (by decide +kernel)
set_option maxRecDepth 20000 in
theorem gX8_date_X8_isParson : GoodIn wsX8_date (wsV RX8 90 RX8 yX8_isParson wsX8_isParson) := goodIn_app (goodIn_of _ (by decide +kernel)) ggX8_date_X8_isParson
set_option maxRecDepth 20000 in
theorem ggX8_date_X8_in : GoodIn wsX8_date wsX8_in := goodIn_r _ [11] rfl (by decide +kernel)
set_option maxRecDepth 20000 in
theorem gX8_date_X8_in : GoodIn wsX8_date (va_wsS RX8 83 yX8_in wsX8_in) := goodIn_app (goodIn_of _ (by decide +kernel)) ggX8_date_X8_in
set_option maxRecDepth 20000 in
theorem ggX8_date_X8_asItIs : GoodIn wsX8_date wsX8_asItIs := goodIn_r _ [15, 16, 2, 17, 18, 6, 19, 45, 46, 47, 48, 49, 50, 51, 52, 53, 54, 55, 56, 57, 58, 59, 60, 61, 62, 63, 64, 65, 66, 67, 68, 69, 70, 71] rfl (by decide +kernel)
set_option maxRecDepth 20000 in
theorem gX8_date_X8_asItIs : GoodIn wsX8_date (wsV RX8 177 RX8 yX8_asItIs wsX8_asItIs) := goodIn_app (goodIn_of _ (by decide +kernel)) ggX8_date_X8_asItIs
set_option maxRecDepth 20000 in
theorem ggX8_date_X8_isBlank : GoodIn wsX8_date wsX8_isBlank := goodIn_r _ [23, 24, 25, 26, 6, 27, 16, 28, 29, 30, 31, 45, 46, 47, 48, 49, 50, 51, 52, 53, 54, 55, 56, 57, 58, 59, 60, 61, 62, 63, 64, 65, 66, 67, 68, 69, 70, 71] rfl (by decide +kernel)
set_option maxRecDepth 20000 in
theorem gX8_date_X8_isBlank : GoodIn wsX8_date (wsV RX8 189 RX8 yX8_isBlank wsX8_isBlank) := goodIn_app (goodIn_of _ (by decide +kernel)) ggX8_date_X8_isBlank
set_option maxRecDepth 20000 in
theorem ggX8_date_X8_begun : GoodIn wsX8_date wsX8_begun := goodIn_r _ [35, 16, 45, 46, 47, 48, 49, 50, 51, 52, 53, 54, 55, 56, 57, 58, 59, 60, 61, 62, 63, 64, 65, 66, 67, 68, 69, 70, 71] rfl (by decide +kernel)
set_option maxRecDepth 20000 in
theorem gX8_date_X8_begun : GoodIn wsX8_date (wsV RX8 155 RX8 yX8_begun wsX8_begun) := goodIn_app (goodIn_of _ (by decide +kernel)) ggX8_date_X8_begun
set_option maxRecDepth 20000 in
theorem ggX8_date_X8_costOf : GoodIn wsX8_date wsX8_costOf := goodIn_r _ [39, 16, 1, 32, 33, 34, 6, 35, 45, 46, 47, 48, 49, 50, 51, 52, 53, 54, 55, 56, 57, 58, 59, 60, 61, 62, 63, 64, 65, 66, 67, 68, 69, 70, 71] rfl (by decide +kernel)
set_option maxRecDepth 20000 in
theorem gX8_date_X8_costOf : GoodIn wsX8_date (wsV RX8 236 RX8 yX8_costOf wsX8_costOf) := goodIn_app (goodIn_of _ (by decide +kernel)) ggX8_date_X8_costOf
set_option maxRecDepth 20000 in
theorem ggX8_date_X8_isLaw : GoodIn wsX8_date wsX8_isLaw := goodIn_r _ [43, 16, 44, 45, 46, 47, 48, 49, 50, 51, 52, 53, 54, 55, 56, 57, 58, 59, 60, 61, 62, 63, 64, 65, 66, 67, 68, 69, 70, 71] rfl (by decide +kernel)
set_option maxRecDepth 20000 in
theorem gX8_date_X8_isLaw : GoodIn wsX8_date (wsV RX8 208 RX8 yX8_isLaw wsX8_isLaw) := goodIn_app (goodIn_of _ (by decide +kernel)) ggX8_date_X8_isLaw
theorem dX8_date_0 : decode cX8_date 0 = .ok (.aload_n 0, 1) := by decide +kernel
theorem dX8_date_1 : decode cX8_date 1 = .ok (.iload_n 1, 1) := by decide +kernel
theorem dX8_date_2 : decode cX8_date 2 = .ok (.invokevirtual 90, 3) := by decide +kernel
theorem dX8_date_5 : decode cX8_date 5 = .ok (.ifCond .eq 23, 3) := by decide +kernel
theorem dX8_date_8 : decode cX8_date 8 = .ok (.iload_n 2, 1) := by decide +kernel
theorem dX8_date_9 : decode cX8_date 9 = .ok (.iconst 0, 1) := by decide +kernel
theorem dX8_date_10 : decode cX8_date 10 = .ok (.sipush 999, 3) := by decide +kernel
theorem dX8_date_13 : decode cX8_date 13 = .ok (.invokestatic 83, 3) := by decide +kernel
theorem dX8_date_16 : decode cX8_date 16 = .ok (.ifCond .eq 12, 3) := by decide +kernel
theorem dX8_date_19 : decode cX8_date 19 = .ok (.iload_n 3, 1) := by decide +kernel
theorem dX8_date_20 : decode cX8_date 20 = .ok (.iconst 0, 1) := by decide +kernel
theorem dX8_date_21 : decode cX8_date 21 = .ok (.iconst 1, 1) := by decide +kernel
theorem dX8_date_22 : decode cX8_date 22 = .ok (.invokestatic 83, 3) := by decide +kernel
theorem dX8_date_25 : decode cX8_date 25 = .ok (.ifCond .ne 5, 3) := by decide +kernel
theorem dX8_date_28 : decode cX8_date 28 = .ok (.iconst (-1), 1) := by decide +kernel
theorem dX8_date_29 : decode cX8_date 29 = .ok (.ireturn, 1) := by decide +kernel
theorem dX8_date_30 : decode cX8_date 30 = .ok (.aload_n 0, 1) := by decide +kernel
theorem dX8_date_31 : decode cX8_date 31 = .ok (.invokevirtual 177, 3) := by decide +kernel
theorem dX8_date_34 : decode cX8_date 34 = .ok (.bipush (-4), 2) := by decide +kernel
theorem dX8_date_36 : decode cX8_date 36 = .ok (.istore 4, 2) := by decide +kernel
theorem dX8_date_38 : decode cX8_date 38 = .ok (.bipush (-4), 2) := by decide +kernel
theorem dX8_date_40 : decode cX8_date 40 = .ok (.istore 5, 2) := by decide +kernel
theorem dX8_date_42 : decode cX8_date 42 = .ok (.iconst 0, 1) := by decide +kernel
theorem dX8_date_43 : decode cX8_date 43 = .ok (.istore 6, 2) := by decide +kernel
theorem dX8_date_45 : decode cX8_date 45 = .ok (.iload 6, 2) := by decide +kernel
theorem dX8_date_47 : decode cX8_date 47 = .ok (.bipush 8, 2) := by decide +kernel
theorem dX8_date_49 : decode cX8_date 49 = .ok (.if_icmp .ge 92, 3) := by decide +kernel
theorem dX8_date_52 : decode cX8_date 52 = .ok (.bipush 8, 2) := by decide +kernel
theorem dX8_date_54 : decode cX8_date 54 = .ok (.iload_n 1, 1) := by decide +kernel
theorem dX8_date_55 : decode cX8_date 55 = .ok (.imul, 1) := by decide +kernel
theorem dX8_date_56 : decode cX8_date 56 = .ok (.iload 6, 2) := by decide +kernel
theorem dX8_date_58 : decode cX8_date 58 = .ok (.iadd, 1) := by decide +kernel
theorem dX8_date_59 : decode cX8_date 59 = .ok (.istore 7, 2) := by decide +kernel
theorem dX8_date_61 : decode cX8_date 61 = .ok (.aload_n 0, 1) := by decide +kernel
theorem dX8_date_62 : decode cX8_date 62 = .ok (.iload 7, 2) := by decide +kernel
theorem dX8_date_64 : decode cX8_date 64 = .ok (.invokevirtual 189, 3) := by decide +kernel
theorem dX8_date_67 : decode cX8_date 67 = .ok (.ifCond .eq 33, 3) := by decide +kernel
theorem dX8_date_70 : decode cX8_date 70 = .ok (.aload_n 0, 1) := by decide +kernel
theorem dX8_date_71 : decode cX8_date 71 = .ok (.iload 7, 2) := by decide +kernel
theorem dX8_date_73 : decode cX8_date 73 = .ok (.invokevirtual 155, 3) := by decide +kernel
theorem dX8_date_76 : decode cX8_date 76 = .ok (.iload_n 2, 1) := by decide +kernel
theorem dX8_date_77 : decode cX8_date 77 = .ok (.if_icmp .gt 23, 3) := by decide +kernel
theorem dX8_date_80 : decode cX8_date 80 = .ok (.iload 4, 2) := by decide +kernel
theorem dX8_date_82 : decode cX8_date 82 = .ok (.ifCond .lt 14, 3) := by decide +kernel
theorem dX8_date_85 : decode cX8_date 85 = .ok (.aload_n 0, 1) := by decide +kernel
theorem dX8_date_86 : decode cX8_date 86 = .ok (.iload 7, 2) := by decide +kernel
theorem dX8_date_88 : decode cX8_date 88 = .ok (.invokevirtual 236, 3) := by decide +kernel
theorem dX8_date_91 : decode cX8_date 91 = .ok (.iload 4, 2) := by decide +kernel
theorem dX8_date_93 : decode cX8_date 93 = .ok (.if_icmp .ge 7, 3) := by decide +kernel
theorem dX8_date_96 : decode cX8_date 96 = .ok (.iconst 1, 1) := by decide +kernel
theorem dX8_date_97 : decode cX8_date 97 = .ok (.goto 4, 3) := by decide +kernel
theorem dX8_date_100 : decode cX8_date 100 = .ok (.iconst 0, 1) := by decide +kernel
theorem dX8_date_101 : decode cX8_date 101 = .ok (.istore 8, 2) := by decide +kernel
theorem dX8_date_103 : decode cX8_date 103 = .ok (.iload 8, 2) := by decide +kernel
theorem dX8_date_105 : decode cX8_date 105 = .ok (.ifCond .eq 8, 3) := by decide +kernel
theorem dX8_date_108 : decode cX8_date 108 = .ok (.iload 6, 2) := by decide +kernel
theorem dX8_date_110 : decode cX8_date 110 = .ok (.goto 5, 3) := by decide +kernel
theorem dX8_date_113 : decode cX8_date 113 = .ok (.iload 5, 2) := by decide +kernel
theorem dX8_date_115 : decode cX8_date 115 = .ok (.istore 5, 2) := by decide +kernel
theorem dX8_date_117 : decode cX8_date 117 = .ok (.iload 8, 2) := by decide +kernel
theorem dX8_date_119 : decode cX8_date 119 = .ok (.ifCond .eq 12, 3) := by decide +kernel
theorem dX8_date_122 : decode cX8_date 122 = .ok (.aload_n 0, 1) := by decide +kernel
theorem dX8_date_123 : decode cX8_date 123 = .ok (.iload 7, 2) := by decide +kernel
theorem dX8_date_125 : decode cX8_date 125 = .ok (.invokevirtual 236, 3) := by decide +kernel
theorem dX8_date_128 : decode cX8_date 128 = .ok (.goto 5, 3) := by decide +kernel
theorem dX8_date_131 : decode cX8_date 131 = .ok (.iload 4, 2) := by decide +kernel
theorem dX8_date_133 : decode cX8_date 133 = .ok (.istore 4, 2) := by decide +kernel
theorem dX8_date_135 : decode cX8_date 135 = .ok (.iinc 6 1, 3) := by decide +kernel
theorem dX8_date_138 : decode cX8_date 138 = .ok (.goto (-93), 3) := by decide +kernel
theorem dX8_date_141 : decode cX8_date 141 = .ok (.aload_n 0, 1) := by decide +kernel
theorem dX8_date_142 : decode cX8_date 142 = .ok (.getfield 13, 3) := by decide +kernel
theorem dX8_date_145 : decode cX8_date 145 = .ok (.iconst 2, 1) := by decide +kernel
theorem dX8_date_146 : decode cX8_date 146 = .ok (.iload_n 1, 1) := by decide +kernel
theorem dX8_date_147 : decode cX8_date 147 = .ok (.imul, 1) := by decide +kernel
theorem dX8_date_148 : decode cX8_date 148 = .ok (.iconst 1, 1) := by decide +kernel
theorem dX8_date_149 : decode cX8_date 149 = .ok (.iadd, 1) := by decide +kernel
theorem dX8_date_150 : decode cX8_date 150 = .ok (.iaload, 1) := by decide +kernel
theorem dX8_date_151 : decode cX8_date 151 = .ok (.istore 6, 2) := by decide +kernel
theorem dX8_date_153 : decode cX8_date 153 = .ok (.aload_n 0, 1) := by decide +kernel
theorem dX8_date_154 : decode cX8_date 154 = .ok (.getfield 16, 3) := by decide +kernel
theorem dX8_date_157 : decode cX8_date 157 = .ok (.iconst 0, 1) := by decide +kernel
theorem dX8_date_158 : decode cX8_date 158 = .ok (.iaload, 1) := by decide +kernel
theorem dX8_date_159 : decode cX8_date 159 = .ok (.iload_n 2, 1) := by decide +kernel
theorem dX8_date_160 : decode cX8_date 160 = .ok (.if_icmp .gt 40, 3) := by decide +kernel
theorem dX8_date_163 : decode cX8_date 163 = .ok (.aload_n 0, 1) := by decide +kernel
theorem dX8_date_164 : decode cX8_date 164 = .ok (.invokevirtual 208, 3) := by decide +kernel
theorem dX8_date_167 : decode cX8_date 167 = .ok (.ifCond .ne 33, 3) := by decide +kernel
theorem dX8_date_170 : decode cX8_date 170 = .ok (.aload_n 0, 1) := by decide +kernel
theorem dX8_date_171 : decode cX8_date 171 = .ok (.getfield 16, 3) := by decide +kernel
theorem dX8_date_174 : decode cX8_date 174 = .ok (.bipush 12, 2) := by decide +kernel
theorem dX8_date_176 : decode cX8_date 176 = .ok (.iload_n 1, 1) := by decide +kernel
theorem dX8_date_177 : decode cX8_date 177 = .ok (.iadd, 1) := by decide +kernel
theorem dX8_date_178 : decode cX8_date 178 = .ok (.iaload, 1) := by decide +kernel
theorem dX8_date_179 : decode cX8_date 179 = .ok (.bipush 8, 2) := by decide +kernel
theorem dX8_date_181 : decode cX8_date 181 = .ok (.if_icmp .ge 19, 3) := by decide +kernel
theorem dX8_date_184 : decode cX8_date 184 = .ok (.iload 4, 2) := by decide +kernel
theorem dX8_date_186 : decode cX8_date 186 = .ok (.ifCond .lt 10, 3) := by decide +kernel
theorem dX8_date_189 : decode cX8_date 189 = .ok (.iload 6, 2) := by decide +kernel
theorem dX8_date_191 : decode cX8_date 191 = .ok (.iload 4, 2) := by decide +kernel
theorem dX8_date_193 : decode cX8_date 193 = .ok (.if_icmp .ge 7, 3) := by decide +kernel
theorem dX8_date_196 : decode cX8_date 196 = .ok (.iconst 1, 1) := by decide +kernel
theorem dX8_date_197 : decode cX8_date 197 = .ok (.goto 4, 3) := by decide +kernel
theorem dX8_date_200 : decode cX8_date 200 = .ok (.iconst 0, 1) := by decide +kernel
theorem dX8_date_201 : decode cX8_date 201 = .ok (.istore 7, 2) := by decide +kernel
theorem dX8_date_203 : decode cX8_date 203 = .ok (.iload_n 3, 1) := by decide +kernel
theorem dX8_date_204 : decode cX8_date 204 = .ok (.ifCond .ne 18, 3) := by decide +kernel
theorem dX8_date_207 : decode cX8_date 207 = .ok (.iload 7, 2) := by decide +kernel
theorem dX8_date_209 : decode cX8_date 209 = .ok (.ifCond .eq 8, 3) := by decide +kernel
theorem dX8_date_212 : decode cX8_date 212 = .ok (.iload 6, 2) := by decide +kernel
theorem dX8_date_214 : decode cX8_date 214 = .ok (.goto 20, 3) := by decide +kernel
theorem dX8_date_217 : decode cX8_date 217 = .ok (.iload 4, 2) := by decide +kernel
theorem dX8_date_219 : decode cX8_date 219 = .ok (.goto 15, 3) := by decide +kernel
theorem dX8_date_222 : decode cX8_date 222 = .ok (.iload 7, 2) := by decide +kernel
theorem dX8_date_224 : decode cX8_date 224 = .ok (.ifCond .eq 8, 3) := by decide +kernel
theorem dX8_date_227 : decode cX8_date 227 = .ok (.bipush 8, 2) := by decide +kernel
theorem dX8_date_229 : decode cX8_date 229 = .ok (.goto 5, 3) := by decide +kernel
theorem dX8_date_232 : decode cX8_date 232 = .ok (.iload 5, 2) := by decide +kernel
theorem dX8_date_234 : decode cX8_date 234 = .ok (.ireturn, 1) := by decide +kernel
set_option maxRecDepth 20000 in
theorem ggX8_look_X8_in : GoodIn wsX8_look wsX8_in := goodIn_r _ [6] rfl (by decide +kernel)
set_option maxRecDepth 20000 in
theorem gX8_look_X8_in : GoodIn wsX8_look (va_wsS RX8 83 yX8_in wsX8_in) := goodIn_app (goodIn_of _ (by decide +kernel)) ggX8_look_X8_in
set_option maxRecDepth 20000 in
theorem ggX8_look_X8_asItIs : GoodIn wsX8_look wsX8_asItIs := goodIn_r _ [10, 11, 12, 13, 14, 5, 15, 45, 46, 47, 48, 49, 50, 51, 52, 53, 54, 55, 56, 57, 58, 59, 60, 61, 62, 63, 64, 65, 66, 67, 68, 69, 70, 71] rfl (by decide +kernel)
set_option maxRecDepth 20000 in
theorem gX8_look_X8_asItIs : GoodIn wsX8_look (wsV RX8 177 RX8 yX8_asItIs wsX8_asItIs) := goodIn_app (goodIn_of _ (by decide +kernel)) ggX8_look_X8_asItIs
set_option maxRecDepth 20000 in
theorem ggX8_look_X8_findHolds : GoodIn wsX8_look wsX8_findHolds := goodIn_r _ [19, 2, 20, 21, 22, 23, 5, 24, 25, 26, 27, 28, 29, 30, 31, 32, 11, 33, 34, 35, 36, 37, 38, 39, 40, 41, 42, 43, 44, 45, 46, 47, 48, 49, 50, 51, 52, 53, 54, 55, 56, 57, 58, 59, 60, 61, 62, 63, 64, 65, 66, 67, 68, 69, 70, 71] rfl (by decide +kernel)
set_option maxRecDepth 20000 in
theorem gX8_look_X8_findHolds : GoodIn wsX8_look (wsV RX8 180 RX8 yX8_findHolds wsX8_findHolds) := goodIn_app (goodIn_of _ (by decide +kernel)) ggX8_look_X8_findHolds
theorem dX8_look_0 : decode cX8_look 0 = .ok (.iload_n 1, 1) := by decide +kernel
theorem dX8_look_1 : decode cX8_look 1 = .ok (.iconst 0, 1) := by decide +kernel
theorem dX8_look_2 : decode cX8_look 2 = .ok (.iconst 1, 1) := by decide +kernel
theorem dX8_look_3 : decode cX8_look 3 = .ok (.invokestatic 83, 3) := by decide +kernel
theorem dX8_look_6 : decode cX8_look 6 = .ok (.ifCond .ne 5, 3) := by decide +kernel
theorem dX8_look_9 : decode cX8_look 9 = .ok (.iconst (-1), 1) := by decide +kernel
theorem dX8_look_10 : decode cX8_look 10 = .ok (.ireturn, 1) := by decide +kernel
theorem dX8_look_11 : decode cX8_look 11 = .ok (.aload_n 0, 1) := by decide +kernel
theorem dX8_look_12 : decode cX8_look 12 = .ok (.invokevirtual 177, 3) := by decide +kernel
theorem dX8_look_15 : decode cX8_look 15 = .ok (.aload_n 0, 1) := by decide +kernel
theorem dX8_look_16 : decode cX8_look 16 = .ok (.invokevirtual 180, 3) := by decide +kernel
theorem dX8_look_19 : decode cX8_look 19 = .ok (.iconst 0, 1) := by decide +kernel
theorem dX8_look_20 : decode cX8_look 20 = .ok (.istore_n 2, 1) := by decide +kernel
theorem dX8_look_21 : decode cX8_look 21 = .ok (.iconst 0, 1) := by decide +kernel
theorem dX8_look_22 : decode cX8_look 22 = .ok (.istore_n 3, 1) := by decide +kernel
theorem dX8_look_23 : decode cX8_look 23 = .ok (.iconst 0, 1) := by decide +kernel
theorem dX8_look_24 : decode cX8_look 24 = .ok (.istore 4, 2) := by decide +kernel
theorem dX8_look_26 : decode cX8_look 26 = .ok (.iload 4, 2) := by decide +kernel
theorem dX8_look_28 : decode cX8_look 28 = .ok (.aload_n 0, 1) := by decide +kernel
theorem dX8_look_29 : decode cX8_look 29 = .ok (.getfield 87, 3) := by decide +kernel
theorem dX8_look_32 : decode cX8_look 32 = .ok (.if_icmp .ge 85, 3) := by decide +kernel
theorem dX8_look_35 : decode cX8_look 35 = .ok (.iconst 0, 1) := by decide +kernel
theorem dX8_look_36 : decode cX8_look 36 = .ok (.istore 5, 2) := by decide +kernel
theorem dX8_look_38 : decode cX8_look 38 = .ok (.iconst 0, 1) := by decide +kernel
theorem dX8_look_39 : decode cX8_look 39 = .ok (.istore 6, 2) := by decide +kernel
theorem dX8_look_41 : decode cX8_look 41 = .ok (.iload 6, 2) := by decide +kernel
theorem dX8_look_43 : decode cX8_look 43 = .ok (.bipush 8, 2) := by decide +kernel
theorem dX8_look_45 : decode cX8_look 45 = .ok (.if_icmp .ge 37, 3) := by decide +kernel
theorem dX8_look_48 : decode cX8_look 48 = .ok (.iload 5, 2) := by decide +kernel
theorem dX8_look_50 : decode cX8_look 50 = .ok (.ifCond .ne 19, 3) := by decide +kernel
theorem dX8_look_53 : decode cX8_look 53 = .ok (.aload_n 0, 1) := by decide +kernel
theorem dX8_look_54 : decode cX8_look 54 = .ok (.getfield 46, 3) := by decide +kernel
theorem dX8_look_57 : decode cX8_look 57 = .ok (.bipush 8, 2) := by decide +kernel
theorem dX8_look_59 : decode cX8_look 59 = .ok (.iload 4, 2) := by decide +kernel
theorem dX8_look_61 : decode cX8_look 61 = .ok (.imul, 1) := by decide +kernel
theorem dX8_look_62 : decode cX8_look 62 = .ok (.iload 6, 2) := by decide +kernel
theorem dX8_look_64 : decode cX8_look 64 = .ok (.iadd, 1) := by decide +kernel
theorem dX8_look_65 : decode cX8_look 65 = .ok (.baload, 1) := by decide +kernel
theorem dX8_look_66 : decode cX8_look 66 = .ok (.ifCond .eq 7, 3) := by decide +kernel
theorem dX8_look_69 : decode cX8_look 69 = .ok (.iconst 1, 1) := by decide +kernel
theorem dX8_look_70 : decode cX8_look 70 = .ok (.goto 4, 3) := by decide +kernel
theorem dX8_look_73 : decode cX8_look 73 = .ok (.iconst 0, 1) := by decide +kernel
theorem dX8_look_74 : decode cX8_look 74 = .ok (.istore 5, 2) := by decide +kernel
theorem dX8_look_76 : decode cX8_look 76 = .ok (.iinc 6 1, 3) := by decide +kernel
theorem dX8_look_79 : decode cX8_look 79 = .ok (.goto (-38), 3) := by decide +kernel
theorem dX8_look_82 : decode cX8_look 82 = .ok (.iload_n 2, 1) := by decide +kernel
theorem dX8_look_83 : decode cX8_look 83 = .ok (.iload 5, 2) := by decide +kernel
theorem dX8_look_85 : decode cX8_look 85 = .ok (.ifCond .eq 7, 3) := by decide +kernel
theorem dX8_look_88 : decode cX8_look 88 = .ok (.iconst 1, 1) := by decide +kernel
theorem dX8_look_89 : decode cX8_look 89 = .ok (.goto 4, 3) := by decide +kernel
theorem dX8_look_92 : decode cX8_look 92 = .ok (.iconst 0, 1) := by decide +kernel
theorem dX8_look_93 : decode cX8_look 93 = .ok (.iadd, 1) := by decide +kernel
theorem dX8_look_94 : decode cX8_look 94 = .ok (.istore_n 2, 1) := by decide +kernel
theorem dX8_look_95 : decode cX8_look 95 = .ok (.iload_n 3, 1) := by decide +kernel
theorem dX8_look_96 : decode cX8_look 96 = .ok (.iload 5, 2) := by decide +kernel
theorem dX8_look_98 : decode cX8_look 98 = .ok (.ifCond .eq 10, 3) := by decide +kernel
theorem dX8_look_101 : decode cX8_look 101 = .ok (.iconst 1, 1) := by decide +kernel
theorem dX8_look_102 : decode cX8_look 102 = .ok (.iload 4, 2) := by decide +kernel
theorem dX8_look_104 : decode cX8_look 104 = .ok (.ishl, 1) := by decide +kernel
theorem dX8_look_105 : decode cX8_look 105 = .ok (.goto 4, 3) := by decide +kernel
theorem dX8_look_108 : decode cX8_look 108 = .ok (.iconst 0, 1) := by decide +kernel
theorem dX8_look_109 : decode cX8_look 109 = .ok (.ior, 1) := by decide +kernel
theorem dX8_look_110 : decode cX8_look 110 = .ok (.istore_n 3, 1) := by decide +kernel
theorem dX8_look_111 : decode cX8_look 111 = .ok (.iinc 4 1, 3) := by decide +kernel
theorem dX8_look_114 : decode cX8_look 114 = .ok (.goto (-88), 3) := by decide +kernel
theorem dX8_look_117 : decode cX8_look 117 = .ok (.iload_n 1, 1) := by decide +kernel
theorem dX8_look_118 : decode cX8_look 118 = .ok (.ifCond .ne 7, 3) := by decide +kernel
theorem dX8_look_121 : decode cX8_look 121 = .ok (.iload_n 2, 1) := by decide +kernel
theorem dX8_look_122 : decode cX8_look 122 = .ok (.goto 4, 3) := by decide +kernel
theorem dX8_look_125 : decode cX8_look 125 = .ok (.iload_n 3, 1) := by decide +kernel
theorem dX8_look_126 : decode cX8_look 126 = .ok (.ireturn, 1) := by decide +kernel
set_option maxRecDepth 20000 in
theorem ggX8_can_X8_isPerson : GoodIn wsX8_can wsX8_isPerson := goodIn_r _ [8, 1, 9, 10, 7, 11, 55, 56, 57, 58, 59, 60, 61, 62, 63, 64, 65, 66, 67, 68, 69, 70, 71, 72, 73, 74, 75, 76, 77, 78, 79, 80, 81] rfl (by decide +kernel)
set_option maxRecDepth 20000 in
theorem gX8_can_X8_isPerson : GoodIn wsX8_can (wsV RX8 174 RX8 yX8_isPerson wsX8_isPerson) := goodIn_app (goodIn_of _ (by decide +kernel)) ggX8_can_X8_isPerson
set_option maxRecDepth 20000 in
theorem ggX8_can_X8_asItIs : GoodIn wsX8_can wsX8_asItIs := goodIn_r _ [15, 16, 3, 17, 18, 7, 19, 55, 56, 57, 58, 59, 60, 61, 62, 63, 64, 65, 66, 67, 68, 69, 70, 71, 72, 73, 74, 75, 76, 77, 78, 79, 80, 81] rfl (by decide +kernel)
set_option maxRecDepth 20000 in
theorem gX8_can_X8_asItIs : GoodIn wsX8_can (wsV RX8 177 RX8 yX8_asItIs wsX8_asItIs) := goodIn_app (goodIn_of _ (by decide +kernel)) ggX8_can_X8_asItIs
set_option maxRecDepth 20000 in
theorem ggX8_can_X8_canWed : GoodIn wsX8_can wsX8_canWed := goodIn_r _ [23, 24, 25, 26, 27, 7, 28, 29, 30, 31, 32, 33, 34, 35, 36, 37, 38, 39, 40, 41, 42, 43, 44, 45, 46, 47, 48, 49, 16, 50, 51, 52, 53, 54, 55, 56, 57, 58, 59, 60, 61, 62, 63, 64, 65, 66, 67, 68, 69, 70, 71, 72, 73, 74, 75, 76, 77, 78, 79, 80, 81] rfl (by decide +kernel)
set_option maxRecDepth 20000 in
theorem gX8_can_X8_canWed : GoodIn wsX8_can (wsV RX8 224 RX8 yX8_canWed wsX8_canWed) := goodIn_app (goodIn_of _ (by decide +kernel)) ggX8_can_X8_canWed
theorem dX8_can_0 : decode cX8_can 0 = .ok (.aload_n 0, 1) := by decide +kernel
theorem dX8_can_1 : decode cX8_can 1 = .ok (.iload_n 1, 1) := by decide +kernel
theorem dX8_can_2 : decode cX8_can 2 = .ok (.invokevirtual 174, 3) := by decide +kernel
theorem dX8_can_5 : decode cX8_can 5 = .ok (.ifCond .ne 5, 3) := by decide +kernel
theorem dX8_can_8 : decode cX8_can 8 = .ok (.iconst (-1), 1) := by decide +kernel
theorem dX8_can_9 : decode cX8_can 9 = .ok (.ireturn, 1) := by decide +kernel
theorem dX8_can_10 : decode cX8_can 10 = .ok (.aload_n 0, 1) := by decide +kernel
theorem dX8_can_11 : decode cX8_can 11 = .ok (.invokevirtual 177, 3) := by decide +kernel
theorem dX8_can_14 : decode cX8_can 14 = .ok (.iconst 0, 1) := by decide +kernel
theorem dX8_can_15 : decode cX8_can 15 = .ok (.istore_n 2, 1) := by decide +kernel
theorem dX8_can_16 : decode cX8_can 16 = .ok (.iconst 0, 1) := by decide +kernel
theorem dX8_can_17 : decode cX8_can 17 = .ok (.istore_n 3, 1) := by decide +kernel
theorem dX8_can_18 : decode cX8_can 18 = .ok (.iload_n 3, 1) := by decide +kernel
theorem dX8_can_19 : decode cX8_can 19 = .ok (.aload_n 0, 1) := by decide +kernel
theorem dX8_can_20 : decode cX8_can 20 = .ok (.getfield 80, 3) := by decide +kernel
theorem dX8_can_23 : decode cX8_can 23 = .ok (.if_icmp .ge 68, 3) := by decide +kernel
theorem dX8_can_26 : decode cX8_can 26 = .ok (.iconst 0, 1) := by decide +kernel
theorem dX8_can_27 : decode cX8_can 27 = .ok (.istore 4, 2) := by decide +kernel
theorem dX8_can_29 : decode cX8_can 29 = .ok (.iload 4, 2) := by decide +kernel
theorem dX8_can_31 : decode cX8_can 31 = .ok (.aload_n 0, 1) := by decide +kernel
theorem dX8_can_32 : decode cX8_can 32 = .ok (.getfield 87, 3) := by decide +kernel
theorem dX8_can_35 : decode cX8_can 35 = .ok (.if_icmp .ge 50, 3) := by decide +kernel
theorem dX8_can_38 : decode cX8_can 38 = .ok (.iload_n 2, 1) := by decide +kernel
theorem dX8_can_39 : decode cX8_can 39 = .ok (.iload_n 3, 1) := by decide +kernel
theorem dX8_can_40 : decode cX8_can 40 = .ok (.iload_n 1, 1) := by decide +kernel
theorem dX8_can_41 : decode cX8_can 41 = .ok (.if_icmp .eq 35, 3) := by decide +kernel
theorem dX8_can_44 : decode cX8_can 44 = .ok (.aload_n 0, 1) := by decide +kernel
theorem dX8_can_45 : decode cX8_can 45 = .ok (.iload 4, 2) := by decide +kernel
theorem dX8_can_47 : decode cX8_can 47 = .ok (.iload_n 1, 1) := by decide +kernel
theorem dX8_can_48 : decode cX8_can 48 = .ok (.iload_n 3, 1) := by decide +kernel
theorem dX8_can_49 : decode cX8_can 49 = .ok (.invokevirtual 224, 3) := by decide +kernel
theorem dX8_can_52 : decode cX8_can 52 = .ok (.ifCond .eq 24, 3) := by decide +kernel
theorem dX8_can_55 : decode cX8_can 55 = .ok (.aload_n 0, 1) := by decide +kernel
theorem dX8_can_56 : decode cX8_can 56 = .ok (.getfield 16, 3) := by decide +kernel
theorem dX8_can_59 : decode cX8_can 59 = .ok (.bipush 12, 2) := by decide +kernel
theorem dX8_can_61 : decode cX8_can 61 = .ok (.iload 4, 2) := by decide +kernel
theorem dX8_can_63 : decode cX8_can 63 = .ok (.iadd, 1) := by decide +kernel
theorem dX8_can_64 : decode cX8_can 64 = .ok (.iaload, 1) := by decide +kernel
theorem dX8_can_65 : decode cX8_can 65 = .ok (.bipush 8, 2) := by decide +kernel
theorem dX8_can_67 : decode cX8_can 67 = .ok (.if_icmp .ge 9, 3) := by decide +kernel
theorem dX8_can_70 : decode cX8_can 70 = .ok (.iconst 1, 1) := by decide +kernel
theorem dX8_can_71 : decode cX8_can 71 = .ok (.iload_n 3, 1) := by decide +kernel
theorem dX8_can_72 : decode cX8_can 72 = .ok (.ishl, 1) := by decide +kernel
theorem dX8_can_73 : decode cX8_can 73 = .ok (.goto 4, 3) := by decide +kernel
theorem dX8_can_76 : decode cX8_can 76 = .ok (.iconst 0, 1) := by decide +kernel
theorem dX8_can_77 : decode cX8_can 77 = .ok (.ior, 1) := by decide +kernel
theorem dX8_can_78 : decode cX8_can 78 = .ok (.istore_n 2, 1) := by decide +kernel
theorem dX8_can_79 : decode cX8_can 79 = .ok (.iinc 4 1, 3) := by decide +kernel
theorem dX8_can_82 : decode cX8_can 82 = .ok (.goto (-53), 3) := by decide +kernel
theorem dX8_can_85 : decode cX8_can 85 = .ok (.iinc 3 1, 3) := by decide +kernel
theorem dX8_can_88 : decode cX8_can 88 = .ok (.goto (-70), 3) := by decide +kernel
theorem dX8_can_91 : decode cX8_can 91 = .ok (.iload_n 2, 1) := by decide +kernel
theorem dX8_can_92 : decode cX8_can 92 = .ok (.ireturn, 1) := by decide +kernel
set_option maxRecDepth 20000 in
theorem ggX8_see_X8_isPerson : GoodIn wsX8_see wsX8_isPerson := goodIn_r _ [7, 8, 9, 10, 6, 11, 12, 13, 14, 15, 16, 17, 18, 19, 20, 21, 22, 23, 24, 25, 26, 27, 28, 29, 30, 31, 32, 33, 34, 35, 36, 37, 38] rfl (by decide +kernel)
set_option maxRecDepth 20000 in
theorem gX8_see_X8_isPerson : GoodIn wsX8_see (wsV RX8 174 RX8 yX8_isPerson wsX8_isPerson) := goodIn_app (goodIn_of _ (by decide +kernel)) ggX8_see_X8_isPerson
set_option maxRecDepth 20000 in
theorem ggX8_see_X8_in : GoodIn wsX8_see wsX8_in := goodIn_r _ [11] rfl (by decide +kernel)
set_option maxRecDepth 20000 in
theorem gX8_see_X8_in : GoodIn wsX8_see (va_wsS RX8 83 yX8_in wsX8_in) := goodIn_app (goodIn_of _ (by decide +kernel)) ggX8_see_X8_in
theorem dX8_see_0 : decode cX8_see 0 = .ok (.aload_n 0, 1) := by decide +kernel
theorem dX8_see_1 : decode cX8_see 1 = .ok (.iload_n 1, 1) := by decide +kernel
theorem dX8_see_2 : decode cX8_see 2 = .ok (.invokevirtual 174, 3) := by decide +kernel
theorem dX8_see_5 : decode cX8_see 5 = .ok (.ifCond .eq 26, 3) := by decide +kernel
theorem dX8_see_8 : decode cX8_see 8 = .ok (.aload_n 0, 1) := by decide +kernel
theorem dX8_see_9 : decode cX8_see 9 = .ok (.iload_n 2, 1) := by decide +kernel
theorem dX8_see_10 : decode cX8_see 10 = .ok (.invokevirtual 174, 3) := by decide +kernel
theorem dX8_see_13 : decode cX8_see 13 = .ok (.ifCond .eq 18, 3) := by decide +kernel
theorem dX8_see_16 : decode cX8_see 16 = .ok (.iload_n 1, 1) := by decide +kernel
theorem dX8_see_17 : decode cX8_see 17 = .ok (.iload_n 2, 1) := by decide +kernel
theorem dX8_see_18 : decode cX8_see 18 = .ok (.if_icmp .eq 13, 3) := by decide +kernel
theorem dX8_see_21 : decode cX8_see 21 = .ok (.iload_n 3, 1) := by decide +kernel
theorem dX8_see_22 : decode cX8_see 22 = .ok (.iconst 0, 1) := by decide +kernel
theorem dX8_see_23 : decode cX8_see 23 = .ok (.bipush 99, 2) := by decide +kernel
theorem dX8_see_25 : decode cX8_see 25 = .ok (.invokestatic 83, 3) := by decide +kernel
theorem dX8_see_28 : decode cX8_see 28 = .ok (.ifCond .ne 5, 3) := by decide +kernel
theorem dX8_see_31 : decode cX8_see 31 = .ok (.iconst (-1), 1) := by decide +kernel
theorem dX8_see_32 : decode cX8_see 32 = .ok (.ireturn, 1) := by decide +kernel
theorem dX8_see_33 : decode cX8_see 33 = .ok (.aload_n 0, 1) := by decide +kernel
theorem dX8_see_34 : decode cX8_see 34 = .ok (.getfield 143, 3) := by decide +kernel
theorem dX8_see_37 : decode cX8_see 37 = .ok (.bipush 6, 2) := by decide +kernel
theorem dX8_see_39 : decode cX8_see 39 = .ok (.if_icmp .ne 6, 3) := by decide +kernel
theorem dX8_see_42 : decode cX8_see 42 = .ok (.bipush (-3), 2) := by decide +kernel
theorem dX8_see_44 : decode cX8_see 44 = .ok (.ireturn, 1) := by decide +kernel
theorem dX8_see_45 : decode cX8_see 45 = .ok (.aload_n 0, 1) := by decide +kernel
theorem dX8_see_46 : decode cX8_see 46 = .ok (.getfield 25, 3) := by decide +kernel
theorem dX8_see_49 : decode cX8_see 49 = .ok (.iconst 4, 1) := by decide +kernel
theorem dX8_see_50 : decode cX8_see 50 = .ok (.aload_n 0, 1) := by decide +kernel
theorem dX8_see_51 : decode cX8_see 51 = .ok (.getfield 143, 3) := by decide +kernel
theorem dX8_see_54 : decode cX8_see 54 = .ok (.imul, 1) := by decide +kernel
theorem dX8_see_55 : decode cX8_see 55 = .ok (.iload_n 1, 1) := by decide +kernel
theorem dX8_see_56 : decode cX8_see 56 = .ok (.iastore, 1) := by decide +kernel
theorem dX8_see_57 : decode cX8_see 57 = .ok (.aload_n 0, 1) := by decide +kernel
theorem dX8_see_58 : decode cX8_see 58 = .ok (.getfield 25, 3) := by decide +kernel
theorem dX8_see_61 : decode cX8_see 61 = .ok (.iconst 4, 1) := by decide +kernel
theorem dX8_see_62 : decode cX8_see 62 = .ok (.aload_n 0, 1) := by decide +kernel
theorem dX8_see_63 : decode cX8_see 63 = .ok (.getfield 143, 3) := by decide +kernel
theorem dX8_see_66 : decode cX8_see 66 = .ok (.imul, 1) := by decide +kernel
theorem dX8_see_67 : decode cX8_see 67 = .ok (.iconst 1, 1) := by decide +kernel
theorem dX8_see_68 : decode cX8_see 68 = .ok (.iadd, 1) := by decide +kernel
theorem dX8_see_69 : decode cX8_see 69 = .ok (.iload_n 2, 1) := by decide +kernel
theorem dX8_see_70 : decode cX8_see 70 = .ok (.iastore, 1) := by decide +kernel
theorem dX8_see_71 : decode cX8_see 71 = .ok (.aload_n 0, 1) := by decide +kernel
theorem dX8_see_72 : decode cX8_see 72 = .ok (.getfield 25, 3) := by decide +kernel
theorem dX8_see_75 : decode cX8_see 75 = .ok (.iconst 4, 1) := by decide +kernel
theorem dX8_see_76 : decode cX8_see 76 = .ok (.aload_n 0, 1) := by decide +kernel
theorem dX8_see_77 : decode cX8_see 77 = .ok (.getfield 143, 3) := by decide +kernel
theorem dX8_see_80 : decode cX8_see 80 = .ok (.imul, 1) := by decide +kernel
theorem dX8_see_81 : decode cX8_see 81 = .ok (.iconst 2, 1) := by decide +kernel
theorem dX8_see_82 : decode cX8_see 82 = .ok (.iadd, 1) := by decide +kernel
theorem dX8_see_83 : decode cX8_see 83 = .ok (.iload_n 3, 1) := by decide +kernel
theorem dX8_see_84 : decode cX8_see 84 = .ok (.iastore, 1) := by decide +kernel
theorem dX8_see_85 : decode cX8_see 85 = .ok (.aload_n 0, 1) := by decide +kernel
theorem dX8_see_86 : decode cX8_see 86 = .ok (.getfield 25, 3) := by decide +kernel
theorem dX8_see_89 : decode cX8_see 89 = .ok (.iconst 4, 1) := by decide +kernel
theorem dX8_see_90 : decode cX8_see 90 = .ok (.aload_n 0, 1) := by decide +kernel
theorem dX8_see_91 : decode cX8_see 91 = .ok (.getfield 143, 3) := by decide +kernel
theorem dX8_see_94 : decode cX8_see 94 = .ok (.imul, 1) := by decide +kernel
theorem dX8_see_95 : decode cX8_see 95 = .ok (.iconst 3, 1) := by decide +kernel
theorem dX8_see_96 : decode cX8_see 96 = .ok (.iadd, 1) := by decide +kernel
theorem dX8_see_97 : decode cX8_see 97 = .ok (.iload 4, 2) := by decide +kernel
theorem dX8_see_99 : decode cX8_see 99 = .ok (.ifCond .eq 7, 3) := by decide +kernel
theorem dX8_see_102 : decode cX8_see 102 = .ok (.iconst 1, 1) := by decide +kernel
theorem dX8_see_103 : decode cX8_see 103 = .ok (.goto 4, 3) := by decide +kernel
theorem dX8_see_106 : decode cX8_see 106 = .ok (.iconst 0, 1) := by decide +kernel
theorem dX8_see_107 : decode cX8_see 107 = .ok (.iastore, 1) := by decide +kernel
theorem dX8_see_108 : decode cX8_see 108 = .ok (.aload_n 0, 1) := by decide +kernel
theorem dX8_see_109 : decode cX8_see 109 = .ok (.dup, 1) := by decide +kernel
theorem dX8_see_110 : decode cX8_see 110 = .ok (.getfield 143, 3) := by decide +kernel
theorem dX8_see_113 : decode cX8_see 113 = .ok (.iconst 1, 1) := by decide +kernel
theorem dX8_see_114 : decode cX8_see 114 = .ok (.iadd, 1) := by decide +kernel
theorem dX8_see_115 : decode cX8_see 115 = .ok (.putfield 143, 3) := by decide +kernel
theorem dX8_see_118 : decode cX8_see 118 = .ok (.aload_n 0, 1) := by decide +kernel
theorem dX8_see_119 : decode cX8_see 119 = .ok (.getfield 143, 3) := by decide +kernel
theorem dX8_see_122 : decode cX8_see 122 = .ok (.ireturn, 1) := by decide +kernel
theorem dX8_forget_0 : decode cX8_forget 0 = .ok (.aload_n 0, 1) := by decide +kernel
theorem dX8_forget_1 : decode cX8_forget 1 = .ok (.getfield 143, 3) := by decide +kernel
theorem dX8_forget_4 : decode cX8_forget 4 = .ok (.istore_n 1, 1) := by decide +kernel
theorem dX8_forget_5 : decode cX8_forget 5 = .ok (.aload_n 0, 1) := by decide +kernel
theorem dX8_forget_6 : decode cX8_forget 6 = .ok (.iconst 0, 1) := by decide +kernel
theorem dX8_forget_7 : decode cX8_forget 7 = .ok (.putfield 143, 3) := by decide +kernel
theorem dX8_forget_10 : decode cX8_forget 10 = .ok (.iload_n 1, 1) := by decide +kernel
theorem dX8_forget_11 : decode cX8_forget 11 = .ok (.ireturn, 1) := by decide +kernel
set_option maxRecDepth 20000 in
theorem ggX8_isSo_X8_findHolds : GoodIn wsX8_isSo wsX8_findHolds := goodIn_r _ [7, 8, 9, 10, 11, 12, 6, 13, 14, 15, 16, 17, 18, 19, 20, 21, 22, 23, 24, 25, 26, 27, 28, 29, 30, 31, 32, 33, 34, 39, 40, 41, 42, 43, 44, 45, 46, 47, 48, 49, 50, 51, 52, 53, 54, 55, 56, 57, 58, 59, 60, 61, 62, 63, 64, 65] rfl (by decide +kernel)
set_option maxRecDepth 20000 in
theorem gX8_isSo_X8_findHolds : GoodIn wsX8_isSo (wsV RX8 180 RX8 yX8_findHolds wsX8_findHolds) := goodIn_app (goodIn_of _ (by decide +kernel)) ggX8_isSo_X8_findHolds
set_option maxRecDepth 20000 in
theorem ggX8_isSo_X8_mateBy : GoodIn wsX8_isSo wsX8_mateBy := goodIn_r _ [38, 8, 27, 28, 29, 6, 30, 22, 23, 24, 25, 26, 31, 32, 33, 34, 39, 40, 41, 42, 43, 44, 45, 46, 47, 48, 49, 50, 51, 52, 53, 54, 55, 56, 57, 58, 59, 60, 61, 62, 63, 64, 65] rfl (by decide +kernel)
set_option maxRecDepth 20000 in
theorem gX8_isSo_X8_mateBy : GoodIn wsX8_isSo (wsV RX8 164 RX8 yX8_mateBy wsX8_mateBy) := goodIn_app (goodIn_of _ (by decide +kernel)) ggX8_isSo_X8_mateBy
theorem dX8_isSo_0 : decode cX8_isSo 0 = .ok (.aload_n 0, 1) := by decide +kernel
theorem dX8_isSo_1 : decode cX8_isSo 1 = .ok (.invokevirtual 180, 3) := by decide +kernel
theorem dX8_isSo_4 : decode cX8_isSo 4 = .ok (.iconst 1, 1) := by decide +kernel
theorem dX8_isSo_5 : decode cX8_isSo 5 = .ok (.istore_n 1, 1) := by decide +kernel
theorem dX8_isSo_6 : decode cX8_isSo 6 = .ok (.iconst 0, 1) := by decide +kernel
theorem dX8_isSo_7 : decode cX8_isSo 7 = .ok (.istore_n 2, 1) := by decide +kernel
theorem dX8_isSo_8 : decode cX8_isSo 8 = .ok (.iload_n 2, 1) := by decide +kernel
theorem dX8_isSo_9 : decode cX8_isSo 9 = .ok (.aload_n 0, 1) := by decide +kernel
theorem dX8_isSo_10 : decode cX8_isSo 10 = .ok (.getfield 143, 3) := by decide +kernel
theorem dX8_isSo_13 : decode cX8_isSo 13 = .ok (.if_icmp .ge 83, 3) := by decide +kernel
theorem dX8_isSo_16 : decode cX8_isSo 16 = .ok (.aload_n 0, 1) := by decide +kernel
theorem dX8_isSo_17 : decode cX8_isSo 17 = .ok (.aload_n 0, 1) := by decide +kernel
theorem dX8_isSo_18 : decode cX8_isSo 18 = .ok (.getfield 25, 3) := by decide +kernel
theorem dX8_isSo_21 : decode cX8_isSo 21 = .ok (.iconst 4, 1) := by decide +kernel
theorem dX8_isSo_22 : decode cX8_isSo 22 = .ok (.iload_n 2, 1) := by decide +kernel
theorem dX8_isSo_23 : decode cX8_isSo 23 = .ok (.imul, 1) := by decide +kernel
theorem dX8_isSo_24 : decode cX8_isSo 24 = .ok (.iaload, 1) := by decide +kernel
theorem dX8_isSo_25 : decode cX8_isSo 25 = .ok (.aload_n 0, 1) := by decide +kernel
theorem dX8_isSo_26 : decode cX8_isSo 26 = .ok (.getfield 25, 3) := by decide +kernel
theorem dX8_isSo_29 : decode cX8_isSo 29 = .ok (.iconst 4, 1) := by decide +kernel
theorem dX8_isSo_30 : decode cX8_isSo 30 = .ok (.iload_n 2, 1) := by decide +kernel
theorem dX8_isSo_31 : decode cX8_isSo 31 = .ok (.imul, 1) := by decide +kernel
theorem dX8_isSo_32 : decode cX8_isSo 32 = .ok (.iconst 2, 1) := by decide +kernel
theorem dX8_isSo_33 : decode cX8_isSo 33 = .ok (.iadd, 1) := by decide +kernel
theorem dX8_isSo_34 : decode cX8_isSo 34 = .ok (.iaload, 1) := by decide +kernel
theorem dX8_isSo_35 : decode cX8_isSo 35 = .ok (.invokevirtual 164, 3) := by decide +kernel
theorem dX8_isSo_38 : decode cX8_isSo 38 = .ok (.aload_n 0, 1) := by decide +kernel
theorem dX8_isSo_39 : decode cX8_isSo 39 = .ok (.getfield 25, 3) := by decide +kernel
theorem dX8_isSo_42 : decode cX8_isSo 42 = .ok (.iconst 4, 1) := by decide +kernel
theorem dX8_isSo_43 : decode cX8_isSo 43 = .ok (.iload_n 2, 1) := by decide +kernel
theorem dX8_isSo_44 : decode cX8_isSo 44 = .ok (.imul, 1) := by decide +kernel
theorem dX8_isSo_45 : decode cX8_isSo 45 = .ok (.iconst 1, 1) := by decide +kernel
theorem dX8_isSo_46 : decode cX8_isSo 46 = .ok (.iadd, 1) := by decide +kernel
theorem dX8_isSo_47 : decode cX8_isSo 47 = .ok (.iaload, 1) := by decide +kernel
theorem dX8_isSo_48 : decode cX8_isSo 48 = .ok (.if_icmp .ne 7, 3) := by decide +kernel
theorem dX8_isSo_51 : decode cX8_isSo 51 = .ok (.iconst 1, 1) := by decide +kernel
theorem dX8_isSo_52 : decode cX8_isSo 52 = .ok (.goto 4, 3) := by decide +kernel
theorem dX8_isSo_55 : decode cX8_isSo 55 = .ok (.iconst 0, 1) := by decide +kernel
theorem dX8_isSo_56 : decode cX8_isSo 56 = .ok (.istore_n 3, 1) := by decide +kernel
theorem dX8_isSo_57 : decode cX8_isSo 57 = .ok (.iload_n 1, 1) := by decide +kernel
theorem dX8_isSo_58 : decode cX8_isSo 58 = .ok (.ifCond .eq 30, 3) := by decide +kernel
theorem dX8_isSo_61 : decode cX8_isSo 61 = .ok (.iload_n 3, 1) := by decide +kernel
theorem dX8_isSo_62 : decode cX8_isSo 62 = .ok (.aload_n 0, 1) := by decide +kernel
theorem dX8_isSo_63 : decode cX8_isSo 63 = .ok (.getfield 25, 3) := by decide +kernel
theorem dX8_isSo_66 : decode cX8_isSo 66 = .ok (.iconst 4, 1) := by decide +kernel
theorem dX8_isSo_67 : decode cX8_isSo 67 = .ok (.iload_n 2, 1) := by decide +kernel
theorem dX8_isSo_68 : decode cX8_isSo 68 = .ok (.imul, 1) := by decide +kernel
theorem dX8_isSo_69 : decode cX8_isSo 69 = .ok (.iconst 3, 1) := by decide +kernel
theorem dX8_isSo_70 : decode cX8_isSo 70 = .ok (.iadd, 1) := by decide +kernel
theorem dX8_isSo_71 : decode cX8_isSo 71 = .ok (.iaload, 1) := by decide +kernel
theorem dX8_isSo_72 : decode cX8_isSo 72 = .ok (.iconst 1, 1) := by decide +kernel
theorem dX8_isSo_73 : decode cX8_isSo 73 = .ok (.if_icmp .ne 7, 3) := by decide +kernel
theorem dX8_isSo_76 : decode cX8_isSo 76 = .ok (.iconst 1, 1) := by decide +kernel
theorem dX8_isSo_77 : decode cX8_isSo 77 = .ok (.goto 4, 3) := by decide +kernel
theorem dX8_isSo_80 : decode cX8_isSo 80 = .ok (.iconst 0, 1) := by decide +kernel
theorem dX8_isSo_81 : decode cX8_isSo 81 = .ok (.if_icmp .ne 7, 3) := by decide +kernel
theorem dX8_isSo_84 : decode cX8_isSo 84 = .ok (.iconst 1, 1) := by decide +kernel
theorem dX8_isSo_85 : decode cX8_isSo 85 = .ok (.goto 4, 3) := by decide +kernel
theorem dX8_isSo_88 : decode cX8_isSo 88 = .ok (.iconst 0, 1) := by decide +kernel
theorem dX8_isSo_89 : decode cX8_isSo 89 = .ok (.istore_n 1, 1) := by decide +kernel
theorem dX8_isSo_90 : decode cX8_isSo 90 = .ok (.iinc 2 1, 3) := by decide +kernel
theorem dX8_isSo_93 : decode cX8_isSo 93 = .ok (.goto (-85), 3) := by decide +kernel
theorem dX8_isSo_96 : decode cX8_isSo 96 = .ok (.iload_n 1, 1) := by decide +kernel
theorem dX8_isSo_97 : decode cX8_isSo 97 = .ok (.ireturn, 1) := by decide +kernel
set_option maxRecDepth 20000 in
theorem ggX8_trueBy_X8_in : GoodIn wsX8_trueBy wsX8_in := goodIn_r _ [5] rfl (by decide +kernel)
set_option maxRecDepth 20000 in
theorem gX8_trueBy_X8_in : GoodIn wsX8_trueBy (va_wsS RX8 83 yX8_in wsX8_in) := goodIn_app (goodIn_of _ (by decide +kernel)) ggX8_trueBy_X8_in
set_option maxRecDepth 20000 in
theorem ggX8_trueBy_X8_asItIs : GoodIn wsX8_trueBy wsX8_asItIs := goodIn_r _ [9, 1, 10, 11, 12, 4, 13, 54, 55, 56, 57, 58, 59, 60, 61, 62, 63, 64, 65, 66, 67, 68, 69, 70, 71, 72, 73, 74, 75, 76, 77, 78, 79, 80] rfl (by decide +kernel)
set_option maxRecDepth 20000 in
theorem gX8_trueBy_X8_asItIs : GoodIn wsX8_trueBy (wsV RX8 177 RX8 yX8_asItIs wsX8_asItIs) := goodIn_app (goodIn_of _ (by decide +kernel)) ggX8_trueBy_X8_asItIs
set_option maxRecDepth 20000 in
theorem ggX8_trueBy_X8_isSo : GoodIn wsX8_trueBy wsX8_isSo := goodIn_r _ [17, 18, 19, 20, 21, 22, 4, 23, 24, 25, 26, 27, 28, 29, 30, 31, 32, 33, 34, 35, 36, 37, 1, 38, 39, 40, 41, 42, 43, 44, 45, 46, 47, 48, 49, 50, 51, 52, 53, 54, 55, 56, 57, 58, 59, 60, 61, 62, 63, 64, 65, 66, 67, 68, 69, 70, 71, 72, 73, 74, 75, 76, 77, 78, 79, 80] rfl (by decide +kernel)
set_option maxRecDepth 20000 in
theorem gX8_trueBy_X8_isSo : GoodIn wsX8_trueBy (wsV RX8 242 RX8 yX8_isSo wsX8_isSo) := goodIn_app (goodIn_of _ (by decide +kernel)) ggX8_trueBy_X8_isSo
set_option maxRecDepth 20000 in
theorem ggX8_trueBy_X8_isOfTwo : GoodIn wsX8_trueBy wsX8_isOfTwo := goodIn_r _ [33, 34, 35, 36, 4, 37, 1, 38, 39, 40, 41, 54, 55, 56, 57, 58, 59, 60, 61, 62, 63, 64, 65, 66, 67, 68, 69, 70, 71, 72, 73, 74, 75, 76, 77, 78, 79, 80] rfl (by decide +kernel)
set_option maxRecDepth 20000 in
theorem gX8_trueBy_X8_isOfTwo : GoodIn wsX8_trueBy (wsV RX8 152 RX8 yX8_isOfTwo wsX8_isOfTwo) := goodIn_app (goodIn_of _ (by decide +kernel)) ggX8_trueBy_X8_isOfTwo
set_option maxRecDepth 20000 in
theorem ggX8_trueBy_X8_manOf : GoodIn wsX8_trueBy wsX8_manOf := goodIn_r _ [41, 1, 54, 55, 56, 57, 58, 59, 60, 61, 62, 63, 64, 65, 66, 67, 68, 69, 70, 71, 72, 73, 74, 75, 76, 77, 78, 79, 80] rfl (by decide +kernel)
set_option maxRecDepth 20000 in
theorem gX8_trueBy_X8_manOf : GoodIn wsX8_trueBy (wsV RX8 149 RX8 yX8_manOf wsX8_manOf) := goodIn_app (goodIn_of _ (by decide +kernel)) ggX8_trueBy_X8_manOf
theorem dX8_trueBy_0 : decode cX8_trueBy 0 = .ok (.iload_n 1, 1) := by decide +kernel
theorem dX8_trueBy_1 : decode cX8_trueBy 1 = .ok (.iconst 0, 1) := by decide +kernel
theorem dX8_trueBy_2 : decode cX8_trueBy 2 = .ok (.iconst 1, 1) := by decide +kernel
theorem dX8_trueBy_3 : decode cX8_trueBy 3 = .ok (.invokestatic 83, 3) := by decide +kernel
theorem dX8_trueBy_6 : decode cX8_trueBy 6 = .ok (.ifCond .ne 5, 3) := by decide +kernel
theorem dX8_trueBy_9 : decode cX8_trueBy 9 = .ok (.iconst (-1), 1) := by decide +kernel
theorem dX8_trueBy_10 : decode cX8_trueBy 10 = .ok (.ireturn, 1) := by decide +kernel
theorem dX8_trueBy_11 : decode cX8_trueBy 11 = .ok (.aload_n 0, 1) := by decide +kernel
theorem dX8_trueBy_12 : decode cX8_trueBy 12 = .ok (.invokevirtual 177, 3) := by decide +kernel
theorem dX8_trueBy_15 : decode cX8_trueBy 15 = .ok (.aload_n 0, 1) := by decide +kernel
theorem dX8_trueBy_16 : decode cX8_trueBy 16 = .ok (.invokevirtual 242, 3) := by decide +kernel
theorem dX8_trueBy_19 : decode cX8_trueBy 19 = .ok (.ifCond .eq 9, 3) := by decide +kernel
theorem dX8_trueBy_22 : decode cX8_trueBy 22 = .ok (.sipush 256, 3) := by decide +kernel
theorem dX8_trueBy_25 : decode cX8_trueBy 25 = .ok (.goto 4, 3) := by decide +kernel
theorem dX8_trueBy_28 : decode cX8_trueBy 28 = .ok (.iconst 0, 1) := by decide +kernel
theorem dX8_trueBy_29 : decode cX8_trueBy 29 = .ok (.istore_n 2, 1) := by decide +kernel
theorem dX8_trueBy_30 : decode cX8_trueBy 30 = .ok (.bipush (-4), 2) := by decide +kernel
theorem dX8_trueBy_32 : decode cX8_trueBy 32 = .ok (.istore_n 3, 1) := by decide +kernel
theorem dX8_trueBy_33 : decode cX8_trueBy 33 = .ok (.iconst 0, 1) := by decide +kernel
theorem dX8_trueBy_34 : decode cX8_trueBy 34 = .ok (.istore 4, 2) := by decide +kernel
theorem dX8_trueBy_36 : decode cX8_trueBy 36 = .ok (.iload 4, 2) := by decide +kernel
theorem dX8_trueBy_38 : decode cX8_trueBy 38 = .ok (.bipush 24, 2) := by decide +kernel
theorem dX8_trueBy_40 : decode cX8_trueBy 40 = .ok (.if_icmp .ge 105, 3) := by decide +kernel
theorem dX8_trueBy_43 : decode cX8_trueBy 43 = .ok (.aload_n 0, 1) := by decide +kernel
theorem dX8_trueBy_44 : decode cX8_trueBy 44 = .ok (.iload 4, 2) := by decide +kernel
theorem dX8_trueBy_46 : decode cX8_trueBy 46 = .ok (.invokevirtual 152, 3) := by decide +kernel
theorem dX8_trueBy_49 : decode cX8_trueBy 49 = .ok (.ifCond .eq 90, 3) := by decide +kernel
theorem dX8_trueBy_52 : decode cX8_trueBy 52 = .ok (.aload_n 0, 1) := by decide +kernel
theorem dX8_trueBy_53 : decode cX8_trueBy 53 = .ok (.iload 4, 2) := by decide +kernel
theorem dX8_trueBy_55 : decode cX8_trueBy 55 = .ok (.invokevirtual 149, 3) := by decide +kernel
theorem dX8_trueBy_58 : decode cX8_trueBy 58 = .ok (.istore 5, 2) := by decide +kernel
theorem dX8_trueBy_60 : decode cX8_trueBy 60 = .ok (.aload_n 0, 1) := by decide +kernel
theorem dX8_trueBy_61 : decode cX8_trueBy 61 = .ok (.getfield 43, 3) := by decide +kernel
theorem dX8_trueBy_64 : decode cX8_trueBy 64 = .ok (.bipush 15, 2) := by decide +kernel
theorem dX8_trueBy_66 : decode cX8_trueBy 66 = .ok (.iconst 4, 1) := by decide +kernel
theorem dX8_trueBy_67 : decode cX8_trueBy 67 = .ok (.iload 4, 2) := by decide +kernel
theorem dX8_trueBy_69 : decode cX8_trueBy 69 = .ok (.imul, 1) := by decide +kernel
theorem dX8_trueBy_70 : decode cX8_trueBy 70 = .ok (.iadd, 1) := by decide +kernel
theorem dX8_trueBy_71 : decode cX8_trueBy 71 = .ok (.iconst 1, 1) := by decide +kernel
theorem dX8_trueBy_72 : decode cX8_trueBy 72 = .ok (.iadd, 1) := by decide +kernel
theorem dX8_trueBy_73 : decode cX8_trueBy 73 = .ok (.bipush (-2), 2) := by decide +kernel
theorem dX8_trueBy_75 : decode cX8_trueBy 75 = .ok (.iastore, 1) := by decide +kernel
theorem dX8_trueBy_76 : decode cX8_trueBy 76 = .ok (.aload_n 0, 1) := by decide +kernel
theorem dX8_trueBy_77 : decode cX8_trueBy 77 = .ok (.invokevirtual 242, 3) := by decide +kernel
theorem dX8_trueBy_80 : decode cX8_trueBy 80 = .ok (.istore 6, 2) := by decide +kernel
theorem dX8_trueBy_82 : decode cX8_trueBy 82 = .ok (.aload_n 0, 1) := by decide +kernel
theorem dX8_trueBy_83 : decode cX8_trueBy 83 = .ok (.getfield 43, 3) := by decide +kernel
theorem dX8_trueBy_86 : decode cX8_trueBy 86 = .ok (.bipush 15, 2) := by decide +kernel
theorem dX8_trueBy_88 : decode cX8_trueBy 88 = .ok (.iconst 4, 1) := by decide +kernel
theorem dX8_trueBy_89 : decode cX8_trueBy 89 = .ok (.iload 4, 2) := by decide +kernel
theorem dX8_trueBy_91 : decode cX8_trueBy 91 = .ok (.imul, 1) := by decide +kernel
theorem dX8_trueBy_92 : decode cX8_trueBy 92 = .ok (.iadd, 1) := by decide +kernel
theorem dX8_trueBy_93 : decode cX8_trueBy 93 = .ok (.iconst 1, 1) := by decide +kernel
theorem dX8_trueBy_94 : decode cX8_trueBy 94 = .ok (.iadd, 1) := by decide +kernel
theorem dX8_trueBy_95 : decode cX8_trueBy 95 = .ok (.iload 5, 2) := by decide +kernel
theorem dX8_trueBy_97 : decode cX8_trueBy 97 = .ok (.iastore, 1) := by decide +kernel
theorem dX8_trueBy_98 : decode cX8_trueBy 98 = .ok (.iload_n 2, 1) := by decide +kernel
theorem dX8_trueBy_99 : decode cX8_trueBy 99 = .ok (.iload 6, 2) := by decide +kernel
theorem dX8_trueBy_101 : decode cX8_trueBy 101 = .ok (.ifCond .eq 7, 3) := by decide +kernel
theorem dX8_trueBy_104 : decode cX8_trueBy 104 = .ok (.iconst 1, 1) := by decide +kernel
theorem dX8_trueBy_105 : decode cX8_trueBy 105 = .ok (.goto 4, 3) := by decide +kernel
theorem dX8_trueBy_108 : decode cX8_trueBy 108 = .ok (.iconst 0, 1) := by decide +kernel
theorem dX8_trueBy_109 : decode cX8_trueBy 109 = .ok (.iadd, 1) := by decide +kernel
theorem dX8_trueBy_110 : decode cX8_trueBy 110 = .ok (.istore_n 2, 1) := by decide +kernel
theorem dX8_trueBy_111 : decode cX8_trueBy 111 = .ok (.iload 6, 2) := by decide +kernel
theorem dX8_trueBy_113 : decode cX8_trueBy 113 = .ok (.ifCond .eq 24, 3) := by decide +kernel
theorem dX8_trueBy_116 : decode cX8_trueBy 116 = .ok (.iload_n 3, 1) := by decide +kernel
theorem dX8_trueBy_117 : decode cX8_trueBy 117 = .ok (.ifCond .ge 20, 3) := by decide +kernel
theorem dX8_trueBy_120 : decode cX8_trueBy 120 = .ok (.bipush 10, 2) := by decide +kernel
theorem dX8_trueBy_122 : decode cX8_trueBy 122 = .ok (.iload 4, 2) := by decide +kernel
theorem dX8_trueBy_124 : decode cX8_trueBy 124 = .ok (.bipush 8, 2) := by decide +kernel
theorem dX8_trueBy_126 : decode cX8_trueBy 126 = .ok (.idiv, 1) := by decide +kernel
theorem dX8_trueBy_127 : decode cX8_trueBy 127 = .ok (.imul, 1) := by decide +kernel
theorem dX8_trueBy_128 : decode cX8_trueBy 128 = .ok (.iload 4, 2) := by decide +kernel
theorem dX8_trueBy_130 : decode cX8_trueBy 130 = .ok (.bipush 8, 2) := by decide +kernel
theorem dX8_trueBy_132 : decode cX8_trueBy 132 = .ok (.irem, 1) := by decide +kernel
theorem dX8_trueBy_133 : decode cX8_trueBy 133 = .ok (.iadd, 1) := by decide +kernel
theorem dX8_trueBy_134 : decode cX8_trueBy 134 = .ok (.goto 4, 3) := by decide +kernel
theorem dX8_trueBy_137 : decode cX8_trueBy 137 = .ok (.iload_n 3, 1) := by decide +kernel
theorem dX8_trueBy_138 : decode cX8_trueBy 138 = .ok (.istore_n 3, 1) := by decide +kernel
theorem dX8_trueBy_139 : decode cX8_trueBy 139 = .ok (.iinc 4 1, 3) := by decide +kernel
theorem dX8_trueBy_142 : decode cX8_trueBy 142 = .ok (.goto (-106), 3) := by decide +kernel
theorem dX8_trueBy_145 : decode cX8_trueBy 145 = .ok (.iload_n 1, 1) := by decide +kernel
theorem dX8_trueBy_146 : decode cX8_trueBy 146 = .ok (.ifCond .ne 7, 3) := by decide +kernel
theorem dX8_trueBy_149 : decode cX8_trueBy 149 = .ok (.iload_n 2, 1) := by decide +kernel
theorem dX8_trueBy_150 : decode cX8_trueBy 150 = .ok (.goto 4, 3) := by decide +kernel
theorem dX8_trueBy_153 : decode cX8_trueBy 153 = .ok (.iload_n 3, 1) := by decide +kernel
theorem dX8_trueBy_154 : decode cX8_trueBy 154 = .ok (.ireturn, 1) := by decide +kernel
set_option maxRecDepth 20000 in
theorem ggX8_hand_X8_isLine : GoodIn wsX8_hand wsX8_isLine := goodIn_r _ [6, 7, 8, 9, 10, 5, 11, 12, 13, 14, 15, 39, 40, 41, 42, 43, 44, 45, 46, 47, 48, 49, 50, 51, 52, 53, 54, 55, 56, 57, 58, 59, 60, 61, 62, 63, 64, 65] rfl (by decide +kernel)
set_option maxRecDepth 20000 in
theorem gX8_hand_X8_isLine : GoodIn wsX8_hand (wsV RX8 195 RX8 yX8_isLine wsX8_isLine) := goodIn_app (goodIn_of _ (by decide +kernel)) ggX8_hand_X8_isLine
set_option maxRecDepth 20000 in
theorem ggX8_hand_X8_asItIs : GoodIn wsX8_hand wsX8_asItIs := goodIn_r _ [19, 1, 7, 20, 21, 5, 22, 39, 40, 41, 42, 43, 44, 45, 46, 47, 48, 49, 50, 51, 52, 53, 54, 55, 56, 57, 58, 59, 60, 61, 62, 63, 64, 65] rfl (by decide +kernel)
set_option maxRecDepth 20000 in
theorem gX8_hand_X8_asItIs : GoodIn wsX8_hand (wsV RX8 177 RX8 yX8_asItIs wsX8_asItIs) := goodIn_app (goodIn_of _ (by decide +kernel)) ggX8_hand_X8_asItIs
set_option maxRecDepth 20000 in
theorem ggX8_hand_X8_isOfTwo : GoodIn wsX8_hand wsX8_isOfTwo := goodIn_r _ [26, 27, 28, 29, 5, 30, 1, 31, 32, 33, 34, 39, 40, 41, 42, 43, 44, 45, 46, 47, 48, 49, 50, 51, 52, 53, 54, 55, 56, 57, 58, 59, 60, 61, 62, 63, 64, 65] rfl (by decide +kernel)
set_option maxRecDepth 20000 in
theorem gX8_hand_X8_isOfTwo : GoodIn wsX8_hand (wsV RX8 152 RX8 yX8_isOfTwo wsX8_isOfTwo) := goodIn_app (goodIn_of _ (by decide +kernel)) ggX8_hand_X8_isOfTwo
set_option maxRecDepth 20000 in
theorem ggX8_hand_X8_begun : GoodIn wsX8_hand wsX8_begun := goodIn_r _ [38, 1, 39, 40, 41, 42, 43, 44, 45, 46, 47, 48, 49, 50, 51, 52, 53, 54, 55, 56, 57, 58, 59, 60, 61, 62, 63, 64, 65] rfl (by decide +kernel)
set_option maxRecDepth 20000 in
theorem gX8_hand_X8_begun : GoodIn wsX8_hand (wsV RX8 155 RX8 yX8_begun wsX8_begun) := goodIn_app (goodIn_of _ (by decide +kernel)) ggX8_hand_X8_begun
theorem dX8_hand_0 : decode cX8_hand 0 = .ok (.aload_n 0, 1) := by decide +kernel
theorem dX8_hand_1 : decode cX8_hand 1 = .ok (.iload_n 1, 1) := by decide +kernel
theorem dX8_hand_2 : decode cX8_hand 2 = .ok (.iload_n 2, 1) := by decide +kernel
theorem dX8_hand_3 : decode cX8_hand 3 = .ok (.invokevirtual 195, 3) := by decide +kernel
theorem dX8_hand_6 : decode cX8_hand 6 = .ok (.ifCond .ne 5, 3) := by decide +kernel
theorem dX8_hand_9 : decode cX8_hand 9 = .ok (.iconst (-1), 1) := by decide +kernel
theorem dX8_hand_10 : decode cX8_hand 10 = .ok (.ireturn, 1) := by decide +kernel
theorem dX8_hand_11 : decode cX8_hand 11 = .ok (.aload_n 0, 1) := by decide +kernel
theorem dX8_hand_12 : decode cX8_hand 12 = .ok (.invokevirtual 177, 3) := by decide +kernel
theorem dX8_hand_15 : decode cX8_hand 15 = .ok (.bipush 8, 2) := by decide +kernel
theorem dX8_hand_17 : decode cX8_hand 17 = .ok (.iload_n 1, 1) := by decide +kernel
theorem dX8_hand_18 : decode cX8_hand 18 = .ok (.imul, 1) := by decide +kernel
theorem dX8_hand_19 : decode cX8_hand 19 = .ok (.iload_n 2, 1) := by decide +kernel
theorem dX8_hand_20 : decode cX8_hand 20 = .ok (.iadd, 1) := by decide +kernel
theorem dX8_hand_21 : decode cX8_hand 21 = .ok (.istore_n 3, 1) := by decide +kernel
theorem dX8_hand_22 : decode cX8_hand 22 = .ok (.aload_n 0, 1) := by decide +kernel
theorem dX8_hand_23 : decode cX8_hand 23 = .ok (.iload_n 3, 1) := by decide +kernel
theorem dX8_hand_24 : decode cX8_hand 24 = .ok (.invokevirtual 152, 3) := by decide +kernel
theorem dX8_hand_27 : decode cX8_hand 27 = .ok (.ifCond .ne 6, 3) := by decide +kernel
theorem dX8_hand_30 : decode cX8_hand 30 = .ok (.bipush (-2), 2) := by decide +kernel
theorem dX8_hand_32 : decode cX8_hand 32 = .ok (.ireturn, 1) := by decide +kernel
theorem dX8_hand_33 : decode cX8_hand 33 = .ok (.aload_n 0, 1) := by decide +kernel
theorem dX8_hand_34 : decode cX8_hand 34 = .ok (.getfield 43, 3) := by decide +kernel
theorem dX8_hand_37 : decode cX8_hand 37 = .ok (.bipush 15, 2) := by decide +kernel
theorem dX8_hand_39 : decode cX8_hand 39 = .ok (.iconst 4, 1) := by decide +kernel
theorem dX8_hand_40 : decode cX8_hand 40 = .ok (.iload_n 3, 1) := by decide +kernel
theorem dX8_hand_41 : decode cX8_hand 41 = .ok (.imul, 1) := by decide +kernel
theorem dX8_hand_42 : decode cX8_hand 42 = .ok (.iadd, 1) := by decide +kernel
theorem dX8_hand_43 : decode cX8_hand 43 = .ok (.iconst 3, 1) := by decide +kernel
theorem dX8_hand_44 : decode cX8_hand 44 = .ok (.iadd, 1) := by decide +kernel
theorem dX8_hand_45 : decode cX8_hand 45 = .ok (.iaload, 1) := by decide +kernel
theorem dX8_hand_46 : decode cX8_hand 46 = .ok (.aload_n 0, 1) := by decide +kernel
theorem dX8_hand_47 : decode cX8_hand 47 = .ok (.iload_n 3, 1) := by decide +kernel
theorem dX8_hand_48 : decode cX8_hand 48 = .ok (.invokevirtual 155, 3) := by decide +kernel
theorem dX8_hand_51 : decode cX8_hand 51 = .ok (.if_icmp .ne 8, 3) := by decide +kernel
theorem dX8_hand_54 : decode cX8_hand 54 = .ok (.bipush 7, 2) := by decide +kernel
theorem dX8_hand_56 : decode cX8_hand 56 = .ok (.goto 5, 3) := by decide +kernel
theorem dX8_hand_59 : decode cX8_hand 59 = .ok (.bipush 6, 2) := by decide +kernel
theorem dX8_hand_61 : decode cX8_hand 61 = .ok (.ireturn, 1) := by decide +kernel
set_option maxRecDepth 20000 in
theorem ggX8_child_X8_isPerson : GoodIn wsX8_child wsX8_isPerson := goodIn_r _ [5, 6, 7, 8, 4, 9, 58, 59, 60, 61, 62, 63, 64, 65, 66, 67, 68, 69, 70, 71, 72, 73, 74, 75, 76, 77, 78, 79, 80, 81, 82, 83, 84] rfl (by decide +kernel)
set_option maxRecDepth 20000 in
theorem gX8_child_X8_isPerson : GoodIn wsX8_child (wsV RX8 174 RX8 yX8_isPerson wsX8_isPerson) := goodIn_app (goodIn_of _ (by decide +kernel)) ggX8_child_X8_isPerson
set_option maxRecDepth 20000 in
theorem ggX8_child_X8_isWoman : GoodIn wsX8_child wsX8_isWoman := goodIn_r _ [13, 14, 58, 59, 60, 61, 62, 63, 64, 65, 66, 67, 68, 69, 70, 71, 72, 73, 74, 75, 76, 77, 78, 79, 80, 81, 82, 83, 84] rfl (by decide +kernel)
set_option maxRecDepth 20000 in
theorem gX8_child_X8_isWoman : GoodIn wsX8_child (wsV RX8 168 RX8 yX8_isWoman wsX8_isWoman) := goodIn_app (goodIn_of _ (by decide +kernel)) ggX8_child_X8_isWoman
set_option maxRecDepth 20000 in
theorem ggX8_child_X8_in : GoodIn wsX8_child wsX8_in := goodIn_r _ [9] rfl (by decide +kernel)
set_option maxRecDepth 20000 in
theorem gX8_child_X8_in : GoodIn wsX8_child (va_wsS RX8 83 yX8_in wsX8_in) := goodIn_app (goodIn_of _ (by decide +kernel)) ggX8_child_X8_in
set_option maxRecDepth 20000 in
theorem ggX8_child_X8_asItIs : GoodIn wsX8_child wsX8_asItIs := goodIn_r _ [18, 19, 20, 21, 22, 4, 23, 58, 59, 60, 61, 62, 63, 64, 65, 66, 67, 68, 69, 70, 71, 72, 73, 74, 75, 76, 77, 78, 79, 80, 81, 82, 83, 84] rfl (by decide +kernel)
set_option maxRecDepth 20000 in
theorem gX8_child_X8_asItIs : GoodIn wsX8_child (wsV RX8 177 RX8 yX8_asItIs wsX8_asItIs) := goodIn_app (goodIn_of _ (by decide +kernel)) ggX8_child_X8_asItIs
set_option maxRecDepth 20000 in
theorem ggX8_child_X8_findHolds : GoodIn wsX8_child wsX8_findHolds := goodIn_r _ [27, 28, 29, 30, 31, 32, 4, 33, 34, 35, 36, 37, 38, 39, 40, 41, 19, 42, 43, 44, 45, 46, 47, 48, 49, 50, 51, 52, 53, 58, 59, 60, 61, 62, 63, 64, 65, 66, 67, 68, 69, 70, 71, 72, 73, 74, 75, 76, 77, 78, 79, 80, 81, 82, 83, 84] rfl (by decide +kernel)
set_option maxRecDepth 20000 in
theorem gX8_child_X8_findHolds : GoodIn wsX8_child (wsV RX8 180 RX8 yX8_findHolds wsX8_findHolds) := goodIn_app (goodIn_of _ (by decide +kernel)) ggX8_child_X8_findHolds
set_option maxRecDepth 20000 in
theorem ggX8_child_X8_mateBy : GoodIn wsX8_child wsX8_mateBy := goodIn_r _ [57, 28, 46, 47, 48, 4, 49, 19, 42, 43, 44, 45, 50, 51, 52, 53, 58, 59, 60, 61, 62, 63, 64, 65, 66, 67, 68, 69, 70, 71, 72, 73, 74, 75, 76, 77, 78, 79, 80, 81, 82, 83, 84] rfl (by decide +kernel)
set_option maxRecDepth 20000 in
theorem gX8_child_X8_mateBy : GoodIn wsX8_child (wsV RX8 164 RX8 yX8_mateBy wsX8_mateBy) := goodIn_app (goodIn_of _ (by decide +kernel)) ggX8_child_X8_mateBy
