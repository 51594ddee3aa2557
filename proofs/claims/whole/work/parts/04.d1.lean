theorem dX0_init_0 : decode cX0_init 0 = .ok (.aload_n 0, 1) := by decide +kernel
theorem dX0_init_1 : decode cX0_init 1 = .ok (.invokespecial 3, 3) := by decide +kernel
theorem dX0_init_4 : decode cX0_init 4 = .ok (.aload_n 0, 1) := by decide +kernel
theorem dX0_init_5 : decode cX0_init 5 = .ok (.bipush 8, 2) := by decide +kernel
theorem dX0_init_7 : decode cX0_init 7 = .ok (.newarray .int, 2) := by decide +kernel
theorem dX0_init_9 : decode cX0_init 9 = .ok (.putfield 9, 3) := by decide +kernel
theorem dX0_init_12 : decode cX0_init 12 = .ok (.aload_n 0, 1) := by decide +kernel
theorem dX0_init_13 : decode cX0_init 13 = .ok (.iconst 3, 1) := by decide +kernel
theorem dX0_init_14 : decode cX0_init 14 = .ok (.newarray .int, 2) := by decide +kernel
theorem dX0_init_16 : decode cX0_init 16 = .ok (.putfield 15, 3) := by decide +kernel
theorem dX0_init_19 : decode cX0_init 19 = .ok (.aload_n 0, 1) := by decide +kernel
theorem dX0_init_20 : decode cX0_init 20 = .ok (.iconst 3, 1) := by decide +kernel
theorem dX0_init_21 : decode cX0_init 21 = .ok (.newarray .int, 2) := by decide +kernel
theorem dX0_init_23 : decode cX0_init 23 = .ok (.putfield 18, 3) := by decide +kernel
theorem dX0_init_26 : decode cX0_init 26 = .ok (.aload_n 0, 1) := by decide +kernel
theorem dX0_init_27 : decode cX0_init 27 = .ok (.bipush 24, 2) := by decide +kernel
theorem dX0_init_29 : decode cX0_init 29 = .ok (.newarray .int, 2) := by decide +kernel
theorem dX0_init_31 : decode cX0_init 31 = .ok (.putfield 21, 3) := by decide +kernel
theorem dX0_init_34 : decode cX0_init 34 = .ok (.aload_n 0, 1) := by decide +kernel
theorem dX0_init_35 : decode cX0_init 35 = .ok (.bipush 24, 2) := by decide +kernel
theorem dX0_init_37 : decode cX0_init 37 = .ok (.newarray .int, 2) := by decide +kernel
theorem dX0_init_39 : decode cX0_init 39 = .ok (.putfield 24, 3) := by decide +kernel
theorem dX0_init_42 : decode cX0_init 42 = .ok (.aload_n 0, 1) := by decide +kernel
theorem dX0_init_43 : decode cX0_init 43 = .ok (.bipush 24, 2) := by decide +kernel
theorem dX0_init_45 : decode cX0_init 45 = .ok (.newarray .int, 2) := by decide +kernel
theorem dX0_init_47 : decode cX0_init 47 = .ok (.putfield 27, 3) := by decide +kernel
theorem dX0_init_50 : decode cX0_init 50 = .ok (.aload_n 0, 1) := by decide +kernel
theorem dX0_init_51 : decode cX0_init 51 = .ok (.bipush 24, 2) := by decide +kernel
theorem dX0_init_53 : decode cX0_init 53 = .ok (.newarray .int, 2) := by decide +kernel
theorem dX0_init_55 : decode cX0_init 55 = .ok (.putfield 30, 3) := by decide +kernel
theorem dX0_init_58 : decode cX0_init 58 = .ok (.aload_n 0, 1) := by decide +kernel
theorem dX0_init_59 : decode cX0_init 59 = .ok (.bipush 24, 2) := by decide +kernel
theorem dX0_init_61 : decode cX0_init 61 = .ok (.newarray .int, 2) := by decide +kernel
theorem dX0_init_63 : decode cX0_init 63 = .ok (.putfield 33, 3) := by decide +kernel
theorem dX0_init_66 : decode cX0_init 66 = .ok (.return_, 1) := by decide +kernel
set_option maxRecDepth 20000 in
theorem ggX0_open_X3_isPerson : GoodIn wsX0_open wsX3_isPerson := goodIn_r _ [10, 11, 21, 22, 23, 24, 25, 26, 27, 28, 29, 30] rfl (by decide +kernel)
set_option maxRecDepth 20000 in
theorem gX0_open_X3_isPerson : GoodIn wsX0_open (wsV RX0 40 RX3 yX3_isPerson wsX3_isPerson) := goodIn_app (goodIn_of _ (by decide +kernel)) ggX0_open_X3_isPerson
theorem dX0_open_0 : decode cX0_open 0 = .ok (.aload_n 0, 1) := by decide +kernel
theorem dX0_open_1 : decode cX0_open 1 = .ok (.iconst 0, 1) := by decide +kernel
theorem dX0_open_2 : decode cX0_open 2 = .ok (.putfield 36, 3) := by decide +kernel
theorem dX0_open_5 : decode cX0_open 5 = .ok (.iconst 0, 1) := by decide +kernel
theorem dX0_open_6 : decode cX0_open 6 = .ok (.istore_n 2, 1) := by decide +kernel
theorem dX0_open_7 : decode cX0_open 7 = .ok (.iload_n 2, 1) := by decide +kernel
theorem dX0_open_8 : decode cX0_open 8 = .ok (.bipush 8, 2) := by decide +kernel
theorem dX0_open_10 : decode cX0_open 10 = .ok (.if_icmp .ge 33, 3) := by decide +kernel
theorem dX0_open_13 : decode cX0_open 13 = .ok (.aload_n 0, 1) := by decide +kernel
theorem dX0_open_14 : decode cX0_open 14 = .ok (.getfield 9, 3) := by decide +kernel
theorem dX0_open_17 : decode cX0_open 17 = .ok (.iload_n 2, 1) := by decide +kernel
theorem dX0_open_18 : decode cX0_open 18 = .ok (.aload_n 1, 1) := by decide +kernel
theorem dX0_open_19 : decode cX0_open 19 = .ok (.iload_n 2, 1) := by decide +kernel
theorem dX0_open_20 : decode cX0_open 20 = .ok (.invokevirtual 40, 3) := by decide +kernel
theorem dX0_open_23 : decode cX0_open 23 = .ok (.ifCond .eq 12, 3) := by decide +kernel
theorem dX0_open_26 : decode cX0_open 26 = .ok (.aload_n 1, 1) := by decide +kernel
theorem dX0_open_27 : decode cX0_open 27 = .ok (.getfield 46, 3) := by decide +kernel
theorem dX0_open_30 : decode cX0_open 30 = .ok (.iload_n 2, 1) := by decide +kernel
theorem dX0_open_31 : decode cX0_open 31 = .ok (.iaload, 1) := by decide +kernel
theorem dX0_open_32 : decode cX0_open 32 = .ok (.goto 4, 3) := by decide +kernel
theorem dX0_open_35 : decode cX0_open 35 = .ok (.iconst 0, 1) := by decide +kernel
theorem dX0_open_36 : decode cX0_open 36 = .ok (.iastore, 1) := by decide +kernel
theorem dX0_open_37 : decode cX0_open 37 = .ok (.iinc 2 1, 3) := by decide +kernel
theorem dX0_open_40 : decode cX0_open 40 = .ok (.goto (-33), 3) := by decide +kernel
theorem dX0_open_43 : decode cX0_open 43 = .ok (.iconst 0, 1) := by decide +kernel
theorem dX0_open_44 : decode cX0_open 44 = .ok (.istore_n 2, 1) := by decide +kernel
theorem dX0_open_45 : decode cX0_open 45 = .ok (.iload_n 2, 1) := by decide +kernel
theorem dX0_open_46 : decode cX0_open 46 = .ok (.iconst 3, 1) := by decide +kernel
theorem dX0_open_47 : decode cX0_open 47 = .ok (.if_icmp .ge 23, 3) := by decide +kernel
theorem dX0_open_50 : decode cX0_open 50 = .ok (.aload_n 0, 1) := by decide +kernel
theorem dX0_open_51 : decode cX0_open 51 = .ok (.getfield 15, 3) := by decide +kernel
theorem dX0_open_54 : decode cX0_open 54 = .ok (.iload_n 2, 1) := by decide +kernel
theorem dX0_open_55 : decode cX0_open 55 = .ok (.iconst 0, 1) := by decide +kernel
theorem dX0_open_56 : decode cX0_open 56 = .ok (.iastore, 1) := by decide +kernel
theorem dX0_open_57 : decode cX0_open 57 = .ok (.aload_n 0, 1) := by decide +kernel
theorem dX0_open_58 : decode cX0_open 58 = .ok (.getfield 18, 3) := by decide +kernel
theorem dX0_open_61 : decode cX0_open 61 = .ok (.iload_n 2, 1) := by decide +kernel
theorem dX0_open_62 : decode cX0_open 62 = .ok (.iconst 0, 1) := by decide +kernel
theorem dX0_open_63 : decode cX0_open 63 = .ok (.iastore, 1) := by decide +kernel
theorem dX0_open_64 : decode cX0_open 64 = .ok (.iinc 2 1, 3) := by decide +kernel
theorem dX0_open_67 : decode cX0_open 67 = .ok (.goto (-22), 3) := by decide +kernel
theorem dX0_open_70 : decode cX0_open 70 = .ok (.return_, 1) := by decide +kernel
theorem dX0_copyFrom_0 : decode cX0_copyFrom 0 = .ok (.aload_n 0, 1) := by decide +kernel
theorem dX0_copyFrom_1 : decode cX0_copyFrom 1 = .ok (.aload_n 1, 1) := by decide +kernel
theorem dX0_copyFrom_2 : decode cX0_copyFrom 2 = .ok (.getfield 36, 3) := by decide +kernel
theorem dX0_copyFrom_5 : decode cX0_copyFrom 5 = .ok (.putfield 36, 3) := by decide +kernel
theorem dX0_copyFrom_8 : decode cX0_copyFrom 8 = .ok (.aload_n 1, 1) := by decide +kernel
theorem dX0_copyFrom_9 : decode cX0_copyFrom 9 = .ok (.getfield 9, 3) := by decide +kernel
theorem dX0_copyFrom_12 : decode cX0_copyFrom 12 = .ok (.iconst 0, 1) := by decide +kernel
theorem dX0_copyFrom_13 : decode cX0_copyFrom 13 = .ok (.aload_n 0, 1) := by decide +kernel
theorem dX0_copyFrom_14 : decode cX0_copyFrom 14 = .ok (.getfield 9, 3) := by decide +kernel
theorem dX0_copyFrom_17 : decode cX0_copyFrom 17 = .ok (.iconst 0, 1) := by decide +kernel
theorem dX0_copyFrom_18 : decode cX0_copyFrom 18 = .ok (.bipush 8, 2) := by decide +kernel
theorem dX0_copyFrom_20 : decode cX0_copyFrom 20 = .ok (.invokestatic 49, 3) := by decide +kernel
theorem dX0_copyFrom_23 : decode cX0_copyFrom 23 = .ok (.aload_n 1, 1) := by decide +kernel
theorem dX0_copyFrom_24 : decode cX0_copyFrom 24 = .ok (.getfield 15, 3) := by decide +kernel
theorem dX0_copyFrom_27 : decode cX0_copyFrom 27 = .ok (.iconst 0, 1) := by decide +kernel
theorem dX0_copyFrom_28 : decode cX0_copyFrom 28 = .ok (.aload_n 0, 1) := by decide +kernel
theorem dX0_copyFrom_29 : decode cX0_copyFrom 29 = .ok (.getfield 15, 3) := by decide +kernel
theorem dX0_copyFrom_32 : decode cX0_copyFrom 32 = .ok (.iconst 0, 1) := by decide +kernel
theorem dX0_copyFrom_33 : decode cX0_copyFrom 33 = .ok (.iconst 3, 1) := by decide +kernel
theorem dX0_copyFrom_34 : decode cX0_copyFrom 34 = .ok (.invokestatic 49, 3) := by decide +kernel
theorem dX0_copyFrom_37 : decode cX0_copyFrom 37 = .ok (.aload_n 1, 1) := by decide +kernel
theorem dX0_copyFrom_38 : decode cX0_copyFrom 38 = .ok (.getfield 18, 3) := by decide +kernel
theorem dX0_copyFrom_41 : decode cX0_copyFrom 41 = .ok (.iconst 0, 1) := by decide +kernel
theorem dX0_copyFrom_42 : decode cX0_copyFrom 42 = .ok (.aload_n 0, 1) := by decide +kernel
theorem dX0_copyFrom_43 : decode cX0_copyFrom 43 = .ok (.getfield 18, 3) := by decide +kernel
theorem dX0_copyFrom_46 : decode cX0_copyFrom 46 = .ok (.iconst 0, 1) := by decide +kernel
theorem dX0_copyFrom_47 : decode cX0_copyFrom 47 = .ok (.iconst 3, 1) := by decide +kernel
theorem dX0_copyFrom_48 : decode cX0_copyFrom 48 = .ok (.invokestatic 49, 3) := by decide +kernel
theorem dX0_copyFrom_51 : decode cX0_copyFrom 51 = .ok (.aload_n 1, 1) := by decide +kernel
theorem dX0_copyFrom_52 : decode cX0_copyFrom 52 = .ok (.getfield 21, 3) := by decide +kernel
theorem dX0_copyFrom_55 : decode cX0_copyFrom 55 = .ok (.iconst 0, 1) := by decide +kernel
theorem dX0_copyFrom_56 : decode cX0_copyFrom 56 = .ok (.aload_n 0, 1) := by decide +kernel
theorem dX0_copyFrom_57 : decode cX0_copyFrom 57 = .ok (.getfield 21, 3) := by decide +kernel
theorem dX0_copyFrom_60 : decode cX0_copyFrom 60 = .ok (.iconst 0, 1) := by decide +kernel
theorem dX0_copyFrom_61 : decode cX0_copyFrom 61 = .ok (.bipush 24, 2) := by decide +kernel
theorem dX0_copyFrom_63 : decode cX0_copyFrom 63 = .ok (.invokestatic 49, 3) := by decide +kernel
theorem dX0_copyFrom_66 : decode cX0_copyFrom 66 = .ok (.aload_n 1, 1) := by decide +kernel
theorem dX0_copyFrom_67 : decode cX0_copyFrom 67 = .ok (.getfield 24, 3) := by decide +kernel
theorem dX0_copyFrom_70 : decode cX0_copyFrom 70 = .ok (.iconst 0, 1) := by decide +kernel
theorem dX0_copyFrom_71 : decode cX0_copyFrom 71 = .ok (.aload_n 0, 1) := by decide +kernel
theorem dX0_copyFrom_72 : decode cX0_copyFrom 72 = .ok (.getfield 24, 3) := by decide +kernel
theorem dX0_copyFrom_75 : decode cX0_copyFrom 75 = .ok (.iconst 0, 1) := by decide +kernel
theorem dX0_copyFrom_76 : decode cX0_copyFrom 76 = .ok (.bipush 24, 2) := by decide +kernel
theorem dX0_copyFrom_78 : decode cX0_copyFrom 78 = .ok (.invokestatic 49, 3) := by decide +kernel
theorem dX0_copyFrom_81 : decode cX0_copyFrom 81 = .ok (.aload_n 1, 1) := by decide +kernel
theorem dX0_copyFrom_82 : decode cX0_copyFrom 82 = .ok (.getfield 27, 3) := by decide +kernel
theorem dX0_copyFrom_85 : decode cX0_copyFrom 85 = .ok (.iconst 0, 1) := by decide +kernel
theorem dX0_copyFrom_86 : decode cX0_copyFrom 86 = .ok (.aload_n 0, 1) := by decide +kernel
theorem dX0_copyFrom_87 : decode cX0_copyFrom 87 = .ok (.getfield 27, 3) := by decide +kernel
theorem dX0_copyFrom_90 : decode cX0_copyFrom 90 = .ok (.iconst 0, 1) := by decide +kernel
theorem dX0_copyFrom_91 : decode cX0_copyFrom 91 = .ok (.bipush 24, 2) := by decide +kernel
theorem dX0_copyFrom_93 : decode cX0_copyFrom 93 = .ok (.invokestatic 49, 3) := by decide +kernel
theorem dX0_copyFrom_96 : decode cX0_copyFrom 96 = .ok (.aload_n 1, 1) := by decide +kernel
theorem dX0_copyFrom_97 : decode cX0_copyFrom 97 = .ok (.getfield 30, 3) := by decide +kernel
theorem dX0_copyFrom_100 : decode cX0_copyFrom 100 = .ok (.iconst 0, 1) := by decide +kernel
theorem dX0_copyFrom_101 : decode cX0_copyFrom 101 = .ok (.aload_n 0, 1) := by decide +kernel
theorem dX0_copyFrom_102 : decode cX0_copyFrom 102 = .ok (.getfield 30, 3) := by decide +kernel
theorem dX0_copyFrom_105 : decode cX0_copyFrom 105 = .ok (.iconst 0, 1) := by decide +kernel
theorem dX0_copyFrom_106 : decode cX0_copyFrom 106 = .ok (.bipush 24, 2) := by decide +kernel
theorem dX0_copyFrom_108 : decode cX0_copyFrom 108 = .ok (.invokestatic 49, 3) := by decide +kernel
theorem dX0_copyFrom_111 : decode cX0_copyFrom 111 = .ok (.aload_n 1, 1) := by decide +kernel
theorem dX0_copyFrom_112 : decode cX0_copyFrom 112 = .ok (.getfield 33, 3) := by decide +kernel
theorem dX0_copyFrom_115 : decode cX0_copyFrom 115 = .ok (.iconst 0, 1) := by decide +kernel
theorem dX0_copyFrom_116 : decode cX0_copyFrom 116 = .ok (.aload_n 0, 1) := by decide +kernel
theorem dX0_copyFrom_117 : decode cX0_copyFrom 117 = .ok (.getfield 33, 3) := by decide +kernel
theorem dX0_copyFrom_120 : decode cX0_copyFrom 120 = .ok (.iconst 0, 1) := by decide +kernel
theorem dX0_copyFrom_121 : decode cX0_copyFrom 121 = .ok (.bipush 24, 2) := by decide +kernel
theorem dX0_copyFrom_123 : decode cX0_copyFrom 123 = .ok (.invokestatic 49, 3) := by decide +kernel
theorem dX0_copyFrom_126 : decode cX0_copyFrom 126 = .ok (.return_, 1) := by decide +kernel
theorem dX0_slotOf_0 : decode cX0_slotOf 0 = .ok (.iload_n 1, 1) := by decide +kernel
theorem dX0_slotOf_1 : decode cX0_slotOf 1 = .ok (.ifCond .lt 37, 3) := by decide +kernel
theorem dX0_slotOf_4 : decode cX0_slotOf 4 = .ok (.iload_n 1, 1) := by decide +kernel
theorem dX0_slotOf_5 : decode cX0_slotOf 5 = .ok (.iconst 3, 1) := by decide +kernel
theorem dX0_slotOf_6 : decode cX0_slotOf 6 = .ok (.if_icmp .ge 32, 3) := by decide +kernel
theorem dX0_slotOf_9 : decode cX0_slotOf 9 = .ok (.iload_n 2, 1) := by decide +kernel
theorem dX0_slotOf_10 : decode cX0_slotOf 10 = .ok (.ifCond .lt 28, 3) := by decide +kernel
theorem dX0_slotOf_13 : decode cX0_slotOf 13 = .ok (.iload_n 2, 1) := by decide +kernel
theorem dX0_slotOf_14 : decode cX0_slotOf 14 = .ok (.bipush 8, 2) := by decide +kernel
theorem dX0_slotOf_16 : decode cX0_slotOf 16 = .ok (.if_icmp .ge 22, 3) := by decide +kernel
theorem dX0_slotOf_19 : decode cX0_slotOf 19 = .ok (.iload_n 2, 1) := by decide +kernel
theorem dX0_slotOf_20 : decode cX0_slotOf 20 = .ok (.aload_n 0, 1) := by decide +kernel
theorem dX0_slotOf_21 : decode cX0_slotOf 21 = .ok (.getfield 18, 3) := by decide +kernel
theorem dX0_slotOf_24 : decode cX0_slotOf 24 = .ok (.iload_n 1, 1) := by decide +kernel
theorem dX0_slotOf_25 : decode cX0_slotOf 25 = .ok (.iaload, 1) := by decide +kernel
theorem dX0_slotOf_26 : decode cX0_slotOf 26 = .ok (.if_icmp .ge 12, 3) := by decide +kernel
theorem dX0_slotOf_29 : decode cX0_slotOf 29 = .ok (.iload_n 1, 1) := by decide +kernel
theorem dX0_slotOf_30 : decode cX0_slotOf 30 = .ok (.bipush 8, 2) := by decide +kernel
theorem dX0_slotOf_32 : decode cX0_slotOf 32 = .ok (.imul, 1) := by decide +kernel
theorem dX0_slotOf_33 : decode cX0_slotOf 33 = .ok (.iload_n 2, 1) := by decide +kernel
theorem dX0_slotOf_34 : decode cX0_slotOf 34 = .ok (.iadd, 1) := by decide +kernel
theorem dX0_slotOf_35 : decode cX0_slotOf 35 = .ok (.goto 4, 3) := by decide +kernel
theorem dX0_slotOf_38 : decode cX0_slotOf 38 = .ok (.iconst (-1), 1) := by decide +kernel
theorem dX0_slotOf_39 : decode cX0_slotOf 39 = .ok (.ireturn, 1) := by decide +kernel
theorem dX0_isLine_0 : decode cX0_isLine 0 = .ok (.iload_n 1, 1) := by decide +kernel
theorem dX0_isLine_1 : decode cX0_isLine 1 = .ok (.ifCond .lt 29, 3) := by decide +kernel
theorem dX0_isLine_4 : decode cX0_isLine 4 = .ok (.iload_n 1, 1) := by decide +kernel
theorem dX0_isLine_5 : decode cX0_isLine 5 = .ok (.bipush 24, 2) := by decide +kernel
theorem dX0_isLine_7 : decode cX0_isLine 7 = .ok (.if_icmp .ge 23, 3) := by decide +kernel
theorem dX0_isLine_10 : decode cX0_isLine 10 = .ok (.iload_n 1, 1) := by decide +kernel
theorem dX0_isLine_11 : decode cX0_isLine 11 = .ok (.bipush 8, 2) := by decide +kernel
theorem dX0_isLine_13 : decode cX0_isLine 13 = .ok (.irem, 1) := by decide +kernel
theorem dX0_isLine_14 : decode cX0_isLine 14 = .ok (.aload_n 0, 1) := by decide +kernel
theorem dX0_isLine_15 : decode cX0_isLine 15 = .ok (.getfield 18, 3) := by decide +kernel
theorem dX0_isLine_18 : decode cX0_isLine 18 = .ok (.iload_n 1, 1) := by decide +kernel
theorem dX0_isLine_19 : decode cX0_isLine 19 = .ok (.bipush 8, 2) := by decide +kernel
theorem dX0_isLine_21 : decode cX0_isLine 21 = .ok (.idiv, 1) := by decide +kernel
theorem dX0_isLine_22 : decode cX0_isLine 22 = .ok (.iaload, 1) := by decide +kernel
theorem dX0_isLine_23 : decode cX0_isLine 23 = .ok (.if_icmp .ge 7, 3) := by decide +kernel
theorem dX0_isLine_26 : decode cX0_isLine 26 = .ok (.iconst 1, 1) := by decide +kernel
theorem dX0_isLine_27 : decode cX0_isLine 27 = .ok (.goto 4, 3) := by decide +kernel
theorem dX0_isLine_30 : decode cX0_isLine 30 = .ok (.iconst 0, 1) := by decide +kernel
theorem dX0_isLine_31 : decode cX0_isLine 31 = .ok (.ireturn, 1) := by decide +kernel
set_option maxRecDepth 20000 in
theorem ggX0_isOfTwo_X0_isLine : GoodIn wsX0_isOfTwo wsX0_isLine := goodIn_r _ [6, 7, 8, 9, 10, 11, 12, 13, 14, 15, 16] rfl (by decide +kernel)
set_option maxRecDepth 20000 in
theorem gX0_isOfTwo_X0_isLine : GoodIn wsX0_isOfTwo (wsV RX0 55 RX0 yX0_isLine wsX0_isLine) := goodIn_app (goodIn_of _ (by decide +kernel)) ggX0_isOfTwo_X0_isLine
theorem dX0_isOfTwo_0 : decode cX0_isOfTwo 0 = .ok (.aload_n 0, 1) := by decide +kernel
theorem dX0_isOfTwo_1 : decode cX0_isOfTwo 1 = .ok (.iload_n 1, 1) := by decide +kernel
theorem dX0_isOfTwo_2 : decode cX0_isOfTwo 2 = .ok (.invokevirtual 55, 3) := by decide +kernel
theorem dX0_isOfTwo_5 : decode cX0_isOfTwo 5 = .ok (.ifCond .eq 17, 3) := by decide +kernel
theorem dX0_isOfTwo_8 : decode cX0_isOfTwo 8 = .ok (.aload_n 0, 1) := by decide +kernel
theorem dX0_isOfTwo_9 : decode cX0_isOfTwo 9 = .ok (.getfield 21, 3) := by decide +kernel
theorem dX0_isOfTwo_12 : decode cX0_isOfTwo 12 = .ok (.iload_n 1, 1) := by decide +kernel
theorem dX0_isOfTwo_13 : decode cX0_isOfTwo 13 = .ok (.iaload, 1) := by decide +kernel
theorem dX0_isOfTwo_14 : decode cX0_isOfTwo 14 = .ok (.iconst 1, 1) := by decide +kernel
theorem dX0_isOfTwo_15 : decode cX0_isOfTwo 15 = .ok (.if_icmp .ne 7, 3) := by decide +kernel
theorem dX0_isOfTwo_18 : decode cX0_isOfTwo 18 = .ok (.iconst 1, 1) := by decide +kernel
theorem dX0_isOfTwo_19 : decode cX0_isOfTwo 19 = .ok (.goto 4, 3) := by decide +kernel
theorem dX0_isOfTwo_22 : decode cX0_isOfTwo 22 = .ok (.iconst 0, 1) := by decide +kernel
theorem dX0_isOfTwo_23 : decode cX0_isOfTwo 23 = .ok (.ireturn, 1) := by decide +kernel
theorem dX0_hasRoom_0 : decode cX0_hasRoom 0 = .ok (.iload_n 1, 1) := by decide +kernel
theorem dX0_hasRoom_1 : decode cX0_hasRoom 1 = .ok (.ifCond .lt 23, 3) := by decide +kernel
theorem dX0_hasRoom_4 : decode cX0_hasRoom 4 = .ok (.iload_n 1, 1) := by decide +kernel
theorem dX0_hasRoom_5 : decode cX0_hasRoom 5 = .ok (.iconst 3, 1) := by decide +kernel
theorem dX0_hasRoom_6 : decode cX0_hasRoom 6 = .ok (.if_icmp .ge 18, 3) := by decide +kernel
theorem dX0_hasRoom_9 : decode cX0_hasRoom 9 = .ok (.aload_n 0, 1) := by decide +kernel
theorem dX0_hasRoom_10 : decode cX0_hasRoom 10 = .ok (.getfield 18, 3) := by decide +kernel
theorem dX0_hasRoom_13 : decode cX0_hasRoom 13 = .ok (.iload_n 1, 1) := by decide +kernel
theorem dX0_hasRoom_14 : decode cX0_hasRoom 14 = .ok (.iaload, 1) := by decide +kernel
theorem dX0_hasRoom_15 : decode cX0_hasRoom 15 = .ok (.bipush 8, 2) := by decide +kernel
theorem dX0_hasRoom_17 : decode cX0_hasRoom 17 = .ok (.if_icmp .ge 7, 3) := by decide +kernel
theorem dX0_hasRoom_20 : decode cX0_hasRoom 20 = .ok (.iconst 1, 1) := by decide +kernel
theorem dX0_hasRoom_21 : decode cX0_hasRoom 21 = .ok (.goto 4, 3) := by decide +kernel
theorem dX0_hasRoom_24 : decode cX0_hasRoom 24 = .ok (.iconst 0, 1) := by decide +kernel
theorem dX0_hasRoom_25 : decode cX0_hasRoom 25 = .ok (.ireturn, 1) := by decide +kernel
set_option maxRecDepth 20000 in
theorem ggX0_begin_X0_hasRoom : GoodIn wsX0_begin wsX0_hasRoom := goodIn_r _ [9, 1, 14, 15, 16, 17, 18, 19, 20, 21, 22] rfl (by decide +kernel)
set_option maxRecDepth 20000 in
theorem gX0_begin_X0_hasRoom : GoodIn wsX0_begin (wsV RX0 58 RX0 yX0_hasRoom wsX0_hasRoom) := goodIn_app (goodIn_of _ (by decide +kernel)) ggX0_begin_X0_hasRoom
set_option maxRecDepth 20000 in
theorem ggX0_begin_X0_slotOf : GoodIn wsX0_begin wsX0_slotOf := goodIn_r _ [13, 1, 14, 15, 16, 17, 18, 19, 20, 21, 22] rfl (by decide +kernel)
set_option maxRecDepth 20000 in
theorem gX0_begin_X0_slotOf : GoodIn wsX0_begin (wsV RX0 61 RX0 yX0_slotOf wsX0_slotOf) := goodIn_app (goodIn_of _ (by decide +kernel)) ggX0_begin_X0_slotOf
theorem dX0_begin_0 : decode cX0_begin 0 = .ok (.aload_n 0, 1) := by decide +kernel
theorem dX0_begin_1 : decode cX0_begin 1 = .ok (.iload_n 1, 1) := by decide +kernel
theorem dX0_begin_2 : decode cX0_begin 2 = .ok (.invokevirtual 58, 3) := by decide +kernel
theorem dX0_begin_5 : decode cX0_begin 5 = .ok (.ifCond .ne 6, 3) := by decide +kernel
theorem dX0_begin_8 : decode cX0_begin 8 = .ok (.bipush (-3), 2) := by decide +kernel
theorem dX0_begin_10 : decode cX0_begin 10 = .ok (.ireturn, 1) := by decide +kernel
theorem dX0_begin_11 : decode cX0_begin 11 = .ok (.aload_n 0, 1) := by decide +kernel
theorem dX0_begin_12 : decode cX0_begin 12 = .ok (.getfield 18, 3) := by decide +kernel
theorem dX0_begin_15 : decode cX0_begin 15 = .ok (.iload_n 1, 1) := by decide +kernel
theorem dX0_begin_16 : decode cX0_begin 16 = .ok (.iaload, 1) := by decide +kernel
theorem dX0_begin_17 : decode cX0_begin 17 = .ok (.istore_n 2, 1) := by decide +kernel
theorem dX0_begin_18 : decode cX0_begin 18 = .ok (.aload_n 0, 1) := by decide +kernel
theorem dX0_begin_19 : decode cX0_begin 19 = .ok (.getfield 18, 3) := by decide +kernel
theorem dX0_begin_22 : decode cX0_begin 22 = .ok (.iload_n 1, 1) := by decide +kernel
theorem dX0_begin_23 : decode cX0_begin 23 = .ok (.dup2, 1) := by decide +kernel
theorem dX0_begin_24 : decode cX0_begin 24 = .ok (.iaload, 1) := by decide +kernel
theorem dX0_begin_25 : decode cX0_begin 25 = .ok (.iconst 1, 1) := by decide +kernel
theorem dX0_begin_26 : decode cX0_begin 26 = .ok (.iadd, 1) := by decide +kernel
theorem dX0_begin_27 : decode cX0_begin 27 = .ok (.iastore, 1) := by decide +kernel
theorem dX0_begin_28 : decode cX0_begin 28 = .ok (.aload_n 0, 1) := by decide +kernel
theorem dX0_begin_29 : decode cX0_begin 29 = .ok (.iload_n 1, 1) := by decide +kernel
theorem dX0_begin_30 : decode cX0_begin 30 = .ok (.iload_n 2, 1) := by decide +kernel
theorem dX0_begin_31 : decode cX0_begin 31 = .ok (.invokevirtual 61, 3) := by decide +kernel
theorem dX0_begin_34 : decode cX0_begin 34 = .ok (.istore_n 3, 1) := by decide +kernel
theorem dX0_begin_35 : decode cX0_begin 35 = .ok (.iload_n 3, 1) := by decide +kernel
theorem dX0_begin_36 : decode cX0_begin 36 = .ok (.iconst (-1), 1) := by decide +kernel
theorem dX0_begin_37 : decode cX0_begin 37 = .ok (.if_icmp .ne 6, 3) := by decide +kernel
theorem dX0_begin_40 : decode cX0_begin 40 = .ok (.bipush (-3), 2) := by decide +kernel
theorem dX0_begin_42 : decode cX0_begin 42 = .ok (.ireturn, 1) := by decide +kernel
theorem dX0_begin_43 : decode cX0_begin 43 = .ok (.aload_n 0, 1) := by decide +kernel
theorem dX0_begin_44 : decode cX0_begin 44 = .ok (.getfield 21, 3) := by decide +kernel
theorem dX0_begin_47 : decode cX0_begin 47 = .ok (.iload_n 3, 1) := by decide +kernel
theorem dX0_begin_48 : decode cX0_begin 48 = .ok (.iconst 0, 1) := by decide +kernel
theorem dX0_begin_49 : decode cX0_begin 49 = .ok (.iastore, 1) := by decide +kernel
theorem dX0_begin_50 : decode cX0_begin 50 = .ok (.aload_n 0, 1) := by decide +kernel
theorem dX0_begin_51 : decode cX0_begin 51 = .ok (.getfield 24, 3) := by decide +kernel
theorem dX0_begin_54 : decode cX0_begin 54 = .ok (.iload_n 3, 1) := by decide +kernel
theorem dX0_begin_55 : decode cX0_begin 55 = .ok (.aload_n 0, 1) := by decide +kernel
theorem dX0_begin_56 : decode cX0_begin 56 = .ok (.getfield 36, 3) := by decide +kernel
theorem dX0_begin_59 : decode cX0_begin 59 = .ok (.iastore, 1) := by decide +kernel
theorem dX0_begin_60 : decode cX0_begin 60 = .ok (.iload_n 2, 1) := by decide +kernel
theorem dX0_begin_61 : decode cX0_begin 61 = .ok (.ireturn, 1) := by decide +kernel
set_option maxRecDepth 20000 in
theorem ggX0_countOf_X0_isLine : GoodIn wsX0_countOf wsX0_isLine := goodIn_r _ [6, 7, 8, 9, 10, 11, 12, 13, 14, 15, 16] rfl (by decide +kernel)
set_option maxRecDepth 20000 in
theorem gX0_countOf_X0_isLine : GoodIn wsX0_countOf (wsV RX0 55 RX0 yX0_isLine wsX0_isLine) := goodIn_app (goodIn_of _ (by decide +kernel)) ggX0_countOf_X0_isLine
theorem dX0_countOf_0 : decode cX0_countOf 0 = .ok (.iconst 0, 1) := by decide +kernel
theorem dX0_countOf_1 : decode cX0_countOf 1 = .ok (.istore_n 2, 1) := by decide +kernel
theorem dX0_countOf_2 : decode cX0_countOf 2 = .ok (.iconst 0, 1) := by decide +kernel
theorem dX0_countOf_3 : decode cX0_countOf 3 = .ok (.istore_n 3, 1) := by decide +kernel
theorem dX0_countOf_4 : decode cX0_countOf 4 = .ok (.iload_n 3, 1) := by decide +kernel
theorem dX0_countOf_5 : decode cX0_countOf 5 = .ok (.bipush 24, 2) := by decide +kernel
theorem dX0_countOf_7 : decode cX0_countOf 7 = .ok (.if_icmp .ge 30, 3) := by decide +kernel
theorem dX0_countOf_10 : decode cX0_countOf 10 = .ok (.aload_n 0, 1) := by decide +kernel
theorem dX0_countOf_11 : decode cX0_countOf 11 = .ok (.iload_n 3, 1) := by decide +kernel
theorem dX0_countOf_12 : decode cX0_countOf 12 = .ok (.invokevirtual 55, 3) := by decide +kernel
theorem dX0_countOf_15 : decode cX0_countOf 15 = .ok (.ifCond .eq 16, 3) := by decide +kernel
theorem dX0_countOf_18 : decode cX0_countOf 18 = .ok (.aload_n 0, 1) := by decide +kernel
theorem dX0_countOf_19 : decode cX0_countOf 19 = .ok (.getfield 21, 3) := by decide +kernel
theorem dX0_countOf_22 : decode cX0_countOf 22 = .ok (.iload_n 3, 1) := by decide +kernel
theorem dX0_countOf_23 : decode cX0_countOf 23 = .ok (.iaload, 1) := by decide +kernel
theorem dX0_countOf_24 : decode cX0_countOf 24 = .ok (.iload_n 1, 1) := by decide +kernel
theorem dX0_countOf_25 : decode cX0_countOf 25 = .ok (.if_icmp .ne 6, 3) := by decide +kernel
theorem dX0_countOf_28 : decode cX0_countOf 28 = .ok (.iinc 2 1, 3) := by decide +kernel
theorem dX0_countOf_31 : decode cX0_countOf 31 = .ok (.iinc 3 1, 3) := by decide +kernel
theorem dX0_countOf_34 : decode cX0_countOf 34 = .ok (.goto (-30), 3) := by decide +kernel
theorem dX0_countOf_37 : decode cX0_countOf 37 = .ok (.iload_n 2, 1) := by decide +kernel
theorem dX0_countOf_38 : decode cX0_countOf 38 = .ok (.ireturn, 1) := by decide +kernel
set_option maxRecDepth 20000 in
theorem ggX0_blanksOf_X0_slotOf : GoodIn wsX0_blanksOf wsX0_slotOf := goodIn_r _ [6, 7, 8, 9, 10, 11, 12, 13, 14, 15, 16] rfl (by decide +kernel)
set_option maxRecDepth 20000 in
theorem gX0_blanksOf_X0_slotOf : GoodIn wsX0_blanksOf (wsV RX0 61 RX0 yX0_slotOf wsX0_slotOf) := goodIn_app (goodIn_of _ (by decide +kernel)) ggX0_blanksOf_X0_slotOf
theorem dX0_blanksOf_0 : decode cX0_blanksOf 0 = .ok (.iconst 0, 1) := by decide +kernel
theorem dX0_blanksOf_1 : decode cX0_blanksOf 1 = .ok (.istore_n 2, 1) := by decide +kernel
theorem dX0_blanksOf_2 : decode cX0_blanksOf 2 = .ok (.iconst 0, 1) := by decide +kernel
theorem dX0_blanksOf_3 : decode cX0_blanksOf 3 = .ok (.istore_n 3, 1) := by decide +kernel
theorem dX0_blanksOf_4 : decode cX0_blanksOf 4 = .ok (.iload_n 3, 1) := by decide +kernel
theorem dX0_blanksOf_5 : decode cX0_blanksOf 5 = .ok (.bipush 8, 2) := by decide +kernel
theorem dX0_blanksOf_7 : decode cX0_blanksOf 7 = .ok (.if_icmp .ge 36, 3) := by decide +kernel
theorem dX0_blanksOf_10 : decode cX0_blanksOf 10 = .ok (.aload_n 0, 1) := by decide +kernel
theorem dX0_blanksOf_11 : decode cX0_blanksOf 11 = .ok (.iload_n 1, 1) := by decide +kernel
theorem dX0_blanksOf_12 : decode cX0_blanksOf 12 = .ok (.iload_n 3, 1) := by decide +kernel
theorem dX0_blanksOf_13 : decode cX0_blanksOf 13 = .ok (.invokevirtual 61, 3) := by decide +kernel
theorem dX0_blanksOf_16 : decode cX0_blanksOf 16 = .ok (.istore 4, 2) := by decide +kernel
theorem dX0_blanksOf_18 : decode cX0_blanksOf 18 = .ok (.iload 4, 2) := by decide +kernel
theorem dX0_blanksOf_20 : decode cX0_blanksOf 20 = .ok (.iconst (-1), 1) := by decide +kernel
theorem dX0_blanksOf_21 : decode cX0_blanksOf 21 = .ok (.if_icmp .eq 16, 3) := by decide +kernel
theorem dX0_blanksOf_24 : decode cX0_blanksOf 24 = .ok (.aload_n 0, 1) := by decide +kernel
theorem dX0_blanksOf_25 : decode cX0_blanksOf 25 = .ok (.getfield 21, 3) := by decide +kernel
theorem dX0_blanksOf_28 : decode cX0_blanksOf 28 = .ok (.iload 4, 2) := by decide +kernel
theorem dX0_blanksOf_30 : decode cX0_blanksOf 30 = .ok (.iaload, 1) := by decide +kernel
theorem dX0_blanksOf_31 : decode cX0_blanksOf 31 = .ok (.ifCond .ne 6, 3) := by decide +kernel
theorem dX0_blanksOf_34 : decode cX0_blanksOf 34 = .ok (.iinc 2 1, 3) := by decide +kernel
theorem dX0_blanksOf_37 : decode cX0_blanksOf 37 = .ok (.iinc 3 1, 3) := by decide +kernel
theorem dX0_blanksOf_40 : decode cX0_blanksOf 40 = .ok (.goto (-36), 3) := by decide +kernel
theorem dX0_blanksOf_43 : decode cX0_blanksOf 43 = .ok (.iload_n 2, 1) := by decide +kernel
theorem dX0_blanksOf_44 : decode cX0_blanksOf 44 = .ok (.ireturn, 1) := by decide +kernel
set_option maxRecDepth 20000 in
theorem ggX0_linesWith_X0_isOfTwo : GoodIn wsX0_linesWith wsX0_isOfTwo := goodIn_r _ [7, 8, 9, 10, 11, 6, 12, 13, 14, 15, 16, 17, 18, 19, 20, 21, 22] rfl (by decide +kernel)
set_option maxRecDepth 20000 in
theorem gX0_linesWith_X0_isOfTwo : GoodIn wsX0_linesWith (wsV RX0 65 RX0 yX0_isOfTwo wsX0_isOfTwo) := goodIn_app (goodIn_of _ (by decide +kernel)) ggX0_linesWith_X0_isOfTwo
theorem dX0_linesWith_0 : decode cX0_linesWith 0 = .ok (.iconst 0, 1) := by decide +kernel
theorem dX0_linesWith_1 : decode cX0_linesWith 1 = .ok (.istore_n 2, 1) := by decide +kernel
theorem dX0_linesWith_2 : decode cX0_linesWith 2 = .ok (.iconst 0, 1) := by decide +kernel
theorem dX0_linesWith_3 : decode cX0_linesWith 3 = .ok (.istore_n 3, 1) := by decide +kernel
theorem dX0_linesWith_4 : decode cX0_linesWith 4 = .ok (.iload_n 3, 1) := by decide +kernel
theorem dX0_linesWith_5 : decode cX0_linesWith 5 = .ok (.bipush 24, 2) := by decide +kernel
theorem dX0_linesWith_7 : decode cX0_linesWith 7 = .ok (.if_icmp .ge 40, 3) := by decide +kernel
theorem dX0_linesWith_10 : decode cX0_linesWith 10 = .ok (.aload_n 0, 1) := by decide +kernel
theorem dX0_linesWith_11 : decode cX0_linesWith 11 = .ok (.iload_n 3, 1) := by decide +kernel
theorem dX0_linesWith_12 : decode cX0_linesWith 12 = .ok (.invokevirtual 65, 3) := by decide +kernel
theorem dX0_linesWith_15 : decode cX0_linesWith 15 = .ok (.ifCond .eq 26, 3) := by decide +kernel
theorem dX0_linesWith_18 : decode cX0_linesWith 18 = .ok (.aload_n 0, 1) := by decide +kernel
theorem dX0_linesWith_19 : decode cX0_linesWith 19 = .ok (.getfield 27, 3) := by decide +kernel
theorem dX0_linesWith_22 : decode cX0_linesWith 22 = .ok (.iload_n 3, 1) := by decide +kernel
theorem dX0_linesWith_23 : decode cX0_linesWith 23 = .ok (.iaload, 1) := by decide +kernel
theorem dX0_linesWith_24 : decode cX0_linesWith 24 = .ok (.iload_n 1, 1) := by decide +kernel
theorem dX0_linesWith_25 : decode cX0_linesWith 25 = .ok (.if_icmp .eq 13, 3) := by decide +kernel
theorem dX0_linesWith_28 : decode cX0_linesWith 28 = .ok (.aload_n 0, 1) := by decide +kernel
theorem dX0_linesWith_29 : decode cX0_linesWith 29 = .ok (.getfield 30, 3) := by decide +kernel
theorem dX0_linesWith_32 : decode cX0_linesWith 32 = .ok (.iload_n 3, 1) := by decide +kernel
theorem dX0_linesWith_33 : decode cX0_linesWith 33 = .ok (.iaload, 1) := by decide +kernel
theorem dX0_linesWith_34 : decode cX0_linesWith 34 = .ok (.iload_n 1, 1) := by decide +kernel
theorem dX0_linesWith_35 : decode cX0_linesWith 35 = .ok (.if_icmp .ne 6, 3) := by decide +kernel
theorem dX0_linesWith_38 : decode cX0_linesWith 38 = .ok (.iinc 2 1, 3) := by decide +kernel
theorem dX0_linesWith_41 : decode cX0_linesWith 41 = .ok (.iinc 3 1, 3) := by decide +kernel
theorem dX0_linesWith_44 : decode cX0_linesWith 44 = .ok (.goto (-40), 3) := by decide +kernel
theorem dX0_linesWith_47 : decode cX0_linesWith 47 = .ok (.iload_n 2, 1) := by decide +kernel
theorem dX0_linesWith_48 : decode cX0_linesWith 48 = .ok (.ireturn, 1) := by decide +kernel
theorem dX0_paidInAll_0 : decode cX0_paidInAll 0 = .ok (.iconst 0, 1) := by decide +kernel
theorem dX0_paidInAll_1 : decode cX0_paidInAll 1 = .ok (.istore_n 1, 1) := by decide +kernel
theorem dX0_paidInAll_2 : decode cX0_paidInAll 2 = .ok (.iconst 0, 1) := by decide +kernel
theorem dX0_paidInAll_3 : decode cX0_paidInAll 3 = .ok (.istore_n 2, 1) := by decide +kernel
theorem dX0_paidInAll_4 : decode cX0_paidInAll 4 = .ok (.iload_n 2, 1) := by decide +kernel
theorem dX0_paidInAll_5 : decode cX0_paidInAll 5 = .ok (.iconst 3, 1) := by decide +kernel
theorem dX0_paidInAll_6 : decode cX0_paidInAll 6 = .ok (.if_icmp .ge 18, 3) := by decide +kernel
theorem dX0_paidInAll_9 : decode cX0_paidInAll 9 = .ok (.iload_n 1, 1) := by decide +kernel
theorem dX0_paidInAll_10 : decode cX0_paidInAll 10 = .ok (.aload_n 0, 1) := by decide +kernel
theorem dX0_paidInAll_11 : decode cX0_paidInAll 11 = .ok (.getfield 15, 3) := by decide +kernel
theorem dX0_paidInAll_14 : decode cX0_paidInAll 14 = .ok (.iload_n 2, 1) := by decide +kernel
theorem dX0_paidInAll_15 : decode cX0_paidInAll 15 = .ok (.iaload, 1) := by decide +kernel
theorem dX0_paidInAll_16 : decode cX0_paidInAll 16 = .ok (.iadd, 1) := by decide +kernel
theorem dX0_paidInAll_17 : decode cX0_paidInAll 17 = .ok (.istore_n 1, 1) := by decide +kernel
theorem dX0_paidInAll_18 : decode cX0_paidInAll 18 = .ok (.iinc 2 1, 3) := by decide +kernel
theorem dX0_paidInAll_21 : decode cX0_paidInAll 21 = .ok (.goto (-17), 3) := by decide +kernel
theorem dX0_paidInAll_24 : decode cX0_paidInAll 24 = .ok (.iload_n 1, 1) := by decide +kernel
theorem dX0_paidInAll_25 : decode cX0_paidInAll 25 = .ok (.ireturn, 1) := by decide +kernel
theorem dX1_init_0 : decode cX1_init 0 = .ok (.aload_n 0, 1) := by decide +kernel
theorem dX1_init_1 : decode cX1_init 1 = .ok (.invokespecial 3, 3) := by decide +kernel
theorem dX1_init_4 : decode cX1_init 4 = .ok (.aload_n 0, 1) := by decide +kernel
theorem dX1_init_5 : decode cX1_init 5 = .ok (.bipush 8, 2) := by decide +kernel
theorem dX1_init_7 : decode cX1_init 7 = .ok (.newarray .int, 2) := by decide +kernel
theorem dX1_init_9 : decode cX1_init 9 = .ok (.putfield 9, 3) := by decide +kernel
theorem dX1_init_12 : decode cX1_init 12 = .ok (.aload_n 0, 1) := by decide +kernel
theorem dX1_init_13 : decode cX1_init 13 = .ok (.iconst 3, 1) := by decide +kernel
theorem dX1_init_14 : decode cX1_init 14 = .ok (.newarray .int, 2) := by decide +kernel
theorem dX1_init_16 : decode cX1_init 16 = .ok (.putfield 15, 3) := by decide +kernel
theorem dX1_init_19 : decode cX1_init 19 = .ok (.aload_n 0, 1) := by decide +kernel
theorem dX1_init_20 : decode cX1_init 20 = .ok (.aload_n 1, 1) := by decide +kernel
theorem dX1_init_21 : decode cX1_init 21 = .ok (.putfield 18, 3) := by decide +kernel
theorem dX1_init_24 : decode cX1_init 24 = .ok (.return_, 1) := by decide +kernel
set_option maxRecDepth 20000 in
theorem ggX1_settle_X1_takeEarliest : GoodIn wsX1_settle wsX1_takeEarliest := goodIn_r _ [10, 3, 2, 11, 12, 13, 14, 15, 16, 17, 34, 35, 36, 37, 38, 39, 40, 41, 42, 43, 44, 45] rfl (by decide +kernel)
set_option maxRecDepth 20000 in
theorem gX1_settle_X1_takeEarliest : GoodIn wsX1_settle (wsV RX1 22 RX1 yX1_takeEarliest wsX1_takeEarliest) := goodIn_app (goodIn_of _ (by decide +kernel)) ggX1_settle_X1_takeEarliest
set_option maxRecDepth 20000 in
theorem ggX1_settle_X0_isOfTwo : GoodIn wsX1_settle wsX0_isOfTwo := goodIn_r _ [21, 22, 23, 24, 25, 15, 26, 17, 37, 38, 39, 40, 41, 42, 43, 44, 45] rfl (by decide +kernel)
set_option maxRecDepth 20000 in
theorem gX1_settle_X0_isOfTwo : GoodIn wsX1_settle (wsV RX1 26 RX0 yX0_isOfTwo wsX0_isOfTwo) := goodIn_app (goodIn_of _ (by decide +kernel)) ggX1_settle_X0_isOfTwo
set_option maxRecDepth 20000 in
theorem ggX1_settle_X1_holdIfFree : GoodIn wsX1_settle wsX1_holdIfFree := goodIn_r _ [30, 1, 31, 32, 9, 33, 34, 35, 36] rfl (by decide +kernel)
set_option maxRecDepth 20000 in
theorem gX1_settle_X1_holdIfFree : GoodIn wsX1_settle (wsV RX1 38 RX1 yX1_holdIfFree wsX1_holdIfFree) := goodIn_app (goodIn_of _ (by decide +kernel)) ggX1_settle_X1_holdIfFree
theorem dX1_settle_0 : decode cX1_settle 0 = .ok (.iconst 0, 1) := by decide +kernel
theorem dX1_settle_1 : decode cX1_settle 1 = .ok (.istore_n 2, 1) := by decide +kernel
theorem dX1_settle_2 : decode cX1_settle 2 = .ok (.iload_n 2, 1) := by decide +kernel
theorem dX1_settle_3 : decode cX1_settle 3 = .ok (.bipush 8, 2) := by decide +kernel
theorem dX1_settle_5 : decode cX1_settle 5 = .ok (.if_icmp .ge 16, 3) := by decide +kernel
theorem dX1_settle_8 : decode cX1_settle 8 = .ok (.aload_n 0, 1) := by decide +kernel
theorem dX1_settle_9 : decode cX1_settle 9 = .ok (.getfield 9, 3) := by decide +kernel
theorem dX1_settle_12 : decode cX1_settle 12 = .ok (.iload_n 2, 1) := by decide +kernel
theorem dX1_settle_13 : decode cX1_settle 13 = .ok (.iconst (-1), 1) := by decide +kernel
theorem dX1_settle_14 : decode cX1_settle 14 = .ok (.iastore, 1) := by decide +kernel
theorem dX1_settle_15 : decode cX1_settle 15 = .ok (.iinc 2 1, 3) := by decide +kernel
theorem dX1_settle_18 : decode cX1_settle 18 = .ok (.goto (-16), 3) := by decide +kernel
theorem dX1_settle_21 : decode cX1_settle 21 = .ok (.iconst 0, 1) := by decide +kernel
theorem dX1_settle_22 : decode cX1_settle 22 = .ok (.istore_n 2, 1) := by decide +kernel
theorem dX1_settle_23 : decode cX1_settle 23 = .ok (.iload_n 2, 1) := by decide +kernel
theorem dX1_settle_24 : decode cX1_settle 24 = .ok (.iconst 3, 1) := by decide +kernel
theorem dX1_settle_25 : decode cX1_settle 25 = .ok (.if_icmp .ge 16, 3) := by decide +kernel
theorem dX1_settle_28 : decode cX1_settle 28 = .ok (.aload_n 0, 1) := by decide +kernel
theorem dX1_settle_29 : decode cX1_settle 29 = .ok (.getfield 15, 3) := by decide +kernel
theorem dX1_settle_32 : decode cX1_settle 32 = .ok (.iload_n 2, 1) := by decide +kernel
theorem dX1_settle_33 : decode cX1_settle 33 = .ok (.iconst 0, 1) := by decide +kernel
theorem dX1_settle_34 : decode cX1_settle 34 = .ok (.iastore, 1) := by decide +kernel
theorem dX1_settle_35 : decode cX1_settle 35 = .ok (.iinc 2 1, 3) := by decide +kernel
theorem dX1_settle_38 : decode cX1_settle 38 = .ok (.goto (-15), 3) := by decide +kernel
theorem dX1_settle_41 : decode cX1_settle 41 = .ok (.iconst 0, 1) := by decide +kernel
theorem dX1_settle_42 : decode cX1_settle 42 = .ok (.istore_n 2, 1) := by decide +kernel
theorem dX1_settle_43 : decode cX1_settle 43 = .ok (.iload_n 2, 1) := by decide +kernel
theorem dX1_settle_44 : decode cX1_settle 44 = .ok (.bipush 24, 2) := by decide +kernel
theorem dX1_settle_46 : decode cX1_settle 46 = .ok (.if_icmp .ge 53, 3) := by decide +kernel
theorem dX1_settle_49 : decode cX1_settle 49 = .ok (.aload_n 0, 1) := by decide +kernel
theorem dX1_settle_50 : decode cX1_settle 50 = .ok (.invokevirtual 22, 3) := by decide +kernel
theorem dX1_settle_53 : decode cX1_settle 53 = .ok (.istore_n 3, 1) := by decide +kernel
theorem dX1_settle_54 : decode cX1_settle 54 = .ok (.iload_n 3, 1) := by decide +kernel
theorem dX1_settle_55 : decode cX1_settle 55 = .ok (.iload_n 1, 1) := by decide +kernel
theorem dX1_settle_56 : decode cX1_settle 56 = .ok (.if_icmp .eq 37, 3) := by decide +kernel
theorem dX1_settle_59 : decode cX1_settle 59 = .ok (.aload_n 0, 1) := by decide +kernel
theorem dX1_settle_60 : decode cX1_settle 60 = .ok (.getfield 18, 3) := by decide +kernel
theorem dX1_settle_63 : decode cX1_settle 63 = .ok (.iload_n 3, 1) := by decide +kernel
theorem dX1_settle_64 : decode cX1_settle 64 = .ok (.invokevirtual 26, 3) := by decide +kernel
theorem dX1_settle_67 : decode cX1_settle 67 = .ok (.ifCond .eq 26, 3) := by decide +kernel
theorem dX1_settle_70 : decode cX1_settle 70 = .ok (.aload_n 0, 1) := by decide +kernel
theorem dX1_settle_71 : decode cX1_settle 71 = .ok (.iload_n 3, 1) := by decide +kernel
theorem dX1_settle_72 : decode cX1_settle 72 = .ok (.aload_n 0, 1) := by decide +kernel
theorem dX1_settle_73 : decode cX1_settle 73 = .ok (.getfield 18, 3) := by decide +kernel
theorem dX1_settle_76 : decode cX1_settle 76 = .ok (.getfield 32, 3) := by decide +kernel
theorem dX1_settle_79 : decode cX1_settle 79 = .ok (.iload_n 3, 1) := by decide +kernel
theorem dX1_settle_80 : decode cX1_settle 80 = .ok (.iaload, 1) := by decide +kernel
theorem dX1_settle_81 : decode cX1_settle 81 = .ok (.aload_n 0, 1) := by decide +kernel
theorem dX1_settle_82 : decode cX1_settle 82 = .ok (.getfield 18, 3) := by decide +kernel
theorem dX1_settle_85 : decode cX1_settle 85 = .ok (.getfield 35, 3) := by decide +kernel
theorem dX1_settle_88 : decode cX1_settle 88 = .ok (.iload_n 3, 1) := by decide +kernel
theorem dX1_settle_89 : decode cX1_settle 89 = .ok (.iaload, 1) := by decide +kernel
theorem dX1_settle_90 : decode cX1_settle 90 = .ok (.invokevirtual 38, 3) := by decide +kernel
theorem dX1_settle_93 : decode cX1_settle 93 = .ok (.iinc 2 1, 3) := by decide +kernel
theorem dX1_settle_96 : decode cX1_settle 96 = .ok (.goto (-53), 3) := by decide +kernel
theorem dX1_settle_99 : decode cX1_settle 99 = .ok (.return_, 1) := by decide +kernel
set_option maxRecDepth 20000 in
theorem ggX1_takeEarliest_X0_slotOf : GoodIn wsX1_takeEarliest wsX0_slotOf := goodIn_r _ [8, 9, 13, 14, 15, 16, 17, 18, 19, 20, 21] rfl (by decide +kernel)
set_option maxRecDepth 20000 in
theorem gX1_takeEarliest_X0_slotOf : GoodIn wsX1_takeEarliest (wsV RX1 42 RX0 yX0_slotOf wsX0_slotOf) := goodIn_app (goodIn_of _ (by decide +kernel)) ggX1_takeEarliest_X0_slotOf
theorem dX1_takeEarliest_0 : decode cX1_takeEarliest 0 = .ok (.iconst (-1), 1) := by decide +kernel
theorem dX1_takeEarliest_1 : decode cX1_takeEarliest 1 = .ok (.istore_n 1, 1) := by decide +kernel
theorem dX1_takeEarliest_2 : decode cX1_takeEarliest 2 = .ok (.iconst 0, 1) := by decide +kernel
theorem dX1_takeEarliest_3 : decode cX1_takeEarliest 3 = .ok (.istore_n 2, 1) := by decide +kernel
theorem dX1_takeEarliest_4 : decode cX1_takeEarliest 4 = .ok (.iload_n 2, 1) := by decide +kernel
theorem dX1_takeEarliest_5 : decode cX1_takeEarliest 5 = .ok (.iconst 3, 1) := by decide +kernel
theorem dX1_takeEarliest_6 : decode cX1_takeEarliest 6 = .ok (.if_icmp .ge 57, 3) := by decide +kernel
theorem dX1_takeEarliest_9 : decode cX1_takeEarliest 9 = .ok (.aload_n 0, 1) := by decide +kernel
theorem dX1_takeEarliest_10 : decode cX1_takeEarliest 10 = .ok (.getfield 18, 3) := by decide +kernel
theorem dX1_takeEarliest_13 : decode cX1_takeEarliest 13 = .ok (.iload_n 2, 1) := by decide +kernel
theorem dX1_takeEarliest_14 : decode cX1_takeEarliest 14 = .ok (.aload_n 0, 1) := by decide +kernel
theorem dX1_takeEarliest_15 : decode cX1_takeEarliest 15 = .ok (.getfield 15, 3) := by decide +kernel
theorem dX1_takeEarliest_18 : decode cX1_takeEarliest 18 = .ok (.iload_n 2, 1) := by decide +kernel
theorem dX1_takeEarliest_19 : decode cX1_takeEarliest 19 = .ok (.iaload, 1) := by decide +kernel
theorem dX1_takeEarliest_20 : decode cX1_takeEarliest 20 = .ok (.invokevirtual 42, 3) := by decide +kernel
theorem dX1_takeEarliest_23 : decode cX1_takeEarliest 23 = .ok (.istore_n 3, 1) := by decide +kernel
theorem dX1_takeEarliest_24 : decode cX1_takeEarliest 24 = .ok (.iload_n 3, 1) := by decide +kernel
theorem dX1_takeEarliest_25 : decode cX1_takeEarliest 25 = .ok (.iconst (-1), 1) := by decide +kernel
theorem dX1_takeEarliest_26 : decode cX1_takeEarliest 26 = .ok (.if_icmp .eq 31, 3) := by decide +kernel
theorem dX1_takeEarliest_29 : decode cX1_takeEarliest 29 = .ok (.iload_n 1, 1) := by decide +kernel
theorem dX1_takeEarliest_30 : decode cX1_takeEarliest 30 = .ok (.iconst (-1), 1) := by decide +kernel
theorem dX1_takeEarliest_31 : decode cX1_takeEarliest 31 = .ok (.if_icmp .eq 24, 3) := by decide +kernel
theorem dX1_takeEarliest_34 : decode cX1_takeEarliest 34 = .ok (.aload_n 0, 1) := by decide +kernel
theorem dX1_takeEarliest_35 : decode cX1_takeEarliest 35 = .ok (.getfield 18, 3) := by decide +kernel
theorem dX1_takeEarliest_38 : decode cX1_takeEarliest 38 = .ok (.getfield 46, 3) := by decide +kernel
theorem dX1_takeEarliest_41 : decode cX1_takeEarliest 41 = .ok (.iload_n 3, 1) := by decide +kernel
theorem dX1_takeEarliest_42 : decode cX1_takeEarliest 42 = .ok (.iaload, 1) := by decide +kernel
theorem dX1_takeEarliest_43 : decode cX1_takeEarliest 43 = .ok (.aload_n 0, 1) := by decide +kernel
theorem dX1_takeEarliest_44 : decode cX1_takeEarliest 44 = .ok (.getfield 18, 3) := by decide +kernel
theorem dX1_takeEarliest_47 : decode cX1_takeEarliest 47 = .ok (.getfield 46, 3) := by decide +kernel
theorem dX1_takeEarliest_50 : decode cX1_takeEarliest 50 = .ok (.iload_n 1, 1) := by decide +kernel
theorem dX1_takeEarliest_51 : decode cX1_takeEarliest 51 = .ok (.iaload, 1) := by decide +kernel
theorem dX1_takeEarliest_52 : decode cX1_takeEarliest 52 = .ok (.if_icmp .ge 5, 3) := by decide +kernel
theorem dX1_takeEarliest_55 : decode cX1_takeEarliest 55 = .ok (.iload_n 3, 1) := by decide +kernel
theorem dX1_takeEarliest_56 : decode cX1_takeEarliest 56 = .ok (.istore_n 1, 1) := by decide +kernel
theorem dX1_takeEarliest_57 : decode cX1_takeEarliest 57 = .ok (.iinc 2 1, 3) := by decide +kernel
theorem dX1_takeEarliest_60 : decode cX1_takeEarliest 60 = .ok (.goto (-56), 3) := by decide +kernel
theorem dX1_takeEarliest_63 : decode cX1_takeEarliest 63 = .ok (.iload_n 1, 1) := by decide +kernel
theorem dX1_takeEarliest_64 : decode cX1_takeEarliest 64 = .ok (.iconst (-1), 1) := by decide +kernel
theorem dX1_takeEarliest_65 : decode cX1_takeEarliest 65 = .ok (.if_icmp .eq 16, 3) := by decide +kernel
theorem dX1_takeEarliest_68 : decode cX1_takeEarliest 68 = .ok (.aload_n 0, 1) := by decide +kernel
theorem dX1_takeEarliest_69 : decode cX1_takeEarliest 69 = .ok (.getfield 15, 3) := by decide +kernel
theorem dX1_takeEarliest_72 : decode cX1_takeEarliest 72 = .ok (.iload_n 1, 1) := by decide +kernel
theorem dX1_takeEarliest_73 : decode cX1_takeEarliest 73 = .ok (.bipush 8, 2) := by decide +kernel
theorem dX1_takeEarliest_75 : decode cX1_takeEarliest 75 = .ok (.idiv, 1) := by decide +kernel
theorem dX1_takeEarliest_76 : decode cX1_takeEarliest 76 = .ok (.dup2, 1) := by decide +kernel
theorem dX1_takeEarliest_77 : decode cX1_takeEarliest 77 = .ok (.iaload, 1) := by decide +kernel
theorem dX1_takeEarliest_78 : decode cX1_takeEarliest 78 = .ok (.iconst 1, 1) := by decide +kernel
theorem dX1_takeEarliest_79 : decode cX1_takeEarliest 79 = .ok (.iadd, 1) := by decide +kernel
theorem dX1_takeEarliest_80 : decode cX1_takeEarliest 80 = .ok (.iastore, 1) := by decide +kernel
theorem dX1_takeEarliest_81 : decode cX1_takeEarliest 81 = .ok (.iload_n 1, 1) := by decide +kernel
theorem dX1_takeEarliest_82 : decode cX1_takeEarliest 82 = .ok (.ireturn, 1) := by decide +kernel
set_option maxRecDepth 20000 in
theorem ggX1_holdIfFree_X1_isRow : GoodIn wsX1_holdIfFree wsX1_isRow := goodIn_r _ [5] rfl (by decide +kernel)
set_option maxRecDepth 20000 in
theorem gX1_holdIfFree_X1_isRow : GoodIn wsX1_holdIfFree (va_wsS RX1 49 yX1_isRow wsX1_isRow) := goodIn_app (goodIn_of _ (by decide +kernel)) ggX1_holdIfFree_X1_isRow
theorem dX1_holdIfFree_0 : decode cX1_holdIfFree 0 = .ok (.iload_n 2, 1) := by decide +kernel
theorem dX1_holdIfFree_1 : decode cX1_holdIfFree 1 = .ok (.invokestatic 49, 3) := by decide +kernel
theorem dX1_holdIfFree_4 : decode cX1_holdIfFree 4 = .ok (.ifCond .eq 44, 3) := by decide +kernel
theorem dX1_holdIfFree_7 : decode cX1_holdIfFree 7 = .ok (.iload_n 3, 1) := by decide +kernel
theorem dX1_holdIfFree_8 : decode cX1_holdIfFree 8 = .ok (.invokestatic 49, 3) := by decide +kernel
theorem dX1_holdIfFree_11 : decode cX1_holdIfFree 11 = .ok (.ifCond .eq 37, 3) := by decide +kernel
theorem dX1_holdIfFree_14 : decode cX1_holdIfFree 14 = .ok (.aload_n 0, 1) := by decide +kernel
theorem dX1_holdIfFree_15 : decode cX1_holdIfFree 15 = .ok (.getfield 9, 3) := by decide +kernel
theorem dX1_holdIfFree_18 : decode cX1_holdIfFree 18 = .ok (.iload_n 2, 1) := by decide +kernel
theorem dX1_holdIfFree_19 : decode cX1_holdIfFree 19 = .ok (.iaload, 1) := by decide +kernel
theorem dX1_holdIfFree_20 : decode cX1_holdIfFree 20 = .ok (.iconst (-1), 1) := by decide +kernel
theorem dX1_holdIfFree_21 : decode cX1_holdIfFree 21 = .ok (.if_icmp .ne 27, 3) := by decide +kernel
theorem dX1_holdIfFree_24 : decode cX1_holdIfFree 24 = .ok (.aload_n 0, 1) := by decide +kernel
theorem dX1_holdIfFree_25 : decode cX1_holdIfFree 25 = .ok (.getfield 9, 3) := by decide +kernel
theorem dX1_holdIfFree_28 : decode cX1_holdIfFree 28 = .ok (.iload_n 3, 1) := by decide +kernel
theorem dX1_holdIfFree_29 : decode cX1_holdIfFree 29 = .ok (.iaload, 1) := by decide +kernel
theorem dX1_holdIfFree_30 : decode cX1_holdIfFree 30 = .ok (.iconst (-1), 1) := by decide +kernel
theorem dX1_holdIfFree_31 : decode cX1_holdIfFree 31 = .ok (.if_icmp .ne 17, 3) := by decide +kernel
theorem dX1_holdIfFree_34 : decode cX1_holdIfFree 34 = .ok (.aload_n 0, 1) := by decide +kernel
theorem dX1_holdIfFree_35 : decode cX1_holdIfFree 35 = .ok (.getfield 9, 3) := by decide +kernel
theorem dX1_holdIfFree_38 : decode cX1_holdIfFree 38 = .ok (.iload_n 2, 1) := by decide +kernel
theorem dX1_holdIfFree_39 : decode cX1_holdIfFree 39 = .ok (.iload_n 1, 1) := by decide +kernel
theorem dX1_holdIfFree_40 : decode cX1_holdIfFree 40 = .ok (.iastore, 1) := by decide +kernel
theorem dX1_holdIfFree_41 : decode cX1_holdIfFree 41 = .ok (.aload_n 0, 1) := by decide +kernel
theorem dX1_holdIfFree_42 : decode cX1_holdIfFree 42 = .ok (.getfield 9, 3) := by decide +kernel
theorem dX1_holdIfFree_45 : decode cX1_holdIfFree 45 = .ok (.iload_n 3, 1) := by decide +kernel
theorem dX1_holdIfFree_46 : decode cX1_holdIfFree 46 = .ok (.iload_n 1, 1) := by decide +kernel
theorem dX1_holdIfFree_47 : decode cX1_holdIfFree 47 = .ok (.iastore, 1) := by decide +kernel
theorem dX1_holdIfFree_48 : decode cX1_holdIfFree 48 = .ok (.return_, 1) := by decide +kernel
theorem dX1_isRow_0 : decode cX1_isRow 0 = .ok (.iload_n 0, 1) := by decide +kernel
theorem dX1_isRow_1 : decode cX1_isRow 1 = .ok (.ifCond .lt 13, 3) := by decide +kernel
theorem dX1_isRow_4 : decode cX1_isRow 4 = .ok (.iload_n 0, 1) := by decide +kernel
theorem dX1_isRow_5 : decode cX1_isRow 5 = .ok (.bipush 8, 2) := by decide +kernel
theorem dX1_isRow_7 : decode cX1_isRow 7 = .ok (.if_icmp .ge 7, 3) := by decide +kernel
theorem dX1_isRow_10 : decode cX1_isRow 10 = .ok (.iconst 1, 1) := by decide +kernel
theorem dX1_isRow_11 : decode cX1_isRow 11 = .ok (.goto 4, 3) := by decide +kernel
theorem dX1_isRow_14 : decode cX1_isRow 14 = .ok (.iconst 0, 1) := by decide +kernel
theorem dX1_isRow_15 : decode cX1_isRow 15 = .ok (.ireturn, 1) := by decide +kernel
set_option maxRecDepth 20000 in
theorem ggX1_isHeld_X0_isOfTwo : GoodIn wsX1_isHeld wsX0_isOfTwo := goodIn_r _ [8, 9, 10, 11, 12, 7, 13, 14, 22, 23, 24, 25, 26, 27, 28, 29, 30] rfl (by decide +kernel)
set_option maxRecDepth 20000 in
theorem gX1_isHeld_X0_isOfTwo : GoodIn wsX1_isHeld (wsV RX1 26 RX0 yX0_isOfTwo wsX0_isOfTwo) := goodIn_app (goodIn_of _ (by decide +kernel)) ggX1_isHeld_X0_isOfTwo
set_option maxRecDepth 20000 in
theorem ggX1_isHeld_X1_isRow : GoodIn wsX1_isHeld wsX1_isRow := goodIn_r _ [18] rfl (by decide +kernel)
set_option maxRecDepth 20000 in
theorem gX1_isHeld_X1_isRow : GoodIn wsX1_isHeld (va_wsS RX1 49 yX1_isRow wsX1_isRow) := goodIn_app (goodIn_of _ (by decide +kernel)) ggX1_isHeld_X1_isRow
theorem dX1_isHeld_0 : decode cX1_isHeld 0 = .ok (.aload_n 0, 1) := by decide +kernel
theorem dX1_isHeld_1 : decode cX1_isHeld 1 = .ok (.getfield 18, 3) := by decide +kernel
theorem dX1_isHeld_4 : decode cX1_isHeld 4 = .ok (.iload_n 1, 1) := by decide +kernel
theorem dX1_isHeld_5 : decode cX1_isHeld 5 = .ok (.invokevirtual 26, 3) := by decide +kernel
theorem dX1_isHeld_8 : decode cX1_isHeld 8 = .ok (.ifCond .eq 40, 3) := by decide +kernel
theorem dX1_isHeld_11 : decode cX1_isHeld 11 = .ok (.aload_n 0, 1) := by decide +kernel
theorem dX1_isHeld_12 : decode cX1_isHeld 12 = .ok (.getfield 18, 3) := by decide +kernel
theorem dX1_isHeld_15 : decode cX1_isHeld 15 = .ok (.getfield 32, 3) := by decide +kernel
theorem dX1_isHeld_18 : decode cX1_isHeld 18 = .ok (.iload_n 1, 1) := by decide +kernel
theorem dX1_isHeld_19 : decode cX1_isHeld 19 = .ok (.iaload, 1) := by decide +kernel
theorem dX1_isHeld_20 : decode cX1_isHeld 20 = .ok (.invokestatic 49, 3) := by decide +kernel
theorem dX1_isHeld_23 : decode cX1_isHeld 23 = .ok (.ifCond .eq 25, 3) := by decide +kernel
theorem dX1_isHeld_26 : decode cX1_isHeld 26 = .ok (.aload_n 0, 1) := by decide +kernel
theorem dX1_isHeld_27 : decode cX1_isHeld 27 = .ok (.getfield 9, 3) := by decide +kernel
theorem dX1_isHeld_30 : decode cX1_isHeld 30 = .ok (.aload_n 0, 1) := by decide +kernel
theorem dX1_isHeld_31 : decode cX1_isHeld 31 = .ok (.getfield 18, 3) := by decide +kernel
theorem dX1_isHeld_34 : decode cX1_isHeld 34 = .ok (.getfield 32, 3) := by decide +kernel
theorem dX1_isHeld_37 : decode cX1_isHeld 37 = .ok (.iload_n 1, 1) := by decide +kernel
theorem dX1_isHeld_38 : decode cX1_isHeld 38 = .ok (.iaload, 1) := by decide +kernel
theorem dX1_isHeld_39 : decode cX1_isHeld 39 = .ok (.iaload, 1) := by decide +kernel
theorem dX1_isHeld_40 : decode cX1_isHeld 40 = .ok (.iload_n 1, 1) := by decide +kernel
theorem dX1_isHeld_41 : decode cX1_isHeld 41 = .ok (.if_icmp .ne 7, 3) := by decide +kernel
theorem dX1_isHeld_44 : decode cX1_isHeld 44 = .ok (.iconst 1, 1) := by decide +kernel
theorem dX1_isHeld_45 : decode cX1_isHeld 45 = .ok (.goto 4, 3) := by decide +kernel
theorem dX1_isHeld_48 : decode cX1_isHeld 48 = .ok (.iconst 0, 1) := by decide +kernel
theorem dX1_isHeld_49 : decode cX1_isHeld 49 = .ok (.ireturn, 1) := by decide +kernel
set_option maxRecDepth 20000 in
theorem ggX1_mateOf_X1_isRow : GoodIn wsX1_mateOf wsX1_isRow := goodIn_r _ [9] rfl (by decide +kernel)
set_option maxRecDepth 20000 in
theorem gX1_mateOf_X1_isRow : GoodIn wsX1_mateOf (va_wsS RX1 49 yX1_isRow wsX1_isRow) := goodIn_app (goodIn_of _ (by decide +kernel)) ggX1_mateOf_X1_isRow
set_option maxRecDepth 20000 in
theorem ggX1_mateOf_X0_isOfTwo : GoodIn wsX1_mateOf wsX0_isOfTwo := goodIn_r _ [14, 15, 16, 17, 18, 13, 19, 20, 24, 25, 26, 27, 28, 29, 30, 31, 32] rfl (by decide +kernel)
set_option maxRecDepth 20000 in
theorem gX1_mateOf_X0_isOfTwo : GoodIn wsX1_mateOf (wsV RX1 26 RX0 yX0_isOfTwo wsX0_isOfTwo) := goodIn_app (goodIn_of _ (by decide +kernel)) ggX1_mateOf_X0_isOfTwo
theorem dX1_mateOf_0 : decode cX1_mateOf 0 = .ok (.iload_n 1, 1) := by decide +kernel
theorem dX1_mateOf_1 : decode cX1_mateOf 1 = .ok (.invokestatic 49, 3) := by decide +kernel
theorem dX1_mateOf_4 : decode cX1_mateOf 4 = .ok (.ifCond .eq 12, 3) := by decide +kernel
theorem dX1_mateOf_7 : decode cX1_mateOf 7 = .ok (.aload_n 0, 1) := by decide +kernel
theorem dX1_mateOf_8 : decode cX1_mateOf 8 = .ok (.getfield 9, 3) := by decide +kernel
theorem dX1_mateOf_11 : decode cX1_mateOf 11 = .ok (.iload_n 1, 1) := by decide +kernel
theorem dX1_mateOf_12 : decode cX1_mateOf 12 = .ok (.iaload, 1) := by decide +kernel
theorem dX1_mateOf_13 : decode cX1_mateOf 13 = .ok (.goto 4, 3) := by decide +kernel
theorem dX1_mateOf_16 : decode cX1_mateOf 16 = .ok (.iconst (-1), 1) := by decide +kernel
theorem dX1_mateOf_17 : decode cX1_mateOf 17 = .ok (.istore_n 3, 1) := by decide +kernel
theorem dX1_mateOf_18 : decode cX1_mateOf 18 = .ok (.aload_n 0, 1) := by decide +kernel
theorem dX1_mateOf_19 : decode cX1_mateOf 19 = .ok (.getfield 18, 3) := by decide +kernel
theorem dX1_mateOf_22 : decode cX1_mateOf 22 = .ok (.iload_n 3, 1) := by decide +kernel
theorem dX1_mateOf_23 : decode cX1_mateOf 23 = .ok (.invokevirtual 26, 3) := by decide +kernel
theorem dX1_mateOf_26 : decode cX1_mateOf 26 = .ok (.ifCond .eq 16, 3) := by decide +kernel
theorem dX1_mateOf_29 : decode cX1_mateOf 29 = .ok (.aload_n 0, 1) := by decide +kernel
theorem dX1_mateOf_30 : decode cX1_mateOf 30 = .ok (.getfield 18, 3) := by decide +kernel
theorem dX1_mateOf_33 : decode cX1_mateOf 33 = .ok (.getfield 46, 3) := by decide +kernel
theorem dX1_mateOf_36 : decode cX1_mateOf 36 = .ok (.iload_n 3, 1) := by decide +kernel
theorem dX1_mateOf_37 : decode cX1_mateOf 37 = .ok (.iaload, 1) := by decide +kernel
theorem dX1_mateOf_38 : decode cX1_mateOf 38 = .ok (.iload_n 2, 1) := by decide +kernel
theorem dX1_mateOf_39 : decode cX1_mateOf 39 = .ok (.if_icmp .le 6, 3) := by decide +kernel
theorem dX1_mateOf_42 : decode cX1_mateOf 42 = .ok (.bipush (-4), 2) := by decide +kernel
theorem dX1_mateOf_44 : decode cX1_mateOf 44 = .ok (.ireturn, 1) := by decide +kernel
theorem dX1_mateOf_45 : decode cX1_mateOf 45 = .ok (.aload_n 0, 1) := by decide +kernel
theorem dX1_mateOf_46 : decode cX1_mateOf 46 = .ok (.getfield 18, 3) := by decide +kernel
theorem dX1_mateOf_49 : decode cX1_mateOf 49 = .ok (.getfield 32, 3) := by decide +kernel
theorem dX1_mateOf_52 : decode cX1_mateOf 52 = .ok (.iload_n 3, 1) := by decide +kernel
theorem dX1_mateOf_53 : decode cX1_mateOf 53 = .ok (.iaload, 1) := by decide +kernel
theorem dX1_mateOf_54 : decode cX1_mateOf 54 = .ok (.iload_n 1, 1) := by decide +kernel
theorem dX1_mateOf_55 : decode cX1_mateOf 55 = .ok (.if_icmp .ne 15, 3) := by decide +kernel
theorem dX1_mateOf_58 : decode cX1_mateOf 58 = .ok (.aload_n 0, 1) := by decide +kernel
theorem dX1_mateOf_59 : decode cX1_mateOf 59 = .ok (.getfield 18, 3) := by decide +kernel
theorem dX1_mateOf_62 : decode cX1_mateOf 62 = .ok (.getfield 35, 3) := by decide +kernel
theorem dX1_mateOf_65 : decode cX1_mateOf 65 = .ok (.iload_n 3, 1) := by decide +kernel
theorem dX1_mateOf_66 : decode cX1_mateOf 66 = .ok (.iaload, 1) := by decide +kernel
theorem dX1_mateOf_67 : decode cX1_mateOf 67 = .ok (.goto 12, 3) := by decide +kernel
theorem dX1_mateOf_70 : decode cX1_mateOf 70 = .ok (.aload_n 0, 1) := by decide +kernel
theorem dX1_mateOf_71 : decode cX1_mateOf 71 = .ok (.getfield 18, 3) := by decide +kernel
theorem dX1_mateOf_74 : decode cX1_mateOf 74 = .ok (.getfield 32, 3) := by decide +kernel
theorem dX1_mateOf_77 : decode cX1_mateOf 77 = .ok (.iload_n 3, 1) := by decide +kernel
theorem dX1_mateOf_78 : decode cX1_mateOf 78 = .ok (.iaload, 1) := by decide +kernel
theorem dX1_mateOf_79 : decode cX1_mateOf 79 = .ok (.ireturn, 1) := by decide +kernel
set_option maxRecDepth 20000 in
theorem ggX2_init_X0_init : GoodIn wsX2_init wsX0_init := goodIn_r _ [16, 17, 2, 3, 12, 18, 19, 20, 21, 22, 23, 24, 25, 33, 34, 35, 36, 37, 38, 39, 40, 41] rfl (by decide +kernel)
set_option maxRecDepth 20000 in
theorem gX2_init_X0_init_n11 : GoodIn wsX2_init (wsX0_init) := ggX2_init_X0_init
set_option maxRecDepth 20000 in
theorem ggX2_init_X1_init : GoodIn wsX2_init wsX1_init := goodIn_r _ [28, 29, 2, 3, 12, 30, 31, 32, 46, 47, 48] rfl (by decide +kernel)
set_option maxRecDepth 20000 in
theorem gX2_init_X1_init : GoodIn wsX2_init (wsX1_init) := ggX2_init_X1_init
theorem dX2_init_0 : decode cX2_init 0 = .ok (.aload_n 0, 1) := by decide +kernel
theorem dX2_init_1 : decode cX2_init 1 = .ok (.invokespecial 3, 3) := by decide +kernel
theorem dX2_init_4 : decode cX2_init 4 = .ok (.aload_n 0, 1) := by decide +kernel
theorem dX2_init_5 : decode cX2_init 5 = .ok (.new 9, 3) := by decide +kernel
theorem dX2_init_8 : decode cX2_init 8 = .ok (.dup, 1) := by decide +kernel
theorem dX2_init_9 : decode cX2_init 9 = .ok (.invokespecial 11, 3) := by decide +kernel
theorem dX2_init_12 : decode cX2_init 12 = .ok (.putfield 12, 3) := by decide +kernel
theorem dX2_init_15 : decode cX2_init 15 = .ok (.aload_n 0, 1) := by decide +kernel
theorem dX2_init_16 : decode cX2_init 16 = .ok (.new 18, 3) := by decide +kernel
theorem dX2_init_19 : decode cX2_init 19 = .ok (.dup, 1) := by decide +kernel
theorem dX2_init_20 : decode cX2_init 20 = .ok (.aload_n 0, 1) := by decide +kernel
theorem dX2_init_21 : decode cX2_init 21 = .ok (.getfield 12, 3) := by decide +kernel
theorem dX2_init_24 : decode cX2_init 24 = .ok (.invokespecial 20, 3) := by decide +kernel
theorem dX2_init_27 : decode cX2_init 27 = .ok (.putfield 23, 3) := by decide +kernel
theorem dX2_init_30 : decode cX2_init 30 = .ok (.aload_n 0, 1) := by decide +kernel
theorem dX2_init_31 : decode cX2_init 31 = .ok (.bipush 8, 2) := by decide +kernel
theorem dX2_init_33 : decode cX2_init 33 = .ok (.newarray .int, 2) := by decide +kernel
theorem dX2_init_35 : decode cX2_init 35 = .ok (.putfield 27, 3) := by decide +kernel
theorem dX2_init_38 : decode cX2_init 38 = .ok (.aload_n 0, 1) := by decide +kernel
theorem dX2_init_39 : decode cX2_init 39 = .ok (.aload_n 1, 1) := by decide +kernel
theorem dX2_init_40 : decode cX2_init 40 = .ok (.putfield 31, 3) := by decide +kernel
theorem dX2_init_43 : decode cX2_init 43 = .ok (.return_, 1) := by decide +kernel
set_option maxRecDepth 20000 in
theorem ggX2_open_X0_open : GoodIn wsX2_open wsX0_open := goodIn_r _ [7, 8, 9, 10, 11, 12, 13, 14, 15, 16, 17, 18, 23, 24, 25, 26, 27, 28, 29, 30, 31, 32, 33, 34, 35, 36, 37, 38, 39, 40, 41] rfl (by decide +kernel)
set_option maxRecDepth 20000 in
theorem gX2_open_X0_open : GoodIn wsX2_open (wsV RX2 35 RX0 yX0_open wsX0_open) := goodIn_app (goodIn_of _ (by decide +kernel)) ggX2_open_X0_open
theorem dX2_open_0 : decode cX2_open 0 = .ok (.aload_n 0, 1) := by decide +kernel
theorem dX2_open_1 : decode cX2_open 1 = .ok (.getfield 12, 3) := by decide +kernel
theorem dX2_open_4 : decode cX2_open 4 = .ok (.aload_n 0, 1) := by decide +kernel
theorem dX2_open_5 : decode cX2_open 5 = .ok (.getfield 31, 3) := by decide +kernel
theorem dX2_open_8 : decode cX2_open 8 = .ok (.invokevirtual 35, 3) := by decide +kernel
theorem dX2_open_11 : decode cX2_open 11 = .ok (.return_, 1) := by decide +kernel
set_option maxRecDepth 20000 in
theorem ggX2_settle_X1_settle : GoodIn wsX2_settle wsX1_settle := goodIn_r _ [6, 7, 8, 9, 10, 11, 12, 13, 14, 5, 15, 16, 17, 18, 19, 20, 21, 22, 23, 24, 25, 26, 27, 28, 29, 30, 31, 32, 33, 34, 35, 36, 37, 38, 43, 44, 45, 46, 47, 48, 49, 50, 51, 52, 53, 54] rfl (by decide +kernel)
set_option maxRecDepth 20000 in
theorem gX2_settle_X1_settle : GoodIn wsX2_settle (wsV RX2 39 RX1 yX1_settle wsX1_settle) := goodIn_app (goodIn_of _ (by decide +kernel)) ggX2_settle_X1_settle
theorem dX2_settle_0 : decode cX2_settle 0 = .ok (.aload_n 0, 1) := by decide +kernel
theorem dX2_settle_1 : decode cX2_settle 1 = .ok (.getfield 23, 3) := by decide +kernel
theorem dX2_settle_4 : decode cX2_settle 4 = .ok (.iconst (-1), 1) := by decide +kernel
theorem dX2_settle_5 : decode cX2_settle 5 = .ok (.invokevirtual 39, 3) := by decide +kernel
theorem dX2_settle_8 : decode cX2_settle 8 = .ok (.return_, 1) := by decide +kernel
set_option maxRecDepth 20000 in
theorem ggX2_mateBy_X2_settle : GoodIn wsX2_mateBy wsX2_settle := goodIn_r _ [6, 1, 7, 8, 9, 10, 11, 12, 13, 14, 15, 16, 17, 18, 19, 20, 21, 22, 23, 24, 25, 26, 27, 28, 29, 30, 31, 32, 33, 34, 35, 36, 37, 38, 39, 40, 41, 42, 43, 48, 49, 50, 51, 52, 53, 54, 55, 56, 57, 58, 59, 60, 61, 62, 63] rfl (by decide +kernel)
set_option maxRecDepth 20000 in
theorem gX2_mateBy_X2_settle : GoodIn wsX2_mateBy (wsV RX2 43 RX2 yX2_settle wsX2_settle) := goodIn_app (goodIn_of _ (by decide +kernel)) ggX2_mateBy_X2_settle
set_option maxRecDepth 20000 in
theorem ggX2_mateBy_X1_mateOf : GoodIn wsX2_mateBy wsX1_mateOf := goodIn_r _ [47, 12, 14, 21, 15, 16, 41, 42, 10, 43, 28, 29, 30, 25, 31, 32, 33, 34, 35, 36, 27, 52, 53, 54, 55, 56, 57, 58, 59, 60, 61, 62, 63] rfl (by decide +kernel)
set_option maxRecDepth 20000 in
theorem gX2_mateBy_X1_mateOf : GoodIn wsX2_mateBy (wsV RX2 45 RX1 yX1_mateOf wsX1_mateOf) := goodIn_app (goodIn_of _ (by decide +kernel)) ggX2_mateBy_X1_mateOf
theorem dX2_mateBy_0 : decode cX2_mateBy 0 = .ok (.aload_n 0, 1) := by decide +kernel
theorem dX2_mateBy_1 : decode cX2_mateBy 1 = .ok (.invokevirtual 43, 3) := by decide +kernel
theorem dX2_mateBy_4 : decode cX2_mateBy 4 = .ok (.aload_n 0, 1) := by decide +kernel
theorem dX2_mateBy_5 : decode cX2_mateBy 5 = .ok (.getfield 23, 3) := by decide +kernel
theorem dX2_mateBy_8 : decode cX2_mateBy 8 = .ok (.iload_n 1, 1) := by decide +kernel
theorem dX2_mateBy_9 : decode cX2_mateBy 9 = .ok (.iload_n 2, 1) := by decide +kernel
theorem dX2_mateBy_10 : decode cX2_mateBy 10 = .ok (.invokevirtual 45, 3) := by decide +kernel
theorem dX2_mateBy_13 : decode cX2_mateBy 13 = .ok (.ireturn, 1) := by decide +kernel
set_option maxRecDepth 20000 in
theorem ggX2_mateToday_X2_mateBy : GoodIn wsX2_mateToday wsX2_mateBy := goodIn_r _ [7, 8, 9, 10, 11, 6, 12, 13, 14, 15, 16, 17, 18, 19, 20, 21, 22, 23, 24, 25, 26, 27, 28, 29, 30, 31, 32, 33, 34, 35, 36, 37, 38, 39, 40, 41, 42, 43, 44, 45, 46, 47, 48, 49, 50, 51, 52, 53, 54, 55, 56, 57, 67, 68, 69, 58, 59, 60, 61, 62, 63, 64, 65, 66] rfl (by decide +kernel)
set_option maxRecDepth 20000 in
theorem gX2_mateToday_X2_mateBy : GoodIn wsX2_mateToday (wsV RX2 53 RX2 yX2_mateBy wsX2_mateBy) := goodIn_app (goodIn_of _ (by decide +kernel)) ggX2_mateToday_X2_mateBy
theorem dX2_mateToday_0 : decode cX2_mateToday 0 = .ok (.aload_n 0, 1) := by decide +kernel
theorem dX2_mateToday_1 : decode cX2_mateToday 1 = .ok (.iload_n 1, 1) := by decide +kernel
theorem dX2_mateToday_2 : decode cX2_mateToday 2 = .ok (.aload_n 0, 1) := by decide +kernel
theorem dX2_mateToday_3 : decode cX2_mateToday 3 = .ok (.getfield 12, 3) := by decide +kernel
theorem dX2_mateToday_6 : decode cX2_mateToday 6 = .ok (.getfield 49, 3) := by decide +kernel
theorem dX2_mateToday_9 : decode cX2_mateToday 9 = .ok (.invokevirtual 53, 3) := by decide +kernel
theorem dX2_mateToday_12 : decode cX2_mateToday 12 = .ok (.ireturn, 1) := by decide +kernel
set_option maxRecDepth 20000 in
theorem ggX2_isHeld_X2_settle : GoodIn wsX2_isHeld wsX2_settle := goodIn_r _ [6, 1, 7, 8, 9, 10, 11, 12, 13, 14, 15, 16, 17, 18, 19, 20, 21, 22, 23, 24, 25, 26, 27, 28, 29, 30, 31, 32, 33, 34, 35, 36, 37, 38, 39, 40, 41, 42, 43, 48, 49, 50, 51, 52, 53, 54, 55, 56, 57, 58, 59, 60, 61, 62, 63] rfl (by decide +kernel)
set_option maxRecDepth 20000 in
theorem gX2_isHeld_X2_settle : GoodIn wsX2_isHeld (wsV RX2 43 RX2 yX2_settle wsX2_settle) := goodIn_app (goodIn_of _ (by decide +kernel)) ggX2_isHeld_X2_settle
set_option maxRecDepth 20000 in
theorem ggX2_isHeld_X1_isHeld : GoodIn wsX2_isHeld wsX1_isHeld := goodIn_r _ [47, 14, 15, 12, 28, 29, 30, 25, 31, 32, 33, 34, 35, 36, 27, 41, 42, 10, 43, 52, 53, 54, 55, 56, 57, 58, 59, 60, 61, 62, 63] rfl (by decide +kernel)
set_option maxRecDepth 20000 in
theorem gX2_isHeld_X1_isHeld : GoodIn wsX2_isHeld (wsV RX2 56 RX1 yX1_isHeld wsX1_isHeld) := goodIn_app (goodIn_of _ (by decide +kernel)) ggX2_isHeld_X1_isHeld
theorem dX2_isHeld_0 : decode cX2_isHeld 0 = .ok (.aload_n 0, 1) := by decide +kernel
theorem dX2_isHeld_1 : decode cX2_isHeld 1 = .ok (.invokevirtual 43, 3) := by decide +kernel
theorem dX2_isHeld_4 : decode cX2_isHeld 4 = .ok (.aload_n 0, 1) := by decide +kernel
theorem dX2_isHeld_5 : decode cX2_isHeld 5 = .ok (.getfield 23, 3) := by decide +kernel
theorem dX2_isHeld_8 : decode cX2_isHeld 8 = .ok (.iload_n 1, 1) := by decide +kernel
theorem dX2_isHeld_9 : decode cX2_isHeld 9 = .ok (.invokevirtual 56, 3) := by decide +kernel
theorem dX2_isHeld_12 : decode cX2_isHeld 12 = .ok (.ireturn, 1) := by decide +kernel
set_option maxRecDepth 20000 in
theorem ggX2_countHeld_X2_settle : GoodIn wsX2_countHeld wsX2_settle := goodIn_r _ [6, 1, 7, 8, 9, 10, 11, 12, 13, 14, 15, 16, 17, 18, 19, 20, 21, 22, 23, 24, 25, 26, 27, 28, 29, 30, 31, 32, 33, 34, 35, 36, 37, 38, 39, 40, 41, 42, 43, 48, 49, 50, 51, 52, 53, 54, 55, 56, 57, 58, 59, 60, 61, 62, 63] rfl (by decide +kernel)
set_option maxRecDepth 20000 in
theorem gX2_countHeld_X2_settle : GoodIn wsX2_countHeld (wsV RX2 43 RX2 yX2_settle wsX2_settle) := goodIn_app (goodIn_of _ (by decide +kernel)) ggX2_countHeld_X2_settle
set_option maxRecDepth 20000 in
theorem ggX2_countHeld_X1_isHeld : GoodIn wsX2_countHeld wsX1_isHeld := goodIn_r _ [47, 14, 15, 12, 28, 29, 30, 25, 31, 32, 33, 34, 35, 36, 27, 41, 42, 10, 43, 52, 53, 54, 55, 56, 57, 58, 59, 60, 61, 62, 63] rfl (by decide +kernel)
set_option maxRecDepth 20000 in
theorem gX2_countHeld_X1_isHeld : GoodIn wsX2_countHeld (wsV RX2 56 RX1 yX1_isHeld wsX1_isHeld) := goodIn_app (goodIn_of _ (by decide +kernel)) ggX2_countHeld_X1_isHeld
theorem dX2_countHeld_0 : decode cX2_countHeld 0 = .ok (.aload_n 0, 1) := by decide +kernel
theorem dX2_countHeld_1 : decode cX2_countHeld 1 = .ok (.invokevirtual 43, 3) := by decide +kernel
theorem dX2_countHeld_4 : decode cX2_countHeld 4 = .ok (.iconst 0, 1) := by decide +kernel
theorem dX2_countHeld_5 : decode cX2_countHeld 5 = .ok (.istore_n 1, 1) := by decide +kernel
theorem dX2_countHeld_6 : decode cX2_countHeld 6 = .ok (.iconst 0, 1) := by decide +kernel
theorem dX2_countHeld_7 : decode cX2_countHeld 7 = .ok (.istore_n 2, 1) := by decide +kernel
theorem dX2_countHeld_8 : decode cX2_countHeld 8 = .ok (.iload_n 2, 1) := by decide +kernel
theorem dX2_countHeld_9 : decode cX2_countHeld 9 = .ok (.bipush 24, 2) := by decide +kernel
theorem dX2_countHeld_11 : decode cX2_countHeld 11 = .ok (.if_icmp .ge 23, 3) := by decide +kernel
theorem dX2_countHeld_14 : decode cX2_countHeld 14 = .ok (.aload_n 0, 1) := by decide +kernel
theorem dX2_countHeld_15 : decode cX2_countHeld 15 = .ok (.getfield 23, 3) := by decide +kernel
theorem dX2_countHeld_18 : decode cX2_countHeld 18 = .ok (.iload_n 2, 1) := by decide +kernel
theorem dX2_countHeld_19 : decode cX2_countHeld 19 = .ok (.invokevirtual 56, 3) := by decide +kernel
theorem dX2_countHeld_22 : decode cX2_countHeld 22 = .ok (.ifCond .eq 6, 3) := by decide +kernel
theorem dX2_countHeld_25 : decode cX2_countHeld 25 = .ok (.iinc 1 1, 3) := by decide +kernel
theorem dX2_countHeld_28 : decode cX2_countHeld 28 = .ok (.iinc 2 1, 3) := by decide +kernel
theorem dX2_countHeld_31 : decode cX2_countHeld 31 = .ok (.goto (-23), 3) := by decide +kernel
theorem dX2_countHeld_34 : decode cX2_countHeld 34 = .ok (.iload_n 1, 1) := by decide +kernel
theorem dX2_countHeld_35 : decode cX2_countHeld 35 = .ok (.ireturn, 1) := by decide +kernel
set_option maxRecDepth 20000 in
theorem ggX2_booksThatHold_X2_settle : GoodIn wsX2_booksThatHold wsX2_settle := goodIn_r _ [6, 1, 7, 8, 9, 10, 11, 12, 13, 14, 15, 16, 17, 18, 19, 20, 21, 22, 23, 24, 25, 26, 27, 28, 29, 30, 31, 32, 33, 34, 35, 36, 37, 38, 39, 40, 41, 42, 43, 48, 49, 50, 51, 52, 53, 54, 55, 56, 57, 58, 59, 60, 61, 62, 63] rfl (by decide +kernel)
set_option maxRecDepth 20000 in
theorem gX2_booksThatHold_X2_settle : GoodIn wsX2_booksThatHold (wsV RX2 43 RX2 yX2_settle wsX2_settle) := goodIn_app (goodIn_of _ (by decide +kernel)) ggX2_booksThatHold_X2_settle
set_option maxRecDepth 20000 in
theorem ggX2_booksThatHold_X1_isHeld : GoodIn wsX2_booksThatHold wsX1_isHeld := goodIn_r _ [47, 14, 15, 12, 28, 29, 30, 25, 31, 32, 33, 34, 35, 36, 27, 41, 42, 10, 43, 52, 53, 54, 55, 56, 57, 58, 59, 60, 61, 62, 63] rfl (by decide +kernel)
set_option maxRecDepth 20000 in
theorem gX2_booksThatHold_X1_isHeld : GoodIn wsX2_booksThatHold (wsV RX2 56 RX1 yX1_isHeld wsX1_isHeld) := goodIn_app (goodIn_of _ (by decide +kernel)) ggX2_booksThatHold_X1_isHeld
theorem dX2_booksThatHold_0 : decode cX2_booksThatHold 0 = .ok (.aload_n 0, 1) := by decide +kernel
theorem dX2_booksThatHold_1 : decode cX2_booksThatHold 1 = .ok (.invokevirtual 43, 3) := by decide +kernel
theorem dX2_booksThatHold_4 : decode cX2_booksThatHold 4 = .ok (.iconst 0, 1) := by decide +kernel
theorem dX2_booksThatHold_5 : decode cX2_booksThatHold 5 = .ok (.istore_n 1, 1) := by decide +kernel
theorem dX2_booksThatHold_6 : decode cX2_booksThatHold 6 = .ok (.iconst 0, 1) := by decide +kernel
theorem dX2_booksThatHold_7 : decode cX2_booksThatHold 7 = .ok (.istore_n 2, 1) := by decide +kernel
theorem dX2_booksThatHold_8 : decode cX2_booksThatHold 8 = .ok (.iload_n 2, 1) := by decide +kernel
theorem dX2_booksThatHold_9 : decode cX2_booksThatHold 9 = .ok (.bipush 24, 2) := by decide +kernel
theorem dX2_booksThatHold_11 : decode cX2_booksThatHold 11 = .ok (.if_icmp .ge 29, 3) := by decide +kernel
theorem dX2_booksThatHold_14 : decode cX2_booksThatHold 14 = .ok (.aload_n 0, 1) := by decide +kernel
theorem dX2_booksThatHold_15 : decode cX2_booksThatHold 15 = .ok (.getfield 23, 3) := by decide +kernel
theorem dX2_booksThatHold_18 : decode cX2_booksThatHold 18 = .ok (.iload_n 2, 1) := by decide +kernel
theorem dX2_booksThatHold_19 : decode cX2_booksThatHold 19 = .ok (.invokevirtual 56, 3) := by decide +kernel
theorem dX2_booksThatHold_22 : decode cX2_booksThatHold 22 = .ok (.ifCond .eq 12, 3) := by decide +kernel
theorem dX2_booksThatHold_25 : decode cX2_booksThatHold 25 = .ok (.iload_n 1, 1) := by decide +kernel
theorem dX2_booksThatHold_26 : decode cX2_booksThatHold 26 = .ok (.iconst 1, 1) := by decide +kernel
theorem dX2_booksThatHold_27 : decode cX2_booksThatHold 27 = .ok (.iload_n 2, 1) := by decide +kernel
theorem dX2_booksThatHold_28 : decode cX2_booksThatHold 28 = .ok (.bipush 8, 2) := by decide +kernel
theorem dX2_booksThatHold_30 : decode cX2_booksThatHold 30 = .ok (.idiv, 1) := by decide +kernel
theorem dX2_booksThatHold_31 : decode cX2_booksThatHold 31 = .ok (.ishl, 1) := by decide +kernel
theorem dX2_booksThatHold_32 : decode cX2_booksThatHold 32 = .ok (.ior, 1) := by decide +kernel
theorem dX2_booksThatHold_33 : decode cX2_booksThatHold 33 = .ok (.istore_n 1, 1) := by decide +kernel
theorem dX2_booksThatHold_34 : decode cX2_booksThatHold 34 = .ok (.iinc 2 1, 3) := by decide +kernel
theorem dX2_booksThatHold_37 : decode cX2_booksThatHold 37 = .ok (.goto (-29), 3) := by decide +kernel
theorem dX2_booksThatHold_40 : decode cX2_booksThatHold 40 = .ok (.iload_n 1, 1) := by decide +kernel
theorem dX2_booksThatHold_41 : decode cX2_booksThatHold 41 = .ok (.ireturn, 1) := by decide +kernel
set_option maxRecDepth 20000 in
theorem ggX2_owedBy_X3_isPerson : GoodIn wsX2_owedBy wsX3_isPerson := goodIn_r _ [9, 10, 72, 73, 74, 75, 76, 77, 78, 79, 80, 81] rfl (by decide +kernel)
set_option maxRecDepth 20000 in
theorem gX2_owedBy_X3_isPerson : GoodIn wsX2_owedBy (wsV RX2 60 RX3 yX3_isPerson wsX3_isPerson) := goodIn_app (goodIn_of _ (by decide +kernel)) ggX2_owedBy_X3_isPerson
set_option maxRecDepth 20000 in
theorem ggX2_owedBy_X2_mateToday : GoodIn wsX2_owedBy wsX2_mateToday := goodIn_r _ [15, 16, 17, 18, 19, 20, 14, 21, 22, 23, 24, 25, 26, 27, 28, 29, 30, 31, 32, 33, 34, 35, 36, 37, 38, 39, 40, 41, 42, 43, 44, 45, 46, 47, 48, 49, 50, 51, 52, 53, 54, 55, 56, 57, 58, 59, 60, 61, 62, 63, 64, 65, 66, 67, 68, 69, 70, 71, 82, 83, 84, 85, 86, 87, 88, 89, 90, 91, 92, 93] rfl (by decide +kernel)
set_option maxRecDepth 20000 in
theorem gX2_owedBy_X2_mateToday : GoodIn wsX2_owedBy (wsV RX2 65 RX2 yX2_mateToday wsX2_mateToday) := goodIn_app (goodIn_of _ (by decide +kernel)) ggX2_owedBy_X2_mateToday
theorem dX2_owedBy_0 : decode cX2_owedBy 0 = .ok (.aload_n 0, 1) := by decide +kernel
theorem dX2_owedBy_1 : decode cX2_owedBy 1 = .ok (.getfield 31, 3) := by decide +kernel
theorem dX2_owedBy_4 : decode cX2_owedBy 4 = .ok (.iload_n 1, 1) := by decide +kernel
theorem dX2_owedBy_5 : decode cX2_owedBy 5 = .ok (.invokevirtual 60, 3) := by decide +kernel
theorem dX2_owedBy_8 : decode cX2_owedBy 8 = .ok (.ifCond .ne 5, 3) := by decide +kernel
theorem dX2_owedBy_11 : decode cX2_owedBy 11 = .ok (.iconst 0, 1) := by decide +kernel
theorem dX2_owedBy_12 : decode cX2_owedBy 12 = .ok (.ireturn, 1) := by decide +kernel
theorem dX2_owedBy_13 : decode cX2_owedBy 13 = .ok (.aload_n 0, 1) := by decide +kernel
theorem dX2_owedBy_14 : decode cX2_owedBy 14 = .ok (.iload_n 1, 1) := by decide +kernel
theorem dX2_owedBy_15 : decode cX2_owedBy 15 = .ok (.invokevirtual 65, 3) := by decide +kernel
theorem dX2_owedBy_18 : decode cX2_owedBy 18 = .ok (.istore_n 2, 1) := by decide +kernel
theorem dX2_owedBy_19 : decode cX2_owedBy 19 = .ok (.aload_n 0, 1) := by decide +kernel
theorem dX2_owedBy_20 : decode cX2_owedBy 20 = .ok (.getfield 31, 3) := by decide +kernel
theorem dX2_owedBy_23 : decode cX2_owedBy 23 = .ok (.getfield 69, 3) := by decide +kernel
theorem dX2_owedBy_26 : decode cX2_owedBy 26 = .ok (.iload_n 1, 1) := by decide +kernel
theorem dX2_owedBy_27 : decode cX2_owedBy 27 = .ok (.baload, 1) := by decide +kernel
theorem dX2_owedBy_28 : decode cX2_owedBy 28 = .ok (.ifCond .eq 23, 3) := by decide +kernel
theorem dX2_owedBy_31 : decode cX2_owedBy 31 = .ok (.iload_n 2, 1) := by decide +kernel
theorem dX2_owedBy_32 : decode cX2_owedBy 32 = .ok (.bipush (-4), 2) := by decide +kernel
theorem dX2_owedBy_34 : decode cX2_owedBy 34 = .ok (.if_icmp .ne 15, 3) := by decide +kernel
theorem dX2_owedBy_37 : decode cX2_owedBy 37 = .ok (.aload_n 0, 1) := by decide +kernel
theorem dX2_owedBy_38 : decode cX2_owedBy 38 = .ok (.getfield 31, 3) := by decide +kernel
theorem dX2_owedBy_41 : decode cX2_owedBy 41 = .ok (.getfield 73, 3) := by decide +kernel
theorem dX2_owedBy_44 : decode cX2_owedBy 44 = .ok (.iload_n 1, 1) := by decide +kernel
theorem dX2_owedBy_45 : decode cX2_owedBy 45 = .ok (.iaload, 1) := by decide +kernel
theorem dX2_owedBy_46 : decode cX2_owedBy 46 = .ok (.goto 4, 3) := by decide +kernel
theorem dX2_owedBy_49 : decode cX2_owedBy 49 = .ok (.iconst 0, 1) := by decide +kernel
theorem dX2_owedBy_50 : decode cX2_owedBy 50 = .ok (.ireturn, 1) := by decide +kernel
theorem dX2_owedBy_51 : decode cX2_owedBy 51 = .ok (.aload_n 0, 1) := by decide +kernel
theorem dX2_owedBy_52 : decode cX2_owedBy 52 = .ok (.getfield 31, 3) := by decide +kernel
theorem dX2_owedBy_55 : decode cX2_owedBy 55 = .ok (.iload_n 2, 1) := by decide +kernel
theorem dX2_owedBy_56 : decode cX2_owedBy 56 = .ok (.invokevirtual 60, 3) := by decide +kernel
theorem dX2_owedBy_59 : decode cX2_owedBy 59 = .ok (.ifCond .ne 13, 3) := by decide +kernel
theorem dX2_owedBy_62 : decode cX2_owedBy 62 = .ok (.aload_n 0, 1) := by decide +kernel
theorem dX2_owedBy_63 : decode cX2_owedBy 63 = .ok (.getfield 31, 3) := by decide +kernel
theorem dX2_owedBy_66 : decode cX2_owedBy 66 = .ok (.getfield 73, 3) := by decide +kernel
theorem dX2_owedBy_69 : decode cX2_owedBy 69 = .ok (.iload_n 1, 1) := by decide +kernel
theorem dX2_owedBy_70 : decode cX2_owedBy 70 = .ok (.iaload, 1) := by decide +kernel
theorem dX2_owedBy_71 : decode cX2_owedBy 71 = .ok (.ireturn, 1) := by decide +kernel
theorem dX2_owedBy_72 : decode cX2_owedBy 72 = .ok (.aload_n 0, 1) := by decide +kernel
theorem dX2_owedBy_73 : decode cX2_owedBy 73 = .ok (.getfield 31, 3) := by decide +kernel
theorem dX2_owedBy_76 : decode cX2_owedBy 76 = .ok (.getfield 76, 3) := by decide +kernel
theorem dX2_owedBy_79 : decode cX2_owedBy 79 = .ok (.iload_n 2, 1) := by decide +kernel
theorem dX2_owedBy_80 : decode cX2_owedBy 80 = .ok (.iaload, 1) := by decide +kernel
theorem dX2_owedBy_81 : decode cX2_owedBy 81 = .ok (.iconst 1, 1) := by decide +kernel
theorem dX2_owedBy_82 : decode cX2_owedBy 82 = .ok (.if_icmp .ne 17, 3) := by decide +kernel
theorem dX2_owedBy_85 : decode cX2_owedBy 85 = .ok (.aload_n 0, 1) := by decide +kernel
theorem dX2_owedBy_86 : decode cX2_owedBy 86 = .ok (.getfield 31, 3) := by decide +kernel
theorem dX2_owedBy_89 : decode cX2_owedBy 89 = .ok (.getfield 73, 3) := by decide +kernel
theorem dX2_owedBy_92 : decode cX2_owedBy 92 = .ok (.iload_n 2, 1) := by decide +kernel
theorem dX2_owedBy_93 : decode cX2_owedBy 93 = .ok (.iaload, 1) := by decide +kernel
theorem dX2_owedBy_94 : decode cX2_owedBy 94 = .ok (.iconst 2, 1) := by decide +kernel
theorem dX2_owedBy_95 : decode cX2_owedBy 95 = .ok (.idiv, 1) := by decide +kernel
theorem dX2_owedBy_96 : decode cX2_owedBy 96 = .ok (.goto 12, 3) := by decide +kernel
theorem dX2_owedBy_99 : decode cX2_owedBy 99 = .ok (.aload_n 0, 1) := by decide +kernel
theorem dX2_owedBy_100 : decode cX2_owedBy 100 = .ok (.getfield 31, 3) := by decide +kernel
theorem dX2_owedBy_103 : decode cX2_owedBy 103 = .ok (.getfield 73, 3) := by decide +kernel
theorem dX2_owedBy_106 : decode cX2_owedBy 106 = .ok (.iload_n 2, 1) := by decide +kernel
theorem dX2_owedBy_107 : decode cX2_owedBy 107 = .ok (.iaload, 1) := by decide +kernel
theorem dX2_owedBy_108 : decode cX2_owedBy 108 = .ok (.istore_n 3, 1) := by decide +kernel
theorem dX2_owedBy_109 : decode cX2_owedBy 109 = .ok (.aload_n 0, 1) := by decide +kernel
theorem dX2_owedBy_110 : decode cX2_owedBy 110 = .ok (.getfield 31, 3) := by decide +kernel
theorem dX2_owedBy_113 : decode cX2_owedBy 113 = .ok (.getfield 73, 3) := by decide +kernel
theorem dX2_owedBy_116 : decode cX2_owedBy 116 = .ok (.iload_n 1, 1) := by decide +kernel
theorem dX2_owedBy_117 : decode cX2_owedBy 117 = .ok (.iaload, 1) := by decide +kernel
theorem dX2_owedBy_118 : decode cX2_owedBy 118 = .ok (.iload_n 3, 1) := by decide +kernel
theorem dX2_owedBy_119 : decode cX2_owedBy 119 = .ok (.iadd, 1) := by decide +kernel
theorem dX2_owedBy_120 : decode cX2_owedBy 120 = .ok (.ireturn, 1) := by decide +kernel
theorem dX2_isLaw_0 : decode cX2_isLaw 0 = .ok (.aload_n 0, 1) := by decide +kernel
theorem dX2_isLaw_1 : decode cX2_isLaw 1 = .ok (.getfield 12, 3) := by decide +kernel
theorem dX2_isLaw_4 : decode cX2_isLaw 4 = .ok (.getfield 49, 3) := by decide +kernel
theorem dX2_isLaw_7 : decode cX2_isLaw 7 = .ok (.aload_n 0, 1) := by decide +kernel
theorem dX2_isLaw_8 : decode cX2_isLaw 8 = .ok (.getfield 31, 3) := by decide +kernel
theorem dX2_isLaw_11 : decode cX2_isLaw 11 = .ok (.getfield 79, 3) := by decide +kernel
theorem dX2_isLaw_14 : decode cX2_isLaw 14 = .ok (.if_icmp .lt 7, 3) := by decide +kernel
theorem dX2_isLaw_17 : decode cX2_isLaw 17 = .ok (.iconst 1, 1) := by decide +kernel
theorem dX2_isLaw_18 : decode cX2_isLaw 18 = .ok (.goto 4, 3) := by decide +kernel
theorem dX2_isLaw_21 : decode cX2_isLaw 21 = .ok (.iconst 0, 1) := by decide +kernel
theorem dX2_isLaw_22 : decode cX2_isLaw 22 = .ok (.ireturn, 1) := by decide +kernel
set_option maxRecDepth 20000 in
theorem ggX2_canPay_X3_isPerson : GoodIn wsX2_canPay wsX3_isPerson := goodIn_r _ [8, 9, 23, 24, 25, 26, 27, 28, 29, 30, 31, 32] rfl (by decide +kernel)
set_option maxRecDepth 20000 in
theorem gX2_canPay_X3_isPerson : GoodIn wsX2_canPay (wsV RX2 60 RX3 yX3_isPerson wsX3_isPerson) := goodIn_app (goodIn_of _ (by decide +kernel)) ggX2_canPay_X3_isPerson
theorem dX2_canPay_0 : decode cX2_canPay 0 = .ok (.aload_n 0, 1) := by decide +kernel
theorem dX2_canPay_1 : decode cX2_canPay 1 = .ok (.getfield 31, 3) := by decide +kernel
theorem dX2_canPay_4 : decode cX2_canPay 4 = .ok (.iload_n 1, 1) := by decide +kernel
theorem dX2_canPay_5 : decode cX2_canPay 5 = .ok (.invokevirtual 60, 3) := by decide +kernel
theorem dX2_canPay_8 : decode cX2_canPay 8 = .ok (.ifCond .eq 41, 3) := by decide +kernel
theorem dX2_canPay_11 : decode cX2_canPay 11 = .ok (.aload_n 0, 1) := by decide +kernel
theorem dX2_canPay_12 : decode cX2_canPay 12 = .ok (.getfield 31, 3) := by decide +kernel
theorem dX2_canPay_15 : decode cX2_canPay 15 = .ok (.iload_n 2, 1) := by decide +kernel
theorem dX2_canPay_16 : decode cX2_canPay 16 = .ok (.invokevirtual 60, 3) := by decide +kernel
theorem dX2_canPay_19 : decode cX2_canPay 19 = .ok (.ifCond .eq 30, 3) := by decide +kernel
theorem dX2_canPay_22 : decode cX2_canPay 22 = .ok (.aload_n 0, 1) := by decide +kernel
theorem dX2_canPay_23 : decode cX2_canPay 23 = .ok (.getfield 12, 3) := by decide +kernel
theorem dX2_canPay_26 : decode cX2_canPay 26 = .ok (.getfield 82, 3) := by decide +kernel
theorem dX2_canPay_29 : decode cX2_canPay 29 = .ok (.iload_n 1, 1) := by decide +kernel
theorem dX2_canPay_30 : decode cX2_canPay 30 = .ok (.iaload, 1) := by decide +kernel
theorem dX2_canPay_31 : decode cX2_canPay 31 = .ok (.aload_n 0, 1) := by decide +kernel
theorem dX2_canPay_32 : decode cX2_canPay 32 = .ok (.getfield 12, 3) := by decide +kernel
theorem dX2_canPay_35 : decode cX2_canPay 35 = .ok (.getfield 82, 3) := by decide +kernel
theorem dX2_canPay_38 : decode cX2_canPay 38 = .ok (.iload_n 2, 1) := by decide +kernel
theorem dX2_canPay_39 : decode cX2_canPay 39 = .ok (.iaload, 1) := by decide +kernel
theorem dX2_canPay_40 : decode cX2_canPay 40 = .ok (.iadd, 1) := by decide +kernel
theorem dX2_canPay_41 : decode cX2_canPay 41 = .ok (.iload_n 3, 1) := by decide +kernel
theorem dX2_canPay_42 : decode cX2_canPay 42 = .ok (.if_icmp .lt 7, 3) := by decide +kernel
theorem dX2_canPay_45 : decode cX2_canPay 45 = .ok (.iconst 1, 1) := by decide +kernel
theorem dX2_canPay_46 : decode cX2_canPay 46 = .ok (.goto 4, 3) := by decide +kernel
theorem dX2_canPay_49 : decode cX2_canPay 49 = .ok (.iconst 0, 1) := by decide +kernel
theorem dX2_canPay_50 : decode cX2_canPay 50 = .ok (.ireturn, 1) := by decide +kernel
set_option maxRecDepth 20000 in
theorem ggX2_refuseWedding_X3_isParson : GoodIn wsX2_refuseWedding wsX3_isParson := goodIn_r _ [8, 9, 47, 48, 49, 50, 51, 52, 53, 54, 55, 56] rfl (by decide +kernel)
set_option maxRecDepth 20000 in
theorem gX2_refuseWedding_X3_isParson : GoodIn wsX2_refuseWedding (wsV RX2 85 RX3 yX3_isParson wsX3_isParson) := goodIn_app (goodIn_of _ (by decide +kernel)) ggX2_refuseWedding_X3_isParson
set_option maxRecDepth 20000 in
theorem ggX2_refuseWedding_X3_canPair : GoodIn wsX2_refuseWedding wsX3_canPair := goodIn_r _ [13, 14, 15, 16, 17, 18, 7, 19, 20, 47, 48, 49, 50, 51, 52, 53, 54, 55, 56] rfl (by decide +kernel)
set_option maxRecDepth 20000 in
theorem gX2_refuseWedding_X3_canPair : GoodIn wsX2_refuseWedding (wsV RX2 88 RX3 yX3_canPair wsX3_canPair) := goodIn_app (goodIn_of _ (by decide +kernel)) ggX2_refuseWedding_X3_canPair
set_option maxRecDepth 20000 in
theorem ggX2_refuseWedding_X2_isLaw : GoodIn wsX2_refuseWedding wsX2_isLaw := goodIn_r _ [25, 3, 26, 1, 27, 43, 44, 45, 46, 57, 58, 59, 60, 61, 62, 63, 64, 65, 47, 48, 49, 50, 51, 52, 53, 54, 55, 56] rfl (by decide +kernel)
set_option maxRecDepth 20000 in
theorem gX2_refuseWedding_X2_isLaw : GoodIn wsX2_refuseWedding (wsV RX2 92 RX2 yX2_isLaw wsX2_isLaw) := goodIn_app (goodIn_of _ (by decide +kernel)) ggX2_refuseWedding_X2_isLaw
set_option maxRecDepth 20000 in
theorem ggX2_refuseWedding_X2_canPay : GoodIn wsX2_refuseWedding wsX2_canPay := goodIn_r _ [31, 1, 3, 32, 33, 34, 35, 7, 36, 20, 43, 44, 45, 46, 57, 58, 59, 60, 61, 62, 63, 64, 65, 47, 48, 49, 50, 51, 52, 53, 54, 55, 56] rfl (by decide +kernel)
set_option maxRecDepth 20000 in
theorem gX2_refuseWedding_X2_canPay : GoodIn wsX2_refuseWedding (wsV RX2 99 RX2 yX2_canPay wsX2_canPay) := goodIn_app (goodIn_of _ (by decide +kernel)) ggX2_refuseWedding_X2_canPay
set_option maxRecDepth 20000 in
theorem ggX2_refuseWedding_X0_hasRoom : GoodIn wsX2_refuseWedding wsX0_hasRoom := goodIn_r _ [41, 42, 57, 58, 59, 60, 61, 62, 63, 64, 65] rfl (by decide +kernel)
set_option maxRecDepth 20000 in
theorem gX2_refuseWedding_X0_hasRoom : GoodIn wsX2_refuseWedding (wsV RX2 103 RX0 yX0_hasRoom wsX0_hasRoom) := goodIn_app (goodIn_of _ (by decide +kernel)) ggX2_refuseWedding_X0_hasRoom
theorem dX2_refuseWedding_0 : decode cX2_refuseWedding 0 = .ok (.aload_n 0, 1) := by decide +kernel
theorem dX2_refuseWedding_1 : decode cX2_refuseWedding 1 = .ok (.getfield 31, 3) := by decide +kernel
theorem dX2_refuseWedding_4 : decode cX2_refuseWedding 4 = .ok (.iload_n 1, 1) := by decide +kernel
theorem dX2_refuseWedding_5 : decode cX2_refuseWedding 5 = .ok (.invokevirtual 85, 3) := by decide +kernel
theorem dX2_refuseWedding_8 : decode cX2_refuseWedding 8 = .ok (.ifCond .eq 40, 3) := by decide +kernel
theorem dX2_refuseWedding_11 : decode cX2_refuseWedding 11 = .ok (.aload_n 0, 1) := by decide +kernel
theorem dX2_refuseWedding_12 : decode cX2_refuseWedding 12 = .ok (.getfield 31, 3) := by decide +kernel
theorem dX2_refuseWedding_15 : decode cX2_refuseWedding 15 = .ok (.iload_n 2, 1) := by decide +kernel
theorem dX2_refuseWedding_16 : decode cX2_refuseWedding 16 = .ok (.iload_n 3, 1) := by decide +kernel
theorem dX2_refuseWedding_17 : decode cX2_refuseWedding 17 = .ok (.invokevirtual 88, 3) := by decide +kernel
theorem dX2_refuseWedding_20 : decode cX2_refuseWedding 20 = .ok (.ifCond .eq 28, 3) := by decide +kernel
theorem dX2_refuseWedding_23 : decode cX2_refuseWedding 23 = .ok (.aload_n 0, 1) := by decide +kernel
theorem dX2_refuseWedding_24 : decode cX2_refuseWedding 24 = .ok (.invokevirtual 92, 3) := by decide +kernel
theorem dX2_refuseWedding_27 : decode cX2_refuseWedding 27 = .ok (.ifCond .ne 21, 3) := by decide +kernel
theorem dX2_refuseWedding_30 : decode cX2_refuseWedding 30 = .ok (.aload_n 0, 1) := by decide +kernel
theorem dX2_refuseWedding_31 : decode cX2_refuseWedding 31 = .ok (.iload_n 2, 1) := by decide +kernel
theorem dX2_refuseWedding_32 : decode cX2_refuseWedding 32 = .ok (.iload_n 3, 1) := by decide +kernel
theorem dX2_refuseWedding_33 : decode cX2_refuseWedding 33 = .ok (.aload_n 0, 1) := by decide +kernel
theorem dX2_refuseWedding_34 : decode cX2_refuseWedding 34 = .ok (.getfield 31, 3) := by decide +kernel
theorem dX2_refuseWedding_37 : decode cX2_refuseWedding 37 = .ok (.getfield 96, 3) := by decide +kernel
theorem dX2_refuseWedding_40 : decode cX2_refuseWedding 40 = .ok (.iload_n 1, 1) := by decide +kernel
theorem dX2_refuseWedding_41 : decode cX2_refuseWedding 41 = .ok (.iaload, 1) := by decide +kernel
theorem dX2_refuseWedding_42 : decode cX2_refuseWedding 42 = .ok (.invokevirtual 99, 3) := by decide +kernel
theorem dX2_refuseWedding_45 : decode cX2_refuseWedding 45 = .ok (.ifCond .ne 6, 3) := by decide +kernel
theorem dX2_refuseWedding_48 : decode cX2_refuseWedding 48 = .ok (.bipush (-2), 2) := by decide +kernel
theorem dX2_refuseWedding_50 : decode cX2_refuseWedding 50 = .ok (.ireturn, 1) := by decide +kernel
theorem dX2_refuseWedding_51 : decode cX2_refuseWedding 51 = .ok (.aload_n 0, 1) := by decide +kernel
theorem dX2_refuseWedding_52 : decode cX2_refuseWedding 52 = .ok (.getfield 12, 3) := by decide +kernel
theorem dX2_refuseWedding_55 : decode cX2_refuseWedding 55 = .ok (.iload_n 1, 1) := by decide +kernel
theorem dX2_refuseWedding_56 : decode cX2_refuseWedding 56 = .ok (.invokevirtual 103, 3) := by decide +kernel
theorem dX2_refuseWedding_59 : decode cX2_refuseWedding 59 = .ok (.ifCond .eq 7, 3) := by decide +kernel
theorem dX2_refuseWedding_62 : decode cX2_refuseWedding 62 = .ok (.iconst 0, 1) := by decide +kernel
theorem dX2_refuseWedding_63 : decode cX2_refuseWedding 63 = .ok (.goto 5, 3) := by decide +kernel
theorem dX2_refuseWedding_66 : decode cX2_refuseWedding 66 = .ok (.bipush (-3), 2) := by decide +kernel
theorem dX2_refuseWedding_68 : decode cX2_refuseWedding 68 = .ok (.ireturn, 1) := by decide +kernel
set_option maxRecDepth 20000 in
theorem ggX2_refuseBlank_X3_isParson : GoodIn wsX2_refuseBlank wsX3_isParson := goodIn_r _ [8, 9, 36, 37, 38, 39, 40, 41, 42, 43, 44, 45] rfl (by decide +kernel)
set_option maxRecDepth 20000 in
theorem gX2_refuseBlank_X3_isParson : GoodIn wsX2_refuseBlank (wsV RX2 85 RX3 yX3_isParson wsX3_isParson) := goodIn_app (goodIn_of _ (by decide +kernel)) ggX2_refuseBlank_X3_isParson
set_option maxRecDepth 20000 in
theorem ggX2_refuseBlank_X2_isLaw : GoodIn wsX2_refuseBlank wsX2_isLaw := goodIn_r _ [14, 3, 15, 1, 16, 32, 33, 34, 35, 46, 47, 48, 49, 50, 51, 52, 53, 54, 36, 37, 38, 39, 40, 41, 42, 43, 44, 45] rfl (by decide +kernel)
set_option maxRecDepth 20000 in
theorem gX2_refuseBlank_X2_isLaw : GoodIn wsX2_refuseBlank (wsV RX2 92 RX2 yX2_isLaw wsX2_isLaw) := goodIn_app (goodIn_of _ (by decide +kernel)) ggX2_refuseBlank_X2_isLaw
set_option maxRecDepth 20000 in
theorem ggX2_refuseBlank_X0_blanksOf : GoodIn wsX2_refuseBlank wsX0_blanksOf := goodIn_r _ [21, 22, 23, 24, 25, 20, 26, 27, 46, 47, 48, 49, 50, 51, 52, 53, 54] rfl (by decide +kernel)
set_option maxRecDepth 20000 in
theorem gX2_refuseBlank_X0_blanksOf : GoodIn wsX2_refuseBlank (wsV RX2 109 RX0 yX0_blanksOf wsX0_blanksOf) := goodIn_app (goodIn_of _ (by decide +kernel)) ggX2_refuseBlank_X0_blanksOf
set_option maxRecDepth 20000 in
theorem ggX2_refuseBlank_X0_hasRoom : GoodIn wsX2_refuseBlank wsX0_hasRoom := goodIn_r _ [31, 27, 46, 47, 48, 49, 50, 51, 52, 53, 54] rfl (by decide +kernel)
set_option maxRecDepth 20000 in
theorem gX2_refuseBlank_X0_hasRoom : GoodIn wsX2_refuseBlank (wsV RX2 103 RX0 yX0_hasRoom wsX0_hasRoom) := goodIn_app (goodIn_of _ (by decide +kernel)) ggX2_refuseBlank_X0_hasRoom
theorem dX2_refuseBlank_0 : decode cX2_refuseBlank 0 = .ok (.aload_n 0, 1) := by decide +kernel
theorem dX2_refuseBlank_1 : decode cX2_refuseBlank 1 = .ok (.getfield 31, 3) := by decide +kernel
theorem dX2_refuseBlank_4 : decode cX2_refuseBlank 4 = .ok (.iload_n 1, 1) := by decide +kernel
theorem dX2_refuseBlank_5 : decode cX2_refuseBlank 5 = .ok (.invokevirtual 85, 3) := by decide +kernel
theorem dX2_refuseBlank_8 : decode cX2_refuseBlank 8 = .ok (.ifCond .eq 22, 3) := by decide +kernel
theorem dX2_refuseBlank_11 : decode cX2_refuseBlank 11 = .ok (.aload_n 0, 1) := by decide +kernel
theorem dX2_refuseBlank_12 : decode cX2_refuseBlank 12 = .ok (.getfield 31, 3) := by decide +kernel
theorem dX2_refuseBlank_15 : decode cX2_refuseBlank 15 = .ok (.getfield 106, 3) := by decide +kernel
theorem dX2_refuseBlank_18 : decode cX2_refuseBlank 18 = .ok (.iload_n 1, 1) := by decide +kernel
theorem dX2_refuseBlank_19 : decode cX2_refuseBlank 19 = .ok (.iaload, 1) := by decide +kernel
theorem dX2_refuseBlank_20 : decode cX2_refuseBlank 20 = .ok (.ifCond .eq 10, 3) := by decide +kernel
theorem dX2_refuseBlank_23 : decode cX2_refuseBlank 23 = .ok (.aload_n 0, 1) := by decide +kernel
theorem dX2_refuseBlank_24 : decode cX2_refuseBlank 24 = .ok (.invokevirtual 92, 3) := by decide +kernel
theorem dX2_refuseBlank_27 : decode cX2_refuseBlank 27 = .ok (.ifCond .eq 6, 3) := by decide +kernel
theorem dX2_refuseBlank_30 : decode cX2_refuseBlank 30 = .ok (.bipush (-2), 2) := by decide +kernel
theorem dX2_refuseBlank_32 : decode cX2_refuseBlank 32 = .ok (.ireturn, 1) := by decide +kernel
theorem dX2_refuseBlank_33 : decode cX2_refuseBlank 33 = .ok (.aload_n 0, 1) := by decide +kernel
theorem dX2_refuseBlank_34 : decode cX2_refuseBlank 34 = .ok (.getfield 31, 3) := by decide +kernel
theorem dX2_refuseBlank_37 : decode cX2_refuseBlank 37 = .ok (.getfield 106, 3) := by decide +kernel
theorem dX2_refuseBlank_40 : decode cX2_refuseBlank 40 = .ok (.iload_n 1, 1) := by decide +kernel
theorem dX2_refuseBlank_41 : decode cX2_refuseBlank 41 = .ok (.iaload, 1) := by decide +kernel
theorem dX2_refuseBlank_42 : decode cX2_refuseBlank 42 = .ok (.iconst 1, 1) := by decide +kernel
theorem dX2_refuseBlank_43 : decode cX2_refuseBlank 43 = .ok (.if_icmp .ne 18, 3) := by decide +kernel
theorem dX2_refuseBlank_46 : decode cX2_refuseBlank 46 = .ok (.aload_n 0, 1) := by decide +kernel
theorem dX2_refuseBlank_47 : decode cX2_refuseBlank 47 = .ok (.getfield 12, 3) := by decide +kernel
theorem dX2_refuseBlank_50 : decode cX2_refuseBlank 50 = .ok (.iload_n 1, 1) := by decide +kernel
theorem dX2_refuseBlank_51 : decode cX2_refuseBlank 51 = .ok (.invokevirtual 109, 3) := by decide +kernel
theorem dX2_refuseBlank_54 : decode cX2_refuseBlank 54 = .ok (.iconst 2, 1) := by decide +kernel
theorem dX2_refuseBlank_55 : decode cX2_refuseBlank 55 = .ok (.if_icmp .lt 6, 3) := by decide +kernel
theorem dX2_refuseBlank_58 : decode cX2_refuseBlank 58 = .ok (.bipush (-2), 2) := by decide +kernel
theorem dX2_refuseBlank_60 : decode cX2_refuseBlank 60 = .ok (.ireturn, 1) := by decide +kernel
theorem dX2_refuseBlank_61 : decode cX2_refuseBlank 61 = .ok (.aload_n 0, 1) := by decide +kernel
theorem dX2_refuseBlank_62 : decode cX2_refuseBlank 62 = .ok (.getfield 12, 3) := by decide +kernel
theorem dX2_refuseBlank_65 : decode cX2_refuseBlank 65 = .ok (.iload_n 1, 1) := by decide +kernel
theorem dX2_refuseBlank_66 : decode cX2_refuseBlank 66 = .ok (.invokevirtual 103, 3) := by decide +kernel
theorem dX2_refuseBlank_69 : decode cX2_refuseBlank 69 = .ok (.ifCond .eq 7, 3) := by decide +kernel
theorem dX2_refuseBlank_72 : decode cX2_refuseBlank 72 = .ok (.iconst 0, 1) := by decide +kernel
theorem dX2_refuseBlank_73 : decode cX2_refuseBlank 73 = .ok (.goto 5, 3) := by decide +kernel
theorem dX2_refuseBlank_76 : decode cX2_refuseBlank 76 = .ok (.bipush (-3), 2) := by decide +kernel
theorem dX2_refuseBlank_78 : decode cX2_refuseBlank 78 = .ok (.ireturn, 1) := by decide +kernel
set_option maxRecDepth 20000 in
theorem ggX2_writeWedding_X0_begin : GoodIn wsX2_writeWedding wsX0_begin := goodIn_r _ [8, 9, 10, 11, 12, 13, 14, 15, 7, 16, 17, 18, 19, 20, 68, 69, 70, 71, 72, 73, 74, 75, 76] rfl (by decide +kernel)
set_option maxRecDepth 20000 in
theorem gX2_writeWedding_X0_begin : GoodIn wsX2_writeWedding (wsV RX2 112 RX0 yX0_begin wsX0_begin) := goodIn_app (goodIn_of _ (by decide +kernel)) ggX2_writeWedding_X0_begin
set_option maxRecDepth 20000 in
theorem ggX2_writeWedding_X0_slotOf : GoodIn wsX2_writeWedding wsX0_slotOf := goodIn_r _ [20, 9, 68, 69, 70, 71, 72, 73, 74, 75, 76] rfl (by decide +kernel)
set_option maxRecDepth 20000 in
theorem gX2_writeWedding_X0_slotOf : GoodIn wsX2_writeWedding (wsV RX2 115 RX0 yX0_slotOf wsX0_slotOf) := goodIn_app (goodIn_of _ (by decide +kernel)) ggX2_writeWedding_X0_slotOf
set_option maxRecDepth 20000 in
theorem ggX2_writeWedding_X2_writeTwo : GoodIn wsX2_writeWedding wsX2_writeTwo := goodIn_r _ [26, 2, 1, 27, 28, 29, 30, 31, 32, 33, 34, 35, 36, 37, 38, 39, 40, 41, 42, 43, 44, 45, 46, 47, 7, 48, 9, 49, 50, 51, 52, 53, 54, 55, 56, 57, 58, 59, 60, 61, 62, 63, 64, 65, 66, 67, 68, 69, 70, 71, 72, 73, 74, 75, 76] rfl (by decide +kernel)
set_option maxRecDepth 20000 in
theorem gX2_writeWedding_X2_writeTwo : GoodIn wsX2_writeWedding (wsV RX2 118 RX2 yX2_writeTwo wsX2_writeTwo) := goodIn_app (goodIn_of _ (by decide +kernel)) ggX2_writeWedding_X2_writeTwo
theorem dX2_writeWedding_0 : decode cX2_writeWedding 0 = .ok (.aload_n 0, 1) := by decide +kernel
theorem dX2_writeWedding_1 : decode cX2_writeWedding 1 = .ok (.getfield 12, 3) := by decide +kernel
theorem dX2_writeWedding_4 : decode cX2_writeWedding 4 = .ok (.iload_n 1, 1) := by decide +kernel
theorem dX2_writeWedding_5 : decode cX2_writeWedding 5 = .ok (.invokevirtual 112, 3) := by decide +kernel
theorem dX2_writeWedding_8 : decode cX2_writeWedding 8 = .ok (.istore 4, 2) := by decide +kernel
theorem dX2_writeWedding_10 : decode cX2_writeWedding 10 = .ok (.aload_n 0, 1) := by decide +kernel
theorem dX2_writeWedding_11 : decode cX2_writeWedding 11 = .ok (.getfield 12, 3) := by decide +kernel
theorem dX2_writeWedding_14 : decode cX2_writeWedding 14 = .ok (.iload_n 1, 1) := by decide +kernel
theorem dX2_writeWedding_15 : decode cX2_writeWedding 15 = .ok (.iload 4, 2) := by decide +kernel
theorem dX2_writeWedding_17 : decode cX2_writeWedding 17 = .ok (.invokevirtual 115, 3) := by decide +kernel
theorem dX2_writeWedding_20 : decode cX2_writeWedding 20 = .ok (.istore 5, 2) := by decide +kernel
theorem dX2_writeWedding_22 : decode cX2_writeWedding 22 = .ok (.iload 5, 2) := by decide +kernel
theorem dX2_writeWedding_24 : decode cX2_writeWedding 24 = .ok (.iconst (-1), 1) := by decide +kernel
theorem dX2_writeWedding_25 : decode cX2_writeWedding 25 = .ok (.if_icmp .eq 21, 3) := by decide +kernel
theorem dX2_writeWedding_28 : decode cX2_writeWedding 28 = .ok (.aload_n 0, 1) := by decide +kernel
theorem dX2_writeWedding_29 : decode cX2_writeWedding 29 = .ok (.iload_n 1, 1) := by decide +kernel
theorem dX2_writeWedding_30 : decode cX2_writeWedding 30 = .ok (.iload 5, 2) := by decide +kernel
theorem dX2_writeWedding_32 : decode cX2_writeWedding 32 = .ok (.iload_n 2, 1) := by decide +kernel
theorem dX2_writeWedding_33 : decode cX2_writeWedding 33 = .ok (.iload_n 3, 1) := by decide +kernel
theorem dX2_writeWedding_34 : decode cX2_writeWedding 34 = .ok (.aload_n 0, 1) := by decide +kernel
theorem dX2_writeWedding_35 : decode cX2_writeWedding 35 = .ok (.getfield 31, 3) := by decide +kernel
theorem dX2_writeWedding_38 : decode cX2_writeWedding 38 = .ok (.getfield 96, 3) := by decide +kernel
theorem dX2_writeWedding_41 : decode cX2_writeWedding 41 = .ok (.iload_n 1, 1) := by decide +kernel
theorem dX2_writeWedding_42 : decode cX2_writeWedding 42 = .ok (.iaload, 1) := by decide +kernel
theorem dX2_writeWedding_43 : decode cX2_writeWedding 43 = .ok (.invokevirtual 118, 3) := by decide +kernel
theorem dX2_writeWedding_46 : decode cX2_writeWedding 46 = .ok (.iload 4, 2) := by decide +kernel
theorem dX2_writeWedding_48 : decode cX2_writeWedding 48 = .ok (.ireturn, 1) := by decide +kernel
set_option maxRecDepth 20000 in
theorem ggX2_writeTwo_X3_isParson : GoodIn wsX2_writeTwo wsX3_isParson := goodIn_r _ [19, 20, 36, 37, 38, 39, 40, 41, 42, 43, 44, 45] rfl (by decide +kernel)
set_option maxRecDepth 20000 in
theorem gX2_writeTwo_X3_isParson : GoodIn wsX2_writeTwo (wsV RX2 85 RX3 yX3_isParson wsX3_isParson) := goodIn_app (goodIn_of _ (by decide +kernel)) ggX2_writeTwo_X3_isParson
set_option maxRecDepth 20000 in
theorem ggX2_writeTwo_X0_isLine : GoodIn wsX2_writeTwo wsX0_isLine := goodIn_r _ [25, 26, 46, 47, 48, 49, 50, 51, 52, 53, 54] rfl (by decide +kernel)
set_option maxRecDepth 20000 in
theorem gX2_writeTwo_X0_isLine : GoodIn wsX2_writeTwo (wsV RX2 122 RX0 yX0_isLine wsX0_isLine) := goodIn_app (goodIn_of _ (by decide +kernel)) ggX2_writeTwo_X0_isLine
set_option maxRecDepth 20000 in
theorem ggX2_writeTwo_X3_areTwo : GoodIn wsX2_writeTwo wsX3_areTwo := goodIn_r _ [30, 31, 36, 37, 38, 39, 40, 41, 42, 43, 44, 45] rfl (by decide +kernel)
set_option maxRecDepth 20000 in
theorem gX2_writeTwo_X3_areTwo : GoodIn wsX2_writeTwo (wsV RX2 125 RX3 yX3_areTwo wsX3_areTwo) := goodIn_app (goodIn_of _ (by decide +kernel)) ggX2_writeTwo_X3_areTwo
theorem dX2_writeTwo_0 : decode cX2_writeTwo 0 = .ok (.aload_n 0, 1) := by decide +kernel
theorem dX2_writeTwo_1 : decode cX2_writeTwo 1 = .ok (.getfield 31, 3) := by decide +kernel
theorem dX2_writeTwo_4 : decode cX2_writeTwo 4 = .ok (.iload_n 1, 1) := by decide +kernel
theorem dX2_writeTwo_5 : decode cX2_writeTwo 5 = .ok (.invokevirtual 85, 3) := by decide +kernel
theorem dX2_writeTwo_8 : decode cX2_writeTwo 8 = .ok (.ifCond .eq 27, 3) := by decide +kernel
theorem dX2_writeTwo_11 : decode cX2_writeTwo 11 = .ok (.aload_n 0, 1) := by decide +kernel
theorem dX2_writeTwo_12 : decode cX2_writeTwo 12 = .ok (.getfield 12, 3) := by decide +kernel
theorem dX2_writeTwo_15 : decode cX2_writeTwo 15 = .ok (.iload_n 2, 1) := by decide +kernel
theorem dX2_writeTwo_16 : decode cX2_writeTwo 16 = .ok (.invokevirtual 122, 3) := by decide +kernel
theorem dX2_writeTwo_19 : decode cX2_writeTwo 19 = .ok (.ifCond .eq 16, 3) := by decide +kernel
theorem dX2_writeTwo_22 : decode cX2_writeTwo 22 = .ok (.aload_n 0, 1) := by decide +kernel
theorem dX2_writeTwo_23 : decode cX2_writeTwo 23 = .ok (.getfield 31, 3) := by decide +kernel
theorem dX2_writeTwo_26 : decode cX2_writeTwo 26 = .ok (.iload_n 3, 1) := by decide +kernel
theorem dX2_writeTwo_27 : decode cX2_writeTwo 27 = .ok (.iload 4, 2) := by decide +kernel
theorem dX2_writeTwo_29 : decode cX2_writeTwo 29 = .ok (.invokevirtual 125, 3) := by decide +kernel
theorem dX2_writeTwo_32 : decode cX2_writeTwo 32 = .ok (.ifCond .ne 4, 3) := by decide +kernel
theorem dX2_writeTwo_35 : decode cX2_writeTwo 35 = .ok (.return_, 1) := by decide +kernel
theorem dX2_writeTwo_36 : decode cX2_writeTwo 36 = .ok (.aload_n 0, 1) := by decide +kernel
theorem dX2_writeTwo_37 : decode cX2_writeTwo 37 = .ok (.getfield 31, 3) := by decide +kernel
theorem dX2_writeTwo_40 : decode cX2_writeTwo 40 = .ok (.getfield 69, 3) := by decide +kernel
theorem dX2_writeTwo_43 : decode cX2_writeTwo 43 = .ok (.iload_n 3, 1) := by decide +kernel
theorem dX2_writeTwo_44 : decode cX2_writeTwo 44 = .ok (.baload, 1) := by decide +kernel
theorem dX2_writeTwo_45 : decode cX2_writeTwo 45 = .ok (.ifCond .eq 8, 3) := by decide +kernel
theorem dX2_writeTwo_48 : decode cX2_writeTwo 48 = .ok (.iload 4, 2) := by decide +kernel
theorem dX2_writeTwo_50 : decode cX2_writeTwo 50 = .ok (.goto 4, 3) := by decide +kernel
theorem dX2_writeTwo_53 : decode cX2_writeTwo 53 = .ok (.iload_n 3, 1) := by decide +kernel
theorem dX2_writeTwo_54 : decode cX2_writeTwo 54 = .ok (.istore 6, 2) := by decide +kernel
theorem dX2_writeTwo_56 : decode cX2_writeTwo 56 = .ok (.aload_n 0, 1) := by decide +kernel
theorem dX2_writeTwo_57 : decode cX2_writeTwo 57 = .ok (.getfield 31, 3) := by decide +kernel
theorem dX2_writeTwo_60 : decode cX2_writeTwo 60 = .ok (.getfield 69, 3) := by decide +kernel
theorem dX2_writeTwo_63 : decode cX2_writeTwo 63 = .ok (.iload_n 3, 1) := by decide +kernel
theorem dX2_writeTwo_64 : decode cX2_writeTwo 64 = .ok (.baload, 1) := by decide +kernel
theorem dX2_writeTwo_65 : decode cX2_writeTwo 65 = .ok (.ifCond .eq 7, 3) := by decide +kernel
theorem dX2_writeTwo_68 : decode cX2_writeTwo 68 = .ok (.iload_n 3, 1) := by decide +kernel
theorem dX2_writeTwo_69 : decode cX2_writeTwo 69 = .ok (.goto 5, 3) := by decide +kernel
theorem dX2_writeTwo_72 : decode cX2_writeTwo 72 = .ok (.iload 4, 2) := by decide +kernel
theorem dX2_writeTwo_74 : decode cX2_writeTwo 74 = .ok (.istore 7, 2) := by decide +kernel
theorem dX2_writeTwo_76 : decode cX2_writeTwo 76 = .ok (.aload_n 0, 1) := by decide +kernel
theorem dX2_writeTwo_77 : decode cX2_writeTwo 77 = .ok (.getfield 12, 3) := by decide +kernel
theorem dX2_writeTwo_80 : decode cX2_writeTwo 80 = .ok (.getfield 82, 3) := by decide +kernel
theorem dX2_writeTwo_83 : decode cX2_writeTwo 83 = .ok (.iload 6, 2) := by decide +kernel
theorem dX2_writeTwo_85 : decode cX2_writeTwo 85 = .ok (.iaload, 1) := by decide +kernel
theorem dX2_writeTwo_86 : decode cX2_writeTwo 86 = .ok (.iload 5, 2) := by decide +kernel
theorem dX2_writeTwo_88 : decode cX2_writeTwo 88 = .ok (.invokestatic 128, 3) := by decide +kernel
theorem dX2_writeTwo_91 : decode cX2_writeTwo 91 = .ok (.istore 8, 2) := by decide +kernel
theorem dX2_writeTwo_93 : decode cX2_writeTwo 93 = .ok (.aload_n 0, 1) := by decide +kernel
theorem dX2_writeTwo_94 : decode cX2_writeTwo 94 = .ok (.getfield 12, 3) := by decide +kernel
theorem dX2_writeTwo_97 : decode cX2_writeTwo 97 = .ok (.getfield 82, 3) := by decide +kernel
theorem dX2_writeTwo_100 : decode cX2_writeTwo 100 = .ok (.iload 6, 2) := by decide +kernel
theorem dX2_writeTwo_102 : decode cX2_writeTwo 102 = .ok (.dup2, 1) := by decide +kernel
theorem dX2_writeTwo_103 : decode cX2_writeTwo 103 = .ok (.iaload, 1) := by decide +kernel
theorem dX2_writeTwo_104 : decode cX2_writeTwo 104 = .ok (.iload 8, 2) := by decide +kernel
theorem dX2_writeTwo_106 : decode cX2_writeTwo 106 = .ok (.isub, 1) := by decide +kernel
theorem dX2_writeTwo_107 : decode cX2_writeTwo 107 = .ok (.iastore, 1) := by decide +kernel
theorem dX2_writeTwo_108 : decode cX2_writeTwo 108 = .ok (.aload_n 0, 1) := by decide +kernel
theorem dX2_writeTwo_109 : decode cX2_writeTwo 109 = .ok (.getfield 12, 3) := by decide +kernel
theorem dX2_writeTwo_112 : decode cX2_writeTwo 112 = .ok (.getfield 82, 3) := by decide +kernel
theorem dX2_writeTwo_115 : decode cX2_writeTwo 115 = .ok (.iload 7, 2) := by decide +kernel
theorem dX2_writeTwo_117 : decode cX2_writeTwo 117 = .ok (.dup2, 1) := by decide +kernel
theorem dX2_writeTwo_118 : decode cX2_writeTwo 118 = .ok (.iaload, 1) := by decide +kernel
theorem dX2_writeTwo_119 : decode cX2_writeTwo 119 = .ok (.iload 5, 2) := by decide +kernel
theorem dX2_writeTwo_121 : decode cX2_writeTwo 121 = .ok (.iload 8, 2) := by decide +kernel
theorem dX2_writeTwo_123 : decode cX2_writeTwo 123 = .ok (.isub, 1) := by decide +kernel
theorem dX2_writeTwo_124 : decode cX2_writeTwo 124 = .ok (.isub, 1) := by decide +kernel
theorem dX2_writeTwo_125 : decode cX2_writeTwo 125 = .ok (.iastore, 1) := by decide +kernel
theorem dX2_writeTwo_126 : decode cX2_writeTwo 126 = .ok (.aload_n 0, 1) := by decide +kernel
theorem dX2_writeTwo_127 : decode cX2_writeTwo 127 = .ok (.getfield 12, 3) := by decide +kernel
theorem dX2_writeTwo_130 : decode cX2_writeTwo 130 = .ok (.getfield 133, 3) := by decide +kernel
theorem dX2_writeTwo_133 : decode cX2_writeTwo 133 = .ok (.iload_n 1, 1) := by decide +kernel
theorem dX2_writeTwo_134 : decode cX2_writeTwo 134 = .ok (.dup2, 1) := by decide +kernel
theorem dX2_writeTwo_135 : decode cX2_writeTwo 135 = .ok (.iaload, 1) := by decide +kernel
theorem dX2_writeTwo_136 : decode cX2_writeTwo 136 = .ok (.iload 5, 2) := by decide +kernel
theorem dX2_writeTwo_138 : decode cX2_writeTwo 138 = .ok (.iadd, 1) := by decide +kernel
theorem dX2_writeTwo_139 : decode cX2_writeTwo 139 = .ok (.iastore, 1) := by decide +kernel
theorem dX2_writeTwo_140 : decode cX2_writeTwo 140 = .ok (.aload_n 0, 1) := by decide +kernel
theorem dX2_writeTwo_141 : decode cX2_writeTwo 141 = .ok (.getfield 12, 3) := by decide +kernel
theorem dX2_writeTwo_144 : decode cX2_writeTwo 144 = .ok (.getfield 136, 3) := by decide +kernel
theorem dX2_writeTwo_147 : decode cX2_writeTwo 147 = .ok (.iload_n 2, 1) := by decide +kernel
theorem dX2_writeTwo_148 : decode cX2_writeTwo 148 = .ok (.iconst 1, 1) := by decide +kernel
theorem dX2_writeTwo_149 : decode cX2_writeTwo 149 = .ok (.iastore, 1) := by decide +kernel
theorem dX2_writeTwo_150 : decode cX2_writeTwo 150 = .ok (.aload_n 0, 1) := by decide +kernel
theorem dX2_writeTwo_151 : decode cX2_writeTwo 151 = .ok (.getfield 12, 3) := by decide +kernel
theorem dX2_writeTwo_154 : decode cX2_writeTwo 154 = .ok (.getfield 139, 3) := by decide +kernel
theorem dX2_writeTwo_157 : decode cX2_writeTwo 157 = .ok (.iload_n 2, 1) := by decide +kernel
theorem dX2_writeTwo_158 : decode cX2_writeTwo 158 = .ok (.iload 6, 2) := by decide +kernel
theorem dX2_writeTwo_160 : decode cX2_writeTwo 160 = .ok (.iastore, 1) := by decide +kernel
theorem dX2_writeTwo_161 : decode cX2_writeTwo 161 = .ok (.aload_n 0, 1) := by decide +kernel
theorem dX2_writeTwo_162 : decode cX2_writeTwo 162 = .ok (.getfield 12, 3) := by decide +kernel
theorem dX2_writeTwo_165 : decode cX2_writeTwo 165 = .ok (.getfield 142, 3) := by decide +kernel
theorem dX2_writeTwo_168 : decode cX2_writeTwo 168 = .ok (.iload_n 2, 1) := by decide +kernel
theorem dX2_writeTwo_169 : decode cX2_writeTwo 169 = .ok (.iload 7, 2) := by decide +kernel
theorem dX2_writeTwo_171 : decode cX2_writeTwo 171 = .ok (.iastore, 1) := by decide +kernel
theorem dX2_writeTwo_172 : decode cX2_writeTwo 172 = .ok (.aload_n 0, 1) := by decide +kernel
theorem dX2_writeTwo_173 : decode cX2_writeTwo 173 = .ok (.getfield 12, 3) := by decide +kernel
theorem dX2_writeTwo_176 : decode cX2_writeTwo 176 = .ok (.getfield 145, 3) := by decide +kernel
theorem dX2_writeTwo_179 : decode cX2_writeTwo 179 = .ok (.iload_n 2, 1) := by decide +kernel
theorem dX2_writeTwo_180 : decode cX2_writeTwo 180 = .ok (.aload_n 0, 1) := by decide +kernel
theorem dX2_writeTwo_181 : decode cX2_writeTwo 181 = .ok (.getfield 12, 3) := by decide +kernel
theorem dX2_writeTwo_184 : decode cX2_writeTwo 184 = .ok (.getfield 49, 3) := by decide +kernel
theorem dX2_writeTwo_187 : decode cX2_writeTwo 187 = .ok (.iastore, 1) := by decide +kernel
theorem dX2_writeTwo_188 : decode cX2_writeTwo 188 = .ok (.return_, 1) := by decide +kernel
set_option maxRecDepth 20000 in
theorem ggX2_costToFill_X3_isParson : GoodIn wsX2_costToFill wsX3_isParson := goodIn_r _ [11, 12, 32, 33, 34, 35, 36, 37, 38, 39, 40, 41] rfl (by decide +kernel)
set_option maxRecDepth 20000 in
theorem gX2_costToFill_X3_isParson : GoodIn wsX2_costToFill (wsV RX2 85 RX3 yX3_isParson wsX3_isParson) := goodIn_app (goodIn_of _ (by decide +kernel)) ggX2_costToFill_X3_isParson
set_option maxRecDepth 20000 in
theorem ggX2_costToFill_X0_isLine : GoodIn wsX2_costToFill wsX0_isLine := goodIn_r _ [17, 18, 23, 24, 25, 26, 27, 28, 29, 30, 31] rfl (by decide +kernel)
set_option maxRecDepth 20000 in
theorem gX2_costToFill_X0_isLine : GoodIn wsX2_costToFill (wsV RX2 122 RX0 yX0_isLine wsX0_isLine) := goodIn_app (goodIn_of _ (by decide +kernel)) ggX2_costToFill_X0_isLine
theorem dX2_costToFill_0 : decode cX2_costToFill 0 = .ok (.aload_n 0, 1) := by decide +kernel
theorem dX2_costToFill_1 : decode cX2_costToFill 1 = .ok (.getfield 31, 3) := by decide +kernel
theorem dX2_costToFill_4 : decode cX2_costToFill 4 = .ok (.iload_n 1, 1) := by decide +kernel
theorem dX2_costToFill_5 : decode cX2_costToFill 5 = .ok (.invokevirtual 85, 3) := by decide +kernel
theorem dX2_costToFill_8 : decode cX2_costToFill 8 = .ok (.ifCond .eq 14, 3) := by decide +kernel
theorem dX2_costToFill_11 : decode cX2_costToFill 11 = .ok (.aload_n 0, 1) := by decide +kernel
theorem dX2_costToFill_12 : decode cX2_costToFill 12 = .ok (.getfield 12, 3) := by decide +kernel
theorem dX2_costToFill_15 : decode cX2_costToFill 15 = .ok (.iload_n 2, 1) := by decide +kernel
theorem dX2_costToFill_16 : decode cX2_costToFill 16 = .ok (.invokevirtual 122, 3) := by decide +kernel
theorem dX2_costToFill_19 : decode cX2_costToFill 19 = .ok (.ifCond .ne 5, 3) := by decide +kernel
theorem dX2_costToFill_22 : decode cX2_costToFill 22 = .ok (.iconst 0, 1) := by decide +kernel
theorem dX2_costToFill_23 : decode cX2_costToFill 23 = .ok (.ireturn, 1) := by decide +kernel
theorem dX2_costToFill_24 : decode cX2_costToFill 24 = .ok (.aload_n 0, 1) := by decide +kernel
theorem dX2_costToFill_25 : decode cX2_costToFill 25 = .ok (.getfield 12, 3) := by decide +kernel
theorem dX2_costToFill_28 : decode cX2_costToFill 28 = .ok (.getfield 49, 3) := by decide +kernel
theorem dX2_costToFill_31 : decode cX2_costToFill 31 = .ok (.aload_n 0, 1) := by decide +kernel
theorem dX2_costToFill_32 : decode cX2_costToFill 32 = .ok (.getfield 12, 3) := by decide +kernel
theorem dX2_costToFill_35 : decode cX2_costToFill 35 = .ok (.getfield 148, 3) := by decide +kernel
theorem dX2_costToFill_38 : decode cX2_costToFill 38 = .ok (.iload_n 2, 1) := by decide +kernel
theorem dX2_costToFill_39 : decode cX2_costToFill 39 = .ok (.iaload, 1) := by decide +kernel
theorem dX2_costToFill_40 : decode cX2_costToFill 40 = .ok (.isub, 1) := by decide +kernel
theorem dX2_costToFill_41 : decode cX2_costToFill 41 = .ok (.istore_n 3, 1) := by decide +kernel
theorem dX2_costToFill_42 : decode cX2_costToFill 42 = .ok (.aload_n 0, 1) := by decide +kernel
theorem dX2_costToFill_43 : decode cX2_costToFill 43 = .ok (.getfield 31, 3) := by decide +kernel
theorem dX2_costToFill_46 : decode cX2_costToFill 46 = .ok (.getfield 96, 3) := by decide +kernel
theorem dX2_costToFill_49 : decode cX2_costToFill 49 = .ok (.iload_n 1, 1) := by decide +kernel
theorem dX2_costToFill_50 : decode cX2_costToFill 50 = .ok (.iaload, 1) := by decide +kernel
theorem dX2_costToFill_51 : decode cX2_costToFill 51 = .ok (.aload_n 0, 1) := by decide +kernel
theorem dX2_costToFill_52 : decode cX2_costToFill 52 = .ok (.getfield 31, 3) := by decide +kernel
theorem dX2_costToFill_55 : decode cX2_costToFill 55 = .ok (.getfield 106, 3) := by decide +kernel
theorem dX2_costToFill_58 : decode cX2_costToFill 58 = .ok (.iload_n 1, 1) := by decide +kernel
theorem dX2_costToFill_59 : decode cX2_costToFill 59 = .ok (.iaload, 1) := by decide +kernel
theorem dX2_costToFill_60 : decode cX2_costToFill 60 = .ok (.iconst 2, 1) := by decide +kernel
theorem dX2_costToFill_61 : decode cX2_costToFill 61 = .ok (.if_icmp .ne 9, 3) := by decide +kernel
theorem dX2_costToFill_64 : decode cX2_costToFill 64 = .ok (.iload_n 3, 1) := by decide +kernel
theorem dX2_costToFill_65 : decode cX2_costToFill 65 = .ok (.iconst 2, 1) := by decide +kernel
theorem dX2_costToFill_66 : decode cX2_costToFill 66 = .ok (.idiv, 1) := by decide +kernel
theorem dX2_costToFill_67 : decode cX2_costToFill 67 = .ok (.goto 4, 3) := by decide +kernel
theorem dX2_costToFill_70 : decode cX2_costToFill 70 = .ok (.iload_n 3, 1) := by decide +kernel
theorem dX2_costToFill_71 : decode cX2_costToFill 71 = .ok (.iadd, 1) := by decide +kernel
theorem dX2_costToFill_72 : decode cX2_costToFill 72 = .ok (.ireturn, 1) := by decide +kernel
set_option maxRecDepth 20000 in
theorem ggX2_costOfLine_X0_slotOf : GoodIn wsX2_costOfLine wsX0_slotOf := goodIn_r _ [8, 9, 42, 43, 44, 45, 46, 47, 48, 49, 50] rfl (by decide +kernel)
set_option maxRecDepth 20000 in
theorem gX2_costOfLine_X0_slotOf : GoodIn wsX2_costOfLine (wsV RX2 115 RX0 yX0_slotOf wsX0_slotOf) := goodIn_app (goodIn_of _ (by decide +kernel)) ggX2_costOfLine_X0_slotOf
set_option maxRecDepth 20000 in
theorem ggX2_costOfLine_X2_costToFill : GoodIn wsX2_costOfLine wsX2_costToFill := goodIn_r _ [14, 2, 1, 15, 16, 3, 17, 18, 19, 20, 21, 22, 23, 24, 25, 26, 7, 27, 9, 28, 29, 30, 31, 42, 43, 44, 45, 46, 47, 48, 49, 50, 32, 33, 34, 35, 36, 37, 38, 39, 40, 41] rfl (by decide +kernel)
set_option maxRecDepth 20000 in
theorem gX2_costOfLine_X2_costToFill : GoodIn wsX2_costOfLine (wsV RX2 151 RX2 yX2_costToFill wsX2_costToFill) := goodIn_app (goodIn_of _ (by decide +kernel)) ggX2_costOfLine_X2_costToFill
set_option maxRecDepth 20000 in
theorem ggX2_costOfLine_X3_isParson : GoodIn wsX2_costOfLine wsX3_isParson := goodIn_r _ [22, 23, 32, 33, 34, 35, 36, 37, 38, 39, 40, 41] rfl (by decide +kernel)
set_option maxRecDepth 20000 in
theorem gX2_costOfLine_X3_isParson : GoodIn wsX2_costOfLine (wsV RX2 85 RX3 yX3_isParson wsX3_isParson) := goodIn_app (goodIn_of _ (by decide +kernel)) ggX2_costOfLine_X3_isParson
theorem dX2_costOfLine_0 : decode cX2_costOfLine 0 = .ok (.aload_n 0, 1) := by decide +kernel
theorem dX2_costOfLine_1 : decode cX2_costOfLine 1 = .ok (.getfield 12, 3) := by decide +kernel
theorem dX2_costOfLine_4 : decode cX2_costOfLine 4 = .ok (.iload_n 1, 1) := by decide +kernel
theorem dX2_costOfLine_5 : decode cX2_costOfLine 5 = .ok (.iload_n 2, 1) := by decide +kernel
theorem dX2_costOfLine_6 : decode cX2_costOfLine 6 = .ok (.invokevirtual 115, 3) := by decide +kernel
theorem dX2_costOfLine_9 : decode cX2_costOfLine 9 = .ok (.istore_n 3, 1) := by decide +kernel
theorem dX2_costOfLine_10 : decode cX2_costOfLine 10 = .ok (.iload_n 3, 1) := by decide +kernel
theorem dX2_costOfLine_11 : decode cX2_costOfLine 11 = .ok (.iconst (-1), 1) := by decide +kernel
theorem dX2_costOfLine_12 : decode cX2_costOfLine 12 = .ok (.if_icmp .eq 10, 3) := by decide +kernel
theorem dX2_costOfLine_15 : decode cX2_costOfLine 15 = .ok (.aload_n 0, 1) := by decide +kernel
theorem dX2_costOfLine_16 : decode cX2_costOfLine 16 = .ok (.iload_n 1, 1) := by decide +kernel
theorem dX2_costOfLine_17 : decode cX2_costOfLine 17 = .ok (.iload_n 3, 1) := by decide +kernel
theorem dX2_costOfLine_18 : decode cX2_costOfLine 18 = .ok (.invokevirtual 151, 3) := by decide +kernel
theorem dX2_costOfLine_21 : decode cX2_costOfLine 21 = .ok (.ireturn, 1) := by decide +kernel
theorem dX2_costOfLine_22 : decode cX2_costOfLine 22 = .ok (.aload_n 0, 1) := by decide +kernel
theorem dX2_costOfLine_23 : decode cX2_costOfLine 23 = .ok (.getfield 31, 3) := by decide +kernel
theorem dX2_costOfLine_26 : decode cX2_costOfLine 26 = .ok (.iload_n 1, 1) := by decide +kernel
theorem dX2_costOfLine_27 : decode cX2_costOfLine 27 = .ok (.invokevirtual 85, 3) := by decide +kernel
theorem dX2_costOfLine_30 : decode cX2_costOfLine 30 = .ok (.ifCond .eq 15, 3) := by decide +kernel
theorem dX2_costOfLine_33 : decode cX2_costOfLine 33 = .ok (.aload_n 0, 1) := by decide +kernel
theorem dX2_costOfLine_34 : decode cX2_costOfLine 34 = .ok (.getfield 31, 3) := by decide +kernel
theorem dX2_costOfLine_37 : decode cX2_costOfLine 37 = .ok (.getfield 96, 3) := by decide +kernel
theorem dX2_costOfLine_40 : decode cX2_costOfLine 40 = .ok (.iload_n 1, 1) := by decide +kernel
theorem dX2_costOfLine_41 : decode cX2_costOfLine 41 = .ok (.iaload, 1) := by decide +kernel
theorem dX2_costOfLine_42 : decode cX2_costOfLine 42 = .ok (.goto 4, 3) := by decide +kernel
theorem dX2_costOfLine_45 : decode cX2_costOfLine 45 = .ok (.iconst 0, 1) := by decide +kernel
theorem dX2_costOfLine_46 : decode cX2_costOfLine 46 = .ok (.ireturn, 1) := by decide +kernel
set_option maxRecDepth 20000 in
theorem ggX2_cheapestLine_X0_slotOf : GoodIn wsX2_cheapestLine wsX0_slotOf := goodIn_r _ [9, 10, 46, 47, 48, 49, 50, 51, 52, 53, 54] rfl (by decide +kernel)
set_option maxRecDepth 20000 in
theorem gX2_cheapestLine_X0_slotOf : GoodIn wsX2_cheapestLine (wsV RX2 115 RX0 yX0_slotOf wsX0_slotOf) := goodIn_app (goodIn_of _ (by decide +kernel)) ggX2_cheapestLine_X0_slotOf
set_option maxRecDepth 20000 in
theorem ggX2_cheapestLine_X2_costOfLine : GoodIn wsX2_cheapestLine wsX2_costOfLine := goodIn_r _ [15, 1, 16, 17, 5, 6, 7, 8, 9, 10, 18, 19, 20, 14, 21, 4, 3, 22, 23, 24, 25, 26, 27, 28, 29, 30, 31, 32, 42, 43, 44, 45, 55, 56, 57, 58, 59, 60, 61, 62, 63, 64, 46, 47, 48, 49, 50, 51, 52, 53, 54] rfl (by decide +kernel)
set_option maxRecDepth 20000 in
theorem gX2_cheapestLine_X2_costOfLine : GoodIn wsX2_cheapestLine (wsV RX2 154 RX2 yX2_costOfLine wsX2_costOfLine) := goodIn_app (goodIn_of _ (by decide +kernel)) ggX2_cheapestLine_X2_costOfLine
set_option maxRecDepth 20000 in
theorem ggX2_cheapestLine_X0_hasRoom : GoodIn wsX2_cheapestLine wsX0_hasRoom := goodIn_r _ [36, 10, 46, 47, 48, 49, 50, 51, 52, 53, 54] rfl (by decide +kernel)
set_option maxRecDepth 20000 in
theorem gX2_cheapestLine_X0_hasRoom : GoodIn wsX2_cheapestLine (wsV RX2 103 RX0 yX0_hasRoom wsX0_hasRoom) := goodIn_app (goodIn_of _ (by decide +kernel)) ggX2_cheapestLine_X0_hasRoom
set_option maxRecDepth 20000 in
theorem ggX2_cheapestLine_X2_isLaw : GoodIn wsX2_cheapestLine wsX2_isLaw := goodIn_r _ [40, 1, 4, 16, 41, 42, 43, 44, 45, 46, 47, 48, 49, 50, 51, 52, 53, 54, 55, 56, 57, 58, 59, 60, 61, 62, 63, 64] rfl (by decide +kernel)
set_option maxRecDepth 20000 in
theorem gX2_cheapestLine_X2_isLaw : GoodIn wsX2_cheapestLine (wsV RX2 92 RX2 yX2_isLaw wsX2_isLaw) := goodIn_app (goodIn_of _ (by decide +kernel)) ggX2_cheapestLine_X2_isLaw
theorem dX2_cheapestLine_0 : decode cX2_cheapestLine 0 = .ok (.bipush (-4), 2) := by decide +kernel
theorem dX2_cheapestLine_2 : decode cX2_cheapestLine 2 = .ok (.istore_n 3, 1) := by decide +kernel
theorem dX2_cheapestLine_3 : decode cX2_cheapestLine 3 = .ok (.iconst 0, 1) := by decide +kernel
theorem dX2_cheapestLine_4 : decode cX2_cheapestLine 4 = .ok (.istore 4, 2) := by decide +kernel
theorem dX2_cheapestLine_6 : decode cX2_cheapestLine 6 = .ok (.iload 4, 2) := by decide +kernel
theorem dX2_cheapestLine_8 : decode cX2_cheapestLine 8 = .ok (.bipush 8, 2) := by decide +kernel
theorem dX2_cheapestLine_10 : decode cX2_cheapestLine 10 = .ok (.if_icmp .ge 91, 3) := by decide +kernel
theorem dX2_cheapestLine_13 : decode cX2_cheapestLine 13 = .ok (.aload_n 0, 1) := by decide +kernel
theorem dX2_cheapestLine_14 : decode cX2_cheapestLine 14 = .ok (.getfield 12, 3) := by decide +kernel
theorem dX2_cheapestLine_17 : decode cX2_cheapestLine 17 = .ok (.iload_n 1, 1) := by decide +kernel
theorem dX2_cheapestLine_18 : decode cX2_cheapestLine 18 = .ok (.iload 4, 2) := by decide +kernel
theorem dX2_cheapestLine_20 : decode cX2_cheapestLine 20 = .ok (.invokevirtual 115, 3) := by decide +kernel
theorem dX2_cheapestLine_23 : decode cX2_cheapestLine 23 = .ok (.istore 5, 2) := by decide +kernel
theorem dX2_cheapestLine_25 : decode cX2_cheapestLine 25 = .ok (.iload 5, 2) := by decide +kernel
theorem dX2_cheapestLine_27 : decode cX2_cheapestLine 27 = .ok (.iconst (-1), 1) := by decide +kernel
theorem dX2_cheapestLine_28 : decode cX2_cheapestLine 28 = .ok (.if_icmp .eq 34, 3) := by decide +kernel
theorem dX2_cheapestLine_31 : decode cX2_cheapestLine 31 = .ok (.aload_n 0, 1) := by decide +kernel
theorem dX2_cheapestLine_32 : decode cX2_cheapestLine 32 = .ok (.getfield 12, 3) := by decide +kernel
theorem dX2_cheapestLine_35 : decode cX2_cheapestLine 35 = .ok (.getfield 136, 3) := by decide +kernel
theorem dX2_cheapestLine_38 : decode cX2_cheapestLine 38 = .ok (.iload 5, 2) := by decide +kernel
theorem dX2_cheapestLine_40 : decode cX2_cheapestLine 40 = .ok (.iaload, 1) := by decide +kernel
theorem dX2_cheapestLine_41 : decode cX2_cheapestLine 41 = .ok (.ifCond .ne 21, 3) := by decide +kernel
theorem dX2_cheapestLine_44 : decode cX2_cheapestLine 44 = .ok (.aload_n 0, 1) := by decide +kernel
theorem dX2_cheapestLine_45 : decode cX2_cheapestLine 45 = .ok (.getfield 12, 3) := by decide +kernel
theorem dX2_cheapestLine_48 : decode cX2_cheapestLine 48 = .ok (.getfield 148, 3) := by decide +kernel
theorem dX2_cheapestLine_51 : decode cX2_cheapestLine 51 = .ok (.iload 5, 2) := by decide +kernel
theorem dX2_cheapestLine_53 : decode cX2_cheapestLine 53 = .ok (.iaload, 1) := by decide +kernel
theorem dX2_cheapestLine_54 : decode cX2_cheapestLine 54 = .ok (.iload_n 2, 1) := by decide +kernel
theorem dX2_cheapestLine_55 : decode cX2_cheapestLine 55 = .ok (.if_icmp .gt 7, 3) := by decide +kernel
theorem dX2_cheapestLine_58 : decode cX2_cheapestLine 58 = .ok (.iconst 1, 1) := by decide +kernel
theorem dX2_cheapestLine_59 : decode cX2_cheapestLine 59 = .ok (.goto 4, 3) := by decide +kernel
theorem dX2_cheapestLine_62 : decode cX2_cheapestLine 62 = .ok (.iconst 0, 1) := by decide +kernel
theorem dX2_cheapestLine_63 : decode cX2_cheapestLine 63 = .ok (.istore 6, 2) := by decide +kernel
theorem dX2_cheapestLine_65 : decode cX2_cheapestLine 65 = .ok (.iload 6, 2) := by decide +kernel
theorem dX2_cheapestLine_67 : decode cX2_cheapestLine 67 = .ok (.ifCond .eq 28, 3) := by decide +kernel
theorem dX2_cheapestLine_70 : decode cX2_cheapestLine 70 = .ok (.iload_n 3, 1) := by decide +kernel
theorem dX2_cheapestLine_71 : decode cX2_cheapestLine 71 = .ok (.bipush (-4), 2) := by decide +kernel
theorem dX2_cheapestLine_73 : decode cX2_cheapestLine 73 = .ok (.if_icmp .eq 19, 3) := by decide +kernel
theorem dX2_cheapestLine_76 : decode cX2_cheapestLine 76 = .ok (.aload_n 0, 1) := by decide +kernel
theorem dX2_cheapestLine_77 : decode cX2_cheapestLine 77 = .ok (.iload_n 1, 1) := by decide +kernel
theorem dX2_cheapestLine_78 : decode cX2_cheapestLine 78 = .ok (.iload 4, 2) := by decide +kernel
theorem dX2_cheapestLine_80 : decode cX2_cheapestLine 80 = .ok (.invokevirtual 154, 3) := by decide +kernel
theorem dX2_cheapestLine_83 : decode cX2_cheapestLine 83 = .ok (.aload_n 0, 1) := by decide +kernel
theorem dX2_cheapestLine_84 : decode cX2_cheapestLine 84 = .ok (.iload_n 1, 1) := by decide +kernel
theorem dX2_cheapestLine_85 : decode cX2_cheapestLine 85 = .ok (.iload_n 3, 1) := by decide +kernel
theorem dX2_cheapestLine_86 : decode cX2_cheapestLine 86 = .ok (.invokevirtual 154, 3) := by decide +kernel
theorem dX2_cheapestLine_89 : decode cX2_cheapestLine 89 = .ok (.if_icmp .ge 6, 3) := by decide +kernel
theorem dX2_cheapestLine_92 : decode cX2_cheapestLine 92 = .ok (.iload 4, 2) := by decide +kernel
theorem dX2_cheapestLine_94 : decode cX2_cheapestLine 94 = .ok (.istore_n 3, 1) := by decide +kernel
theorem dX2_cheapestLine_95 : decode cX2_cheapestLine 95 = .ok (.iinc 4 1, 3) := by decide +kernel
theorem dX2_cheapestLine_98 : decode cX2_cheapestLine 98 = .ok (.goto (-92), 3) := by decide +kernel
theorem dX2_cheapestLine_101 : decode cX2_cheapestLine 101 = .ok (.aload_n 0, 1) := by decide +kernel
theorem dX2_cheapestLine_102 : decode cX2_cheapestLine 102 = .ok (.getfield 12, 3) := by decide +kernel
theorem dX2_cheapestLine_105 : decode cX2_cheapestLine 105 = .ok (.iload_n 1, 1) := by decide +kernel
theorem dX2_cheapestLine_106 : decode cX2_cheapestLine 106 = .ok (.invokevirtual 103, 3) := by decide +kernel
theorem dX2_cheapestLine_109 : decode cX2_cheapestLine 109 = .ok (.ifCond .eq 25, 3) := by decide +kernel
theorem dX2_cheapestLine_112 : decode cX2_cheapestLine 112 = .ok (.aload_n 0, 1) := by decide +kernel
theorem dX2_cheapestLine_113 : decode cX2_cheapestLine 113 = .ok (.invokevirtual 92, 3) := by decide +kernel
theorem dX2_cheapestLine_116 : decode cX2_cheapestLine 116 = .ok (.ifCond .ne 18, 3) := by decide +kernel
theorem dX2_cheapestLine_119 : decode cX2_cheapestLine 119 = .ok (.aload_n 0, 1) := by decide +kernel
theorem dX2_cheapestLine_120 : decode cX2_cheapestLine 120 = .ok (.getfield 12, 3) := by decide +kernel
theorem dX2_cheapestLine_123 : decode cX2_cheapestLine 123 = .ok (.getfield 49, 3) := by decide +kernel
theorem dX2_cheapestLine_126 : decode cX2_cheapestLine 126 = .ok (.iload_n 2, 1) := by decide +kernel
theorem dX2_cheapestLine_127 : decode cX2_cheapestLine 127 = .ok (.if_icmp .gt 7, 3) := by decide +kernel
theorem dX2_cheapestLine_130 : decode cX2_cheapestLine 130 = .ok (.iconst 1, 1) := by decide +kernel
theorem dX2_cheapestLine_131 : decode cX2_cheapestLine 131 = .ok (.goto 4, 3) := by decide +kernel
theorem dX2_cheapestLine_134 : decode cX2_cheapestLine 134 = .ok (.iconst 0, 1) := by decide +kernel
theorem dX2_cheapestLine_135 : decode cX2_cheapestLine 135 = .ok (.istore 4, 2) := by decide +kernel
theorem dX2_cheapestLine_137 : decode cX2_cheapestLine 137 = .ok (.iload 4, 2) := by decide +kernel
theorem dX2_cheapestLine_139 : decode cX2_cheapestLine 139 = .ok (.ifCond .eq 28, 3) := by decide +kernel
theorem dX2_cheapestLine_142 : decode cX2_cheapestLine 142 = .ok (.iload_n 3, 1) := by decide +kernel
theorem dX2_cheapestLine_143 : decode cX2_cheapestLine 143 = .ok (.bipush (-4), 2) := by decide +kernel
theorem dX2_cheapestLine_145 : decode cX2_cheapestLine 145 = .ok (.if_icmp .eq 19, 3) := by decide +kernel
theorem dX2_cheapestLine_148 : decode cX2_cheapestLine 148 = .ok (.aload_n 0, 1) := by decide +kernel
theorem dX2_cheapestLine_149 : decode cX2_cheapestLine 149 = .ok (.iload_n 1, 1) := by decide +kernel
theorem dX2_cheapestLine_150 : decode cX2_cheapestLine 150 = .ok (.bipush 8, 2) := by decide +kernel
theorem dX2_cheapestLine_152 : decode cX2_cheapestLine 152 = .ok (.invokevirtual 154, 3) := by decide +kernel
theorem dX2_cheapestLine_155 : decode cX2_cheapestLine 155 = .ok (.aload_n 0, 1) := by decide +kernel
theorem dX2_cheapestLine_156 : decode cX2_cheapestLine 156 = .ok (.iload_n 1, 1) := by decide +kernel
theorem dX2_cheapestLine_157 : decode cX2_cheapestLine 157 = .ok (.iload_n 3, 1) := by decide +kernel
theorem dX2_cheapestLine_158 : decode cX2_cheapestLine 158 = .ok (.invokevirtual 154, 3) := by decide +kernel
theorem dX2_cheapestLine_161 : decode cX2_cheapestLine 161 = .ok (.if_icmp .ge 6, 3) := by decide +kernel
theorem dX2_cheapestLine_164 : decode cX2_cheapestLine 164 = .ok (.bipush 8, 2) := by decide +kernel
theorem dX2_cheapestLine_166 : decode cX2_cheapestLine 166 = .ok (.ireturn, 1) := by decide +kernel
theorem dX2_cheapestLine_167 : decode cX2_cheapestLine 167 = .ok (.iload_n 3, 1) := by decide +kernel
theorem dX2_cheapestLine_168 : decode cX2_cheapestLine 168 = .ok (.ireturn, 1) := by decide +kernel
set_option maxRecDepth 20000 in
theorem ggX2_canWedSomewhere_X2_refuseWedding : GoodIn wsX2_canWedSomewhere wsX2_refuseWedding := goodIn_r _ [7, 1, 8, 9, 10, 11, 12, 13, 14, 15, 16, 17, 18, 19, 20, 21, 22, 23, 24, 25, 26, 27, 28, 29, 6, 30, 31, 32, 33, 34, 35, 36, 37, 38, 39, 40, 41, 42, 43, 44, 45, 46, 47, 48, 49, 50, 51, 52, 53, 54, 55, 56, 57, 58, 59, 60, 61, 62, 63, 64, 65, 66, 67, 68, 69, 70] rfl (by decide +kernel)
set_option maxRecDepth 20000 in
theorem gX2_canWedSomewhere_X2_refuseWedding : GoodIn wsX2_canWedSomewhere (wsV RX2 160 RX2 yX2_refuseWedding wsX2_refuseWedding) := goodIn_app (goodIn_of _ (by decide +kernel)) ggX2_canWedSomewhere_X2_refuseWedding
theorem dX2_canWedSomewhere_0 : decode cX2_canWedSomewhere 0 = .ok (.iconst 0, 1) := by decide +kernel
theorem dX2_canWedSomewhere_1 : decode cX2_canWedSomewhere 1 = .ok (.istore_n 3, 1) := by decide +kernel
theorem dX2_canWedSomewhere_2 : decode cX2_canWedSomewhere 2 = .ok (.iload_n 3, 1) := by decide +kernel
theorem dX2_canWedSomewhere_3 : decode cX2_canWedSomewhere 3 = .ok (.aload_n 0, 1) := by decide +kernel
theorem dX2_canWedSomewhere_4 : decode cX2_canWedSomewhere 4 = .ok (.getfield 31, 3) := by decide +kernel
theorem dX2_canWedSomewhere_7 : decode cX2_canWedSomewhere 7 = .ok (.getfield 157, 3) := by decide +kernel
theorem dX2_canWedSomewhere_10 : decode cX2_canWedSomewhere 10 = .ok (.if_icmp .ge 21, 3) := by decide +kernel
theorem dX2_canWedSomewhere_13 : decode cX2_canWedSomewhere 13 = .ok (.aload_n 0, 1) := by decide +kernel
theorem dX2_canWedSomewhere_14 : decode cX2_canWedSomewhere 14 = .ok (.iload_n 3, 1) := by decide +kernel
theorem dX2_canWedSomewhere_15 : decode cX2_canWedSomewhere 15 = .ok (.iload_n 1, 1) := by decide +kernel
theorem dX2_canWedSomewhere_16 : decode cX2_canWedSomewhere 16 = .ok (.iload_n 2, 1) := by decide +kernel
theorem dX2_canWedSomewhere_17 : decode cX2_canWedSomewhere 17 = .ok (.invokevirtual 160, 3) := by decide +kernel
theorem dX2_canWedSomewhere_20 : decode cX2_canWedSomewhere 20 = .ok (.ifCond .ne 5, 3) := by decide +kernel
theorem dX2_canWedSomewhere_23 : decode cX2_canWedSomewhere 23 = .ok (.iconst 1, 1) := by decide +kernel
theorem dX2_canWedSomewhere_24 : decode cX2_canWedSomewhere 24 = .ok (.ireturn, 1) := by decide +kernel
theorem dX2_canWedSomewhere_25 : decode cX2_canWedSomewhere 25 = .ok (.iinc 3 1, 3) := by decide +kernel
theorem dX2_canWedSomewhere_28 : decode cX2_canWedSomewhere 28 = .ok (.goto (-26), 3) := by decide +kernel
theorem dX2_canWedSomewhere_31 : decode cX2_canWedSomewhere 31 = .ok (.iconst 0, 1) := by decide +kernel
theorem dX2_canWedSomewhere_32 : decode cX2_canWedSomewhere 32 = .ok (.ireturn, 1) := by decide +kernel
set_option maxRecDepth 20000 in
theorem ggX2_mostLinesApart_X2_linkPersons : GoodIn wsX2_mostLinesApart wsX2_linkPersons := goodIn_r _ [5, 6, 7, 8, 9, 10, 11, 12, 13, 14, 15, 16, 17, 18, 19, 20, 21, 22, 23, 24, 25, 26, 27, 39, 40, 41, 42, 43, 44, 45, 46, 47, 48, 49, 50, 51, 52, 53, 54, 55, 56, 57, 58, 59, 60, 61] rfl (by decide +kernel)
set_option maxRecDepth 20000 in
theorem gX2_mostLinesApart_X2_linkPersons : GoodIn wsX2_mostLinesApart (wsV RX2 164 RX2 yX2_linkPersons wsX2_linkPersons) := goodIn_app (goodIn_of _ (by decide +kernel)) ggX2_mostLinesApart_X2_linkPersons
set_option maxRecDepth 20000 in
theorem ggX2_mostLinesApart_J6_bitCount_0f7a4 : GoodIn wsX2_mostLinesApart wsJ6_bitCount_0f7a4 := goodIn_r _ [31, 32, 33, 34] rfl (by decide +kernel)
set_option maxRecDepth 20000 in
theorem gX2_mostLinesApart_J6_bitCount_0f7a4 : GoodIn wsX2_mostLinesApart (va_wsS RX2 167 yJ6_bitCount_0f7a4 wsJ6_bitCount_0f7a4) := goodIn_app (goodIn_of _ (by decide +kernel)) ggX2_mostLinesApart_J6_bitCount_0f7a4
set_option maxRecDepth 20000 in
theorem ggX2_mostLinesApart_X2_isInEveryLine : GoodIn wsX2_mostLinesApart wsX2_isInEveryLine := goodIn_r _ [38, 6, 39, 40, 41, 42] rfl (by decide +kernel)
set_option maxRecDepth 20000 in
theorem gX2_mostLinesApart_X2_isInEveryLine : GoodIn wsX2_mostLinesApart (wsV RX2 172 RX2 yX2_isInEveryLine wsX2_isInEveryLine) := goodIn_app (goodIn_of _ (by decide +kernel)) ggX2_mostLinesApart_X2_isInEveryLine
theorem dX2_mostLinesApart_0 : decode cX2_mostLinesApart 0 = .ok (.aload_n 0, 1) := by decide +kernel
theorem dX2_mostLinesApart_1 : decode cX2_mostLinesApart 1 = .ok (.invokevirtual 164, 3) := by decide +kernel
theorem dX2_mostLinesApart_4 : decode cX2_mostLinesApart 4 = .ok (.bipush 8, 2) := by decide +kernel
theorem dX2_mostLinesApart_6 : decode cX2_mostLinesApart 6 = .ok (.istore_n 1, 1) := by decide +kernel
theorem dX2_mostLinesApart_7 : decode cX2_mostLinesApart 7 = .ok (.iconst 0, 1) := by decide +kernel
theorem dX2_mostLinesApart_8 : decode cX2_mostLinesApart 8 = .ok (.istore_n 2, 1) := by decide +kernel
theorem dX2_mostLinesApart_9 : decode cX2_mostLinesApart 9 = .ok (.iload_n 2, 1) := by decide +kernel
theorem dX2_mostLinesApart_10 : decode cX2_mostLinesApart 10 = .ok (.sipush 256, 3) := by decide +kernel
theorem dX2_mostLinesApart_13 : decode cX2_mostLinesApart 13 = .ok (.if_icmp .ge 29, 3) := by decide +kernel
theorem dX2_mostLinesApart_16 : decode cX2_mostLinesApart 16 = .ok (.iload_n 2, 1) := by decide +kernel
theorem dX2_mostLinesApart_17 : decode cX2_mostLinesApart 17 = .ok (.invokestatic 167, 3) := by decide +kernel
theorem dX2_mostLinesApart_20 : decode cX2_mostLinesApart 20 = .ok (.istore_n 3, 1) := by decide +kernel
theorem dX2_mostLinesApart_21 : decode cX2_mostLinesApart 21 = .ok (.iload_n 3, 1) := by decide +kernel
theorem dX2_mostLinesApart_22 : decode cX2_mostLinesApart 22 = .ok (.iload_n 1, 1) := by decide +kernel
theorem dX2_mostLinesApart_23 : decode cX2_mostLinesApart 23 = .ok (.if_icmp .ge 13, 3) := by decide +kernel
theorem dX2_mostLinesApart_26 : decode cX2_mostLinesApart 26 = .ok (.aload_n 0, 1) := by decide +kernel
theorem dX2_mostLinesApart_27 : decode cX2_mostLinesApart 27 = .ok (.iload_n 2, 1) := by decide +kernel
theorem dX2_mostLinesApart_28 : decode cX2_mostLinesApart 28 = .ok (.invokevirtual 172, 3) := by decide +kernel
theorem dX2_mostLinesApart_31 : decode cX2_mostLinesApart 31 = .ok (.ifCond .eq 5, 3) := by decide +kernel
theorem dX2_mostLinesApart_34 : decode cX2_mostLinesApart 34 = .ok (.iload_n 3, 1) := by decide +kernel
theorem dX2_mostLinesApart_35 : decode cX2_mostLinesApart 35 = .ok (.istore_n 1, 1) := by decide +kernel
theorem dX2_mostLinesApart_36 : decode cX2_mostLinesApart 36 = .ok (.iinc 2 1, 3) := by decide +kernel
theorem dX2_mostLinesApart_39 : decode cX2_mostLinesApart 39 = .ok (.goto (-30), 3) := by decide +kernel
theorem dX2_mostLinesApart_42 : decode cX2_mostLinesApart 42 = .ok (.iload_n 1, 1) := by decide +kernel
theorem dX2_mostLinesApart_43 : decode cX2_mostLinesApart 43 = .ok (.ireturn, 1) := by decide +kernel
set_option maxRecDepth 20000 in
theorem ggX2_linkPersons_X0_isOfTwo : GoodIn wsX2_linkPersons wsX0_isOfTwo := goodIn_r _ [10, 11, 12, 13, 14, 9, 15, 16, 27, 28, 29, 30, 31, 32, 33, 34, 35] rfl (by decide +kernel)
set_option maxRecDepth 20000 in
theorem gX2_linkPersons_X0_isOfTwo : GoodIn wsX2_linkPersons (wsV RX2 175 RX0 yX0_isOfTwo wsX0_isOfTwo) := goodIn_app (goodIn_of _ (by decide +kernel)) ggX2_linkPersons_X0_isOfTwo
set_option maxRecDepth 20000 in
theorem ggX2_linkPersons_X3_areTwo : GoodIn wsX2_linkPersons wsX3_areTwo := goodIn_r _ [21, 22, 36, 37, 38, 39, 40, 41, 42, 43, 44, 45] rfl (by decide +kernel)
set_option maxRecDepth 20000 in
theorem gX2_linkPersons_X3_areTwo : GoodIn wsX2_linkPersons (wsV RX2 125 RX3 yX3_areTwo wsX3_areTwo) := goodIn_app (goodIn_of _ (by decide +kernel)) ggX2_linkPersons_X3_areTwo
theorem dX2_linkPersons_0 : decode cX2_linkPersons 0 = .ok (.iconst 0, 1) := by decide +kernel
theorem dX2_linkPersons_1 : decode cX2_linkPersons 1 = .ok (.istore_n 1, 1) := by decide +kernel
theorem dX2_linkPersons_2 : decode cX2_linkPersons 2 = .ok (.iload_n 1, 1) := by decide +kernel
theorem dX2_linkPersons_3 : decode cX2_linkPersons 3 = .ok (.bipush 8, 2) := by decide +kernel
theorem dX2_linkPersons_5 : decode cX2_linkPersons 5 = .ok (.if_icmp .ge 16, 3) := by decide +kernel
theorem dX2_linkPersons_8 : decode cX2_linkPersons 8 = .ok (.aload_n 0, 1) := by decide +kernel
theorem dX2_linkPersons_9 : decode cX2_linkPersons 9 = .ok (.getfield 27, 3) := by decide +kernel
theorem dX2_linkPersons_12 : decode cX2_linkPersons 12 = .ok (.iload_n 1, 1) := by decide +kernel
theorem dX2_linkPersons_13 : decode cX2_linkPersons 13 = .ok (.iconst 0, 1) := by decide +kernel
theorem dX2_linkPersons_14 : decode cX2_linkPersons 14 = .ok (.iastore, 1) := by decide +kernel
theorem dX2_linkPersons_15 : decode cX2_linkPersons 15 = .ok (.iinc 1 1, 3) := by decide +kernel
theorem dX2_linkPersons_18 : decode cX2_linkPersons 18 = .ok (.goto (-16), 3) := by decide +kernel
theorem dX2_linkPersons_21 : decode cX2_linkPersons 21 = .ok (.iconst 0, 1) := by decide +kernel
theorem dX2_linkPersons_22 : decode cX2_linkPersons 22 = .ok (.istore_n 1, 1) := by decide +kernel
theorem dX2_linkPersons_23 : decode cX2_linkPersons 23 = .ok (.iload_n 1, 1) := by decide +kernel
theorem dX2_linkPersons_24 : decode cX2_linkPersons 24 = .ok (.bipush 24, 2) := by decide +kernel
theorem dX2_linkPersons_26 : decode cX2_linkPersons 26 = .ok (.if_icmp .ge 76, 3) := by decide +kernel
theorem dX2_linkPersons_29 : decode cX2_linkPersons 29 = .ok (.aload_n 0, 1) := by decide +kernel
theorem dX2_linkPersons_30 : decode cX2_linkPersons 30 = .ok (.getfield 12, 3) := by decide +kernel
theorem dX2_linkPersons_33 : decode cX2_linkPersons 33 = .ok (.iload_n 1, 1) := by decide +kernel
theorem dX2_linkPersons_34 : decode cX2_linkPersons 34 = .ok (.invokevirtual 175, 3) := by decide +kernel
theorem dX2_linkPersons_37 : decode cX2_linkPersons 37 = .ok (.ifCond .eq 59, 3) := by decide +kernel
theorem dX2_linkPersons_40 : decode cX2_linkPersons 40 = .ok (.aload_n 0, 1) := by decide +kernel
theorem dX2_linkPersons_41 : decode cX2_linkPersons 41 = .ok (.getfield 31, 3) := by decide +kernel
theorem dX2_linkPersons_44 : decode cX2_linkPersons 44 = .ok (.aload_n 0, 1) := by decide +kernel
theorem dX2_linkPersons_45 : decode cX2_linkPersons 45 = .ok (.getfield 12, 3) := by decide +kernel
theorem dX2_linkPersons_48 : decode cX2_linkPersons 48 = .ok (.getfield 139, 3) := by decide +kernel
theorem dX2_linkPersons_51 : decode cX2_linkPersons 51 = .ok (.iload_n 1, 1) := by decide +kernel
theorem dX2_linkPersons_52 : decode cX2_linkPersons 52 = .ok (.iaload, 1) := by decide +kernel
theorem dX2_linkPersons_53 : decode cX2_linkPersons 53 = .ok (.aload_n 0, 1) := by decide +kernel
theorem dX2_linkPersons_54 : decode cX2_linkPersons 54 = .ok (.getfield 12, 3) := by decide +kernel
theorem dX2_linkPersons_57 : decode cX2_linkPersons 57 = .ok (.getfield 142, 3) := by decide +kernel
theorem dX2_linkPersons_60 : decode cX2_linkPersons 60 = .ok (.iload_n 1, 1) := by decide +kernel
theorem dX2_linkPersons_61 : decode cX2_linkPersons 61 = .ok (.iaload, 1) := by decide +kernel
theorem dX2_linkPersons_62 : decode cX2_linkPersons 62 = .ok (.invokevirtual 125, 3) := by decide +kernel
theorem dX2_linkPersons_65 : decode cX2_linkPersons 65 = .ok (.ifCond .eq 31, 3) := by decide +kernel
theorem dX2_linkPersons_68 : decode cX2_linkPersons 68 = .ok (.aload_n 0, 1) := by decide +kernel
theorem dX2_linkPersons_69 : decode cX2_linkPersons 69 = .ok (.getfield 27, 3) := by decide +kernel
theorem dX2_linkPersons_72 : decode cX2_linkPersons 72 = .ok (.aload_n 0, 1) := by decide +kernel
theorem dX2_linkPersons_73 : decode cX2_linkPersons 73 = .ok (.getfield 12, 3) := by decide +kernel
theorem dX2_linkPersons_76 : decode cX2_linkPersons 76 = .ok (.getfield 139, 3) := by decide +kernel
theorem dX2_linkPersons_79 : decode cX2_linkPersons 79 = .ok (.iload_n 1, 1) := by decide +kernel
theorem dX2_linkPersons_80 : decode cX2_linkPersons 80 = .ok (.iaload, 1) := by decide +kernel
theorem dX2_linkPersons_81 : decode cX2_linkPersons 81 = .ok (.dup2, 1) := by decide +kernel
theorem dX2_linkPersons_82 : decode cX2_linkPersons 82 = .ok (.iaload, 1) := by decide +kernel
theorem dX2_linkPersons_83 : decode cX2_linkPersons 83 = .ok (.iconst 1, 1) := by decide +kernel
theorem dX2_linkPersons_84 : decode cX2_linkPersons 84 = .ok (.aload_n 0, 1) := by decide +kernel
theorem dX2_linkPersons_85 : decode cX2_linkPersons 85 = .ok (.getfield 12, 3) := by decide +kernel
theorem dX2_linkPersons_88 : decode cX2_linkPersons 88 = .ok (.getfield 142, 3) := by decide +kernel
theorem dX2_linkPersons_91 : decode cX2_linkPersons 91 = .ok (.iload_n 1, 1) := by decide +kernel
theorem dX2_linkPersons_92 : decode cX2_linkPersons 92 = .ok (.iaload, 1) := by decide +kernel
theorem dX2_linkPersons_93 : decode cX2_linkPersons 93 = .ok (.ishl, 1) := by decide +kernel
theorem dX2_linkPersons_94 : decode cX2_linkPersons 94 = .ok (.ior, 1) := by decide +kernel
theorem dX2_linkPersons_95 : decode cX2_linkPersons 95 = .ok (.iastore, 1) := by decide +kernel
theorem dX2_linkPersons_96 : decode cX2_linkPersons 96 = .ok (.iinc 1 1, 3) := by decide +kernel
theorem dX2_linkPersons_99 : decode cX2_linkPersons 99 = .ok (.goto (-76), 3) := by decide +kernel
theorem dX2_linkPersons_102 : decode cX2_linkPersons 102 = .ok (.return_, 1) := by decide +kernel
theorem dX2_isInEveryLine_0 : decode cX2_isInEveryLine 0 = .ok (.iconst 0, 1) := by decide +kernel
theorem dX2_isInEveryLine_1 : decode cX2_isInEveryLine 1 = .ok (.istore_n 2, 1) := by decide +kernel
theorem dX2_isInEveryLine_2 : decode cX2_isInEveryLine 2 = .ok (.iload_n 2, 1) := by decide +kernel
theorem dX2_isInEveryLine_3 : decode cX2_isInEveryLine 3 = .ok (.bipush 8, 2) := by decide +kernel
theorem dX2_isInEveryLine_5 : decode cX2_isInEveryLine 5 = .ok (.if_icmp .ge 32, 3) := by decide +kernel
theorem dX2_isInEveryLine_8 : decode cX2_isInEveryLine 8 = .ok (.iload_n 1, 1) := by decide +kernel
theorem dX2_isInEveryLine_9 : decode cX2_isInEveryLine 9 = .ok (.iload_n 2, 1) := by decide +kernel
theorem dX2_isInEveryLine_10 : decode cX2_isInEveryLine 10 = .ok (.ishr, 1) := by decide +kernel
theorem dX2_isInEveryLine_11 : decode cX2_isInEveryLine 11 = .ok (.iconst 1, 1) := by decide +kernel
theorem dX2_isInEveryLine_12 : decode cX2_isInEveryLine 12 = .ok (.iand, 1) := by decide +kernel
theorem dX2_isInEveryLine_13 : decode cX2_isInEveryLine 13 = .ok (.ifCond .ne 18, 3) := by decide +kernel
theorem dX2_isInEveryLine_16 : decode cX2_isInEveryLine 16 = .ok (.aload_n 0, 1) := by decide +kernel
theorem dX2_isInEveryLine_17 : decode cX2_isInEveryLine 17 = .ok (.getfield 27, 3) := by decide +kernel
theorem dX2_isInEveryLine_20 : decode cX2_isInEveryLine 20 = .ok (.iload_n 2, 1) := by decide +kernel
theorem dX2_isInEveryLine_21 : decode cX2_isInEveryLine 21 = .ok (.iaload, 1) := by decide +kernel
theorem dX2_isInEveryLine_22 : decode cX2_isInEveryLine 22 = .ok (.iload_n 1, 1) := by decide +kernel
theorem dX2_isInEveryLine_23 : decode cX2_isInEveryLine 23 = .ok (.iconst (-1), 1) := by decide +kernel
theorem dX2_isInEveryLine_24 : decode cX2_isInEveryLine 24 = .ok (.ixor, 1) := by decide +kernel
theorem dX2_isInEveryLine_25 : decode cX2_isInEveryLine 25 = .ok (.iand, 1) := by decide +kernel
theorem dX2_isInEveryLine_26 : decode cX2_isInEveryLine 26 = .ok (.ifCond .eq 5, 3) := by decide +kernel
theorem dX2_isInEveryLine_29 : decode cX2_isInEveryLine 29 = .ok (.iconst 0, 1) := by decide +kernel
theorem dX2_isInEveryLine_30 : decode cX2_isInEveryLine 30 = .ok (.ireturn, 1) := by decide +kernel
theorem dX2_isInEveryLine_31 : decode cX2_isInEveryLine 31 = .ok (.iinc 2 1, 3) := by decide +kernel
theorem dX2_isInEveryLine_34 : decode cX2_isInEveryLine 34 = .ok (.goto (-32), 3) := by decide +kernel
theorem dX2_isInEveryLine_37 : decode cX2_isInEveryLine 37 = .ok (.iconst 1, 1) := by decide +kernel
theorem dX2_isInEveryLine_38 : decode cX2_isInEveryLine 38 = .ok (.ireturn, 1) := by decide +kernel
set_option maxRecDepth 20000 in
theorem ggX2_singles_X2_settle : GoodIn wsX2_singles wsX2_settle := goodIn_r _ [11, 4, 12, 13, 14, 15, 16, 17, 18, 19, 20, 21, 22, 23, 24, 25, 26, 27, 28, 29, 30, 31, 32, 33, 34, 35, 36, 37, 38, 39, 40, 41, 42, 43, 44, 45, 46, 47, 48, 53, 54, 55, 56, 76, 77, 78, 67, 68, 69, 70, 71, 72, 73, 74, 75] rfl (by decide +kernel)
set_option maxRecDepth 20000 in
theorem gX2_singles_X2_settle : GoodIn wsX2_singles (wsV RX2 43 RX2 yX2_settle wsX2_settle) := goodIn_app (goodIn_of _ (by decide +kernel)) ggX2_singles_X2_settle
set_option maxRecDepth 20000 in
theorem ggX2_singles_X1_mateOf : GoodIn wsX2_singles wsX1_mateOf := goodIn_r _ [52, 17, 19, 26, 20, 21, 46, 47, 15, 48, 33, 34, 35, 30, 36, 37, 38, 39, 40, 41, 32, 76, 77, 78, 67, 68, 69, 70, 71, 72, 73, 74, 75] rfl (by decide +kernel)
set_option maxRecDepth 20000 in
theorem gX2_singles_X1_mateOf : GoodIn wsX2_singles (wsV RX2 45 RX1 yX1_mateOf wsX1_mateOf) := goodIn_app (goodIn_of _ (by decide +kernel)) ggX2_singles_X1_mateOf
theorem dX2_singles_0 : decode cX2_singles 0 = .ok (.aload_n 0, 1) := by decide +kernel
theorem dX2_singles_1 : decode cX2_singles 1 = .ok (.invokevirtual 43, 3) := by decide +kernel
theorem dX2_singles_4 : decode cX2_singles 4 = .ok (.iconst 0, 1) := by decide +kernel
theorem dX2_singles_5 : decode cX2_singles 5 = .ok (.istore_n 2, 1) := by decide +kernel
theorem dX2_singles_6 : decode cX2_singles 6 = .ok (.iconst 0, 1) := by decide +kernel
theorem dX2_singles_7 : decode cX2_singles 7 = .ok (.istore_n 3, 1) := by decide +kernel
theorem dX2_singles_8 : decode cX2_singles 8 = .ok (.iload_n 3, 1) := by decide +kernel
theorem dX2_singles_9 : decode cX2_singles 9 = .ok (.aload_n 0, 1) := by decide +kernel
theorem dX2_singles_10 : decode cX2_singles 10 = .ok (.getfield 31, 3) := by decide +kernel
theorem dX2_singles_13 : decode cX2_singles 13 = .ok (.getfield 178, 3) := by decide +kernel
theorem dX2_singles_16 : decode cX2_singles 16 = .ok (.if_icmp .ge 48, 3) := by decide +kernel
theorem dX2_singles_19 : decode cX2_singles 19 = .ok (.aload_n 0, 1) := by decide +kernel
theorem dX2_singles_20 : decode cX2_singles 20 = .ok (.getfield 31, 3) := by decide +kernel
theorem dX2_singles_23 : decode cX2_singles 23 = .ok (.getfield 69, 3) := by decide +kernel
theorem dX2_singles_26 : decode cX2_singles 26 = .ok (.iload_n 3, 1) := by decide +kernel
theorem dX2_singles_27 : decode cX2_singles 27 = .ok (.baload, 1) := by decide +kernel
theorem dX2_singles_28 : decode cX2_singles 28 = .ok (.iload_n 1, 1) := by decide +kernel
theorem dX2_singles_29 : decode cX2_singles 29 = .ok (.if_icmp .ne 29, 3) := by decide +kernel
theorem dX2_singles_32 : decode cX2_singles 32 = .ok (.aload_n 0, 1) := by decide +kernel
theorem dX2_singles_33 : decode cX2_singles 33 = .ok (.getfield 23, 3) := by decide +kernel
theorem dX2_singles_36 : decode cX2_singles 36 = .ok (.iload_n 3, 1) := by decide +kernel
theorem dX2_singles_37 : decode cX2_singles 37 = .ok (.aload_n 0, 1) := by decide +kernel
theorem dX2_singles_38 : decode cX2_singles 38 = .ok (.getfield 12, 3) := by decide +kernel
theorem dX2_singles_41 : decode cX2_singles 41 = .ok (.getfield 49, 3) := by decide +kernel
theorem dX2_singles_44 : decode cX2_singles 44 = .ok (.invokevirtual 45, 3) := by decide +kernel
theorem dX2_singles_47 : decode cX2_singles 47 = .ok (.bipush (-4), 2) := by decide +kernel
theorem dX2_singles_49 : decode cX2_singles 49 = .ok (.if_icmp .ne 9, 3) := by decide +kernel
theorem dX2_singles_52 : decode cX2_singles 52 = .ok (.iload_n 2, 1) := by decide +kernel
theorem dX2_singles_53 : decode cX2_singles 53 = .ok (.iconst 1, 1) := by decide +kernel
theorem dX2_singles_54 : decode cX2_singles 54 = .ok (.iload_n 3, 1) := by decide +kernel
theorem dX2_singles_55 : decode cX2_singles 55 = .ok (.ishl, 1) := by decide +kernel
theorem dX2_singles_56 : decode cX2_singles 56 = .ok (.ior, 1) := by decide +kernel
theorem dX2_singles_57 : decode cX2_singles 57 = .ok (.istore_n 2, 1) := by decide +kernel
theorem dX2_singles_58 : decode cX2_singles 58 = .ok (.iinc 3 1, 3) := by decide +kernel
theorem dX2_singles_61 : decode cX2_singles 61 = .ok (.goto (-53), 3) := by decide +kernel
theorem dX2_singles_64 : decode cX2_singles 64 = .ok (.iload_n 2, 1) := by decide +kernel
theorem dX2_singles_65 : decode cX2_singles 65 = .ok (.ireturn, 1) := by decide +kernel
set_option maxRecDepth 20000 in
theorem ggX2_waysToWed_X2_singles : GoodIn wsX2_waysToWed wsX2_singles := goodIn_r _ [5, 6, 7, 8, 9, 10, 11, 12, 13, 14, 4, 15, 16, 17, 18, 19, 20, 21, 22, 23, 24, 25, 26, 27, 28, 29, 30, 31, 32, 33, 34, 35, 36, 37, 38, 39, 40, 41, 42, 43, 44, 45, 46, 47, 48, 49, 50, 51, 52, 53, 54, 55, 56, 117, 118, 119, 120, 121, 122, 123, 124, 125, 126, 127, 128, 129, 130, 131, 132, 133, 134, 135, 136, 137, 138, 139, 140, 141, 142] rfl (by decide +kernel)
set_option maxRecDepth 20000 in
theorem gX2_waysToWed_X2_singles : GoodIn wsX2_waysToWed (wsV RX2 181 RX2 yX2_singles wsX2_singles) := goodIn_app (goodIn_of _ (by decide +kernel)) ggX2_waysToWed_X2_singles
set_option maxRecDepth 20000 in
theorem ggX2_waysToWed_X2_countHeld : GoodIn wsX2_waysToWed wsX2_countHeld := goodIn_r _ [60, 9, 12, 13, 14, 4, 15, 16, 17, 18, 19, 20, 21, 22, 23, 24, 25, 26, 27, 28, 29, 30, 31, 32, 33, 34, 35, 36, 37, 38, 39, 40, 41, 42, 43, 44, 45, 46, 47, 48, 49, 50, 51, 52, 61, 62, 63, 64, 117, 118, 119, 120, 140, 141, 142, 131, 132, 133, 134, 135, 136, 137, 138, 139] rfl (by decide +kernel)
set_option maxRecDepth 20000 in
theorem gX2_waysToWed_X2_countHeld : GoodIn wsX2_waysToWed (wsV RX2 185 RX2 yX2_countHeld wsX2_countHeld) := goodIn_app (goodIn_of _ (by decide +kernel)) ggX2_waysToWed_X2_countHeld
set_option maxRecDepth 20000 in
theorem ggX2_waysToWed_X2_countTouted : GoodIn wsX2_waysToWed wsX2_countTouted := goodIn_r _ [68, 6, 7, 10, 69, 70, 71, 72, 4, 73, 74, 75, 76, 77, 78, 79, 80, 81, 82, 83, 84, 85, 86, 87, 88, 89, 90, 91, 92, 93, 94, 95, 96, 97, 98, 99, 11, 100, 101, 102, 103, 104, 105, 106, 107, 108, 109, 110, 111, 112, 34, 113, 36, 117, 118, 119, 120, 121, 122, 123, 124, 125, 126, 127, 128, 129, 130, 131, 132, 133, 134, 135, 136, 137, 138, 139] rfl (by decide +kernel)
set_option maxRecDepth 20000 in
theorem gX2_waysToWed_X2_countTouted : GoodIn wsX2_waysToWed (wsV RX2 189 RX2 yX2_countTouted wsX2_countTouted) := goodIn_app (goodIn_of _ (by decide +kernel)) ggX2_waysToWed_X2_countTouted
set_option maxRecDepth 20000 in
theorem ggX2_waysToWed_X2_waysToBring : GoodIn wsX2_waysToWed wsX2_waysToBring := goodIn_r _ [116] rfl (by decide +kernel)
set_option maxRecDepth 20000 in
theorem gX2_waysToWed_X2_waysToBring : GoodIn wsX2_waysToWed (va_wsS RX2 192 yX2_waysToBring wsX2_waysToBring) := goodIn_app (goodIn_of _ (by decide +kernel)) ggX2_waysToWed_X2_waysToBring
theorem dX2_waysToWed_0 : decode cX2_waysToWed 0 = .ok (.aload_n 0, 1) := by decide +kernel
theorem dX2_waysToWed_1 : decode cX2_waysToWed 1 = .ok (.iconst 1, 1) := by decide +kernel
theorem dX2_waysToWed_2 : decode cX2_waysToWed 2 = .ok (.invokevirtual 181, 3) := by decide +kernel
theorem dX2_waysToWed_5 : decode cX2_waysToWed 5 = .ok (.istore_n 3, 1) := by decide +kernel
theorem dX2_waysToWed_6 : decode cX2_waysToWed 6 = .ok (.aload_n 0, 1) := by decide +kernel
theorem dX2_waysToWed_7 : decode cX2_waysToWed 7 = .ok (.iconst 0, 1) := by decide +kernel
theorem dX2_waysToWed_8 : decode cX2_waysToWed 8 = .ok (.invokevirtual 181, 3) := by decide +kernel
theorem dX2_waysToWed_11 : decode cX2_waysToWed 11 = .ok (.istore 4, 2) := by decide +kernel
theorem dX2_waysToWed_13 : decode cX2_waysToWed 13 = .ok (.aload_n 0, 1) := by decide +kernel
theorem dX2_waysToWed_14 : decode cX2_waysToWed 14 = .ok (.invokevirtual 185, 3) := by decide +kernel
theorem dX2_waysToWed_17 : decode cX2_waysToWed 17 = .ok (.istore 5, 2) := by decide +kernel
theorem dX2_waysToWed_19 : decode cX2_waysToWed 19 = .ok (.iconst 0, 1) := by decide +kernel
theorem dX2_waysToWed_20 : decode cX2_waysToWed 20 = .ok (.istore 6, 2) := by decide +kernel
theorem dX2_waysToWed_22 : decode cX2_waysToWed 22 = .ok (.iconst 0, 1) := by decide +kernel
theorem dX2_waysToWed_23 : decode cX2_waysToWed 23 = .ok (.istore 7, 2) := by decide +kernel
theorem dX2_waysToWed_25 : decode cX2_waysToWed 25 = .ok (.iload 7, 2) := by decide +kernel
theorem dX2_waysToWed_27 : decode cX2_waysToWed 27 = .ok (.sipush 256, 3) := by decide +kernel
theorem dX2_waysToWed_30 : decode cX2_waysToWed 30 = .ok (.if_icmp .ge 45, 3) := by decide +kernel
theorem dX2_waysToWed_33 : decode cX2_waysToWed 33 = .ok (.iload 7, 2) := by decide +kernel
theorem dX2_waysToWed_35 : decode cX2_waysToWed 35 = .ok (.iload_n 3, 1) := by decide +kernel
theorem dX2_waysToWed_36 : decode cX2_waysToWed 36 = .ok (.iconst (-1), 1) := by decide +kernel
theorem dX2_waysToWed_37 : decode cX2_waysToWed 37 = .ok (.ixor, 1) := by decide +kernel
theorem dX2_waysToWed_38 : decode cX2_waysToWed 38 = .ok (.iand, 1) := by decide +kernel
theorem dX2_waysToWed_39 : decode cX2_waysToWed 39 = .ok (.ifCond .ne 30, 3) := by decide +kernel
theorem dX2_waysToWed_42 : decode cX2_waysToWed 42 = .ok (.iload 5, 2) := by decide +kernel
theorem dX2_waysToWed_44 : decode cX2_waysToWed 44 = .ok (.aload_n 0, 1) := by decide +kernel
theorem dX2_waysToWed_45 : decode cX2_waysToWed 45 = .ok (.iload 7, 2) := by decide +kernel
theorem dX2_waysToWed_47 : decode cX2_waysToWed 47 = .ok (.iload 4, 2) := by decide +kernel
theorem dX2_waysToWed_49 : decode cX2_waysToWed 49 = .ok (.invokevirtual 189, 3) := by decide +kernel
theorem dX2_waysToWed_52 : decode cX2_waysToWed 52 = .ok (.iadd, 1) := by decide +kernel
theorem dX2_waysToWed_53 : decode cX2_waysToWed 53 = .ok (.iload_n 1, 1) := by decide +kernel
theorem dX2_waysToWed_54 : decode cX2_waysToWed 54 = .ok (.if_icmp .lt 15, 3) := by decide +kernel
theorem dX2_waysToWed_57 : decode cX2_waysToWed 57 = .ok (.iload 6, 2) := by decide +kernel
theorem dX2_waysToWed_59 : decode cX2_waysToWed 59 = .ok (.iload 7, 2) := by decide +kernel
theorem dX2_waysToWed_61 : decode cX2_waysToWed 61 = .ok (.iload_n 3, 1) := by decide +kernel
theorem dX2_waysToWed_62 : decode cX2_waysToWed 62 = .ok (.iload_n 2, 1) := by decide +kernel
theorem dX2_waysToWed_63 : decode cX2_waysToWed 63 = .ok (.invokestatic 192, 3) := by decide +kernel
theorem dX2_waysToWed_66 : decode cX2_waysToWed 66 = .ok (.iadd, 1) := by decide +kernel
theorem dX2_waysToWed_67 : decode cX2_waysToWed 67 = .ok (.istore 6, 2) := by decide +kernel
theorem dX2_waysToWed_69 : decode cX2_waysToWed 69 = .ok (.iinc 7 1, 3) := by decide +kernel
theorem dX2_waysToWed_72 : decode cX2_waysToWed 72 = .ok (.goto (-47), 3) := by decide +kernel
theorem dX2_waysToWed_75 : decode cX2_waysToWed 75 = .ok (.iload 6, 2) := by decide +kernel
theorem dX2_waysToWed_77 : decode cX2_waysToWed 77 = .ok (.ireturn, 1) := by decide +kernel
theorem dX2_waysToBring_0 : decode cX2_waysToBring 0 = .ok (.iconst 1, 1) := by decide +kernel
theorem dX2_waysToBring_1 : decode cX2_waysToBring 1 = .ok (.istore_n 3, 1) := by decide +kernel
theorem dX2_waysToBring_2 : decode cX2_waysToBring 2 = .ok (.iconst 0, 1) := by decide +kernel
theorem dX2_waysToBring_3 : decode cX2_waysToBring 3 = .ok (.istore 4, 2) := by decide +kernel
theorem dX2_waysToBring_5 : decode cX2_waysToBring 5 = .ok (.iload 4, 2) := by decide +kernel
theorem dX2_waysToBring_7 : decode cX2_waysToBring 7 = .ok (.bipush 8, 2) := by decide +kernel
theorem dX2_waysToBring_9 : decode cX2_waysToBring 9 = .ok (.if_icmp .ge 40, 3) := by decide +kernel
theorem dX2_waysToBring_12 : decode cX2_waysToBring 12 = .ok (.iload_n 1, 1) := by decide +kernel
theorem dX2_waysToBring_13 : decode cX2_waysToBring 13 = .ok (.iload 4, 2) := by decide +kernel
theorem dX2_waysToBring_15 : decode cX2_waysToBring 15 = .ok (.ishr, 1) := by decide +kernel
theorem dX2_waysToBring_16 : decode cX2_waysToBring 16 = .ok (.iconst 1, 1) := by decide +kernel
theorem dX2_waysToBring_17 : decode cX2_waysToBring 17 = .ok (.iand, 1) := by decide +kernel
theorem dX2_waysToBring_18 : decode cX2_waysToBring 18 = .ok (.iconst 1, 1) := by decide +kernel
theorem dX2_waysToBring_19 : decode cX2_waysToBring 19 = .ok (.if_icmp .ne 24, 3) := by decide +kernel
theorem dX2_waysToBring_22 : decode cX2_waysToBring 22 = .ok (.iload_n 3, 1) := by decide +kernel
theorem dX2_waysToBring_23 : decode cX2_waysToBring 23 = .ok (.iload_n 0, 1) := by decide +kernel
theorem dX2_waysToBring_24 : decode cX2_waysToBring 24 = .ok (.iload 4, 2) := by decide +kernel
theorem dX2_waysToBring_26 : decode cX2_waysToBring 26 = .ok (.ishr, 1) := by decide +kernel
theorem dX2_waysToBring_27 : decode cX2_waysToBring 27 = .ok (.iconst 1, 1) := by decide +kernel
theorem dX2_waysToBring_28 : decode cX2_waysToBring 28 = .ok (.iand, 1) := by decide +kernel
theorem dX2_waysToBring_29 : decode cX2_waysToBring 29 = .ok (.iconst 1, 1) := by decide +kernel
theorem dX2_waysToBring_30 : decode cX2_waysToBring 30 = .ok (.if_icmp .ne 7, 3) := by decide +kernel
theorem dX2_waysToBring_33 : decode cX2_waysToBring 33 = .ok (.iload_n 2, 1) := by decide +kernel
theorem dX2_waysToBring_34 : decode cX2_waysToBring 34 = .ok (.goto 7, 3) := by decide +kernel
theorem dX2_waysToBring_37 : decode cX2_waysToBring 37 = .ok (.bipush 10, 2) := by decide +kernel
theorem dX2_waysToBring_39 : decode cX2_waysToBring 39 = .ok (.iload_n 2, 1) := by decide +kernel
theorem dX2_waysToBring_40 : decode cX2_waysToBring 40 = .ok (.isub, 1) := by decide +kernel
theorem dX2_waysToBring_41 : decode cX2_waysToBring 41 = .ok (.imul, 1) := by decide +kernel
theorem dX2_waysToBring_42 : decode cX2_waysToBring 42 = .ok (.istore_n 3, 1) := by decide +kernel
theorem dX2_waysToBring_43 : decode cX2_waysToBring 43 = .ok (.iinc 4 1, 3) := by decide +kernel
theorem dX2_waysToBring_46 : decode cX2_waysToBring 46 = .ok (.goto (-41), 3) := by decide +kernel
theorem dX2_waysToBring_49 : decode cX2_waysToBring 49 = .ok (.iload_n 3, 1) := by decide +kernel
theorem dX2_waysToBring_50 : decode cX2_waysToBring 50 = .ok (.ireturn, 1) := by decide +kernel
set_option maxRecDepth 20000 in
theorem ggX2_countTouted_X2_lowestFor : GoodIn wsX2_countTouted wsX2_lowestFor := goodIn_r _ [9, 1, 2, 10, 11, 12, 8, 13, 14, 3, 15, 16, 17, 18, 19, 20, 21, 22, 23, 24, 25, 26, 27, 28, 29, 30, 31, 32, 33, 34, 35, 36, 37, 38, 39, 40, 41, 42, 43, 44, 45, 46, 47, 48, 49, 50, 51, 52, 53, 54, 55, 56, 57, 58, 59, 60, 61, 62, 63, 64, 65, 66, 67, 68, 69, 70, 71, 72, 73, 74, 75] rfl (by decide +kernel)
set_option maxRecDepth 20000 in
theorem gX2_countTouted_X2_lowestFor : GoodIn wsX2_countTouted (wsV RX2 198 RX2 yX2_lowestFor wsX2_lowestFor) := goodIn_app (goodIn_of _ (by decide +kernel)) ggX2_countTouted_X2_lowestFor
theorem dX2_countTouted_0 : decode cX2_countTouted 0 = .ok (.iload_n 2, 1) := by decide +kernel
theorem dX2_countTouted_1 : decode cX2_countTouted 1 = .ok (.istore_n 3, 1) := by decide +kernel
theorem dX2_countTouted_2 : decode cX2_countTouted 2 = .ok (.iconst 0, 1) := by decide +kernel
theorem dX2_countTouted_3 : decode cX2_countTouted 3 = .ok (.istore 4, 2) := by decide +kernel
theorem dX2_countTouted_5 : decode cX2_countTouted 5 = .ok (.iconst 0, 1) := by decide +kernel
theorem dX2_countTouted_6 : decode cX2_countTouted 6 = .ok (.istore 5, 2) := by decide +kernel
theorem dX2_countTouted_8 : decode cX2_countTouted 8 = .ok (.iload 5, 2) := by decide +kernel
theorem dX2_countTouted_10 : decode cX2_countTouted 10 = .ok (.aload_n 0, 1) := by decide +kernel
theorem dX2_countTouted_11 : decode cX2_countTouted 11 = .ok (.getfield 31, 3) := by decide +kernel
theorem dX2_countTouted_14 : decode cX2_countTouted 14 = .ok (.getfield 178, 3) := by decide +kernel
theorem dX2_countTouted_17 : decode cX2_countTouted 17 = .ok (.if_icmp .ge 81, 3) := by decide +kernel
theorem dX2_countTouted_20 : decode cX2_countTouted 20 = .ok (.iload_n 1, 1) := by decide +kernel
theorem dX2_countTouted_21 : decode cX2_countTouted 21 = .ok (.iload 5, 2) := by decide +kernel
theorem dX2_countTouted_23 : decode cX2_countTouted 23 = .ok (.ishr, 1) := by decide +kernel
theorem dX2_countTouted_24 : decode cX2_countTouted 24 = .ok (.iconst 1, 1) := by decide +kernel
theorem dX2_countTouted_25 : decode cX2_countTouted 25 = .ok (.iand, 1) := by decide +kernel
theorem dX2_countTouted_26 : decode cX2_countTouted 26 = .ok (.iconst 1, 1) := by decide +kernel
theorem dX2_countTouted_27 : decode cX2_countTouted 27 = .ok (.if_icmp .ne 24, 3) := by decide +kernel
theorem dX2_countTouted_30 : decode cX2_countTouted 30 = .ok (.aload_n 0, 1) := by decide +kernel
theorem dX2_countTouted_31 : decode cX2_countTouted 31 = .ok (.getfield 12, 3) := by decide +kernel
theorem dX2_countTouted_34 : decode cX2_countTouted 34 = .ok (.getfield 195, 3) := by decide +kernel
theorem dX2_countTouted_37 : decode cX2_countTouted 37 = .ok (.iconst 0, 1) := by decide +kernel
theorem dX2_countTouted_38 : decode cX2_countTouted 38 = .ok (.iaload, 1) := by decide +kernel
theorem dX2_countTouted_39 : decode cX2_countTouted 39 = .ok (.iload 4, 2) := by decide +kernel
theorem dX2_countTouted_41 : decode cX2_countTouted 41 = .ok (.iadd, 1) := by decide +kernel
theorem dX2_countTouted_42 : decode cX2_countTouted 42 = .ok (.bipush 8, 2) := by decide +kernel
theorem dX2_countTouted_44 : decode cX2_countTouted 44 = .ok (.if_icmp .ge 7, 3) := by decide +kernel
theorem dX2_countTouted_47 : decode cX2_countTouted 47 = .ok (.iconst 1, 1) := by decide +kernel
theorem dX2_countTouted_48 : decode cX2_countTouted 48 = .ok (.goto 4, 3) := by decide +kernel
theorem dX2_countTouted_51 : decode cX2_countTouted 51 = .ok (.iconst 0, 1) := by decide +kernel
theorem dX2_countTouted_52 : decode cX2_countTouted 52 = .ok (.istore 6, 2) := by decide +kernel
theorem dX2_countTouted_54 : decode cX2_countTouted 54 = .ok (.iload 6, 2) := by decide +kernel
theorem dX2_countTouted_56 : decode cX2_countTouted 56 = .ok (.ifCond .eq 13, 3) := by decide +kernel
theorem dX2_countTouted_59 : decode cX2_countTouted 59 = .ok (.aload_n 0, 1) := by decide +kernel
theorem dX2_countTouted_60 : decode cX2_countTouted 60 = .ok (.iload 5, 2) := by decide +kernel
theorem dX2_countTouted_62 : decode cX2_countTouted 62 = .ok (.iload_n 3, 1) := by decide +kernel
theorem dX2_countTouted_63 : decode cX2_countTouted 63 = .ok (.invokevirtual 198, 3) := by decide +kernel
theorem dX2_countTouted_66 : decode cX2_countTouted 66 = .ok (.goto 5, 3) := by decide +kernel
theorem dX2_countTouted_69 : decode cX2_countTouted 69 = .ok (.bipush (-4), 2) := by decide +kernel
theorem dX2_countTouted_71 : decode cX2_countTouted 71 = .ok (.istore 7, 2) := by decide +kernel
theorem dX2_countTouted_73 : decode cX2_countTouted 73 = .ok (.iload 7, 2) := by decide +kernel
theorem dX2_countTouted_75 : decode cX2_countTouted 75 = .ok (.bipush (-4), 2) := by decide +kernel
theorem dX2_countTouted_77 : decode cX2_countTouted 77 = .ok (.if_icmp .eq 15, 3) := by decide +kernel
theorem dX2_countTouted_80 : decode cX2_countTouted 80 = .ok (.iload_n 3, 1) := by decide +kernel
theorem dX2_countTouted_81 : decode cX2_countTouted 81 = .ok (.iconst 1, 1) := by decide +kernel
theorem dX2_countTouted_82 : decode cX2_countTouted 82 = .ok (.iload 7, 2) := by decide +kernel
theorem dX2_countTouted_84 : decode cX2_countTouted 84 = .ok (.ishl, 1) := by decide +kernel
theorem dX2_countTouted_85 : decode cX2_countTouted 85 = .ok (.iconst (-1), 1) := by decide +kernel
theorem dX2_countTouted_86 : decode cX2_countTouted 86 = .ok (.ixor, 1) := by decide +kernel
theorem dX2_countTouted_87 : decode cX2_countTouted 87 = .ok (.iand, 1) := by decide +kernel
theorem dX2_countTouted_88 : decode cX2_countTouted 88 = .ok (.istore_n 3, 1) := by decide +kernel
theorem dX2_countTouted_89 : decode cX2_countTouted 89 = .ok (.iinc 4 1, 3) := by decide +kernel
theorem dX2_countTouted_92 : decode cX2_countTouted 92 = .ok (.iinc 5 1, 3) := by decide +kernel
theorem dX2_countTouted_95 : decode cX2_countTouted 95 = .ok (.goto (-87), 3) := by decide +kernel
theorem dX2_countTouted_98 : decode cX2_countTouted 98 = .ok (.iload 4, 2) := by decide +kernel
theorem dX2_countTouted_100 : decode cX2_countTouted 100 = .ok (.ireturn, 1) := by decide +kernel
set_option maxRecDepth 20000 in
theorem ggX2_lowestFor_X2_refuseWedding : GoodIn wsX2_lowestFor wsX2_refuseWedding := goodIn_r _ [7, 1, 8, 9, 10, 11, 12, 13, 14, 15, 16, 17, 18, 19, 20, 21, 22, 23, 24, 25, 26, 27, 28, 29, 6, 30, 31, 32, 33, 34, 35, 36, 37, 38, 39, 40, 41, 42, 43, 44, 45, 46, 47, 48, 49, 50, 51, 52, 53, 54, 55, 56, 57, 58, 59, 60, 61, 62, 63, 64, 65, 66, 67, 68, 69, 70] rfl (by decide +kernel)
set_option maxRecDepth 20000 in
theorem gX2_lowestFor_X2_refuseWedding : GoodIn wsX2_lowestFor (wsV RX2 160 RX2 yX2_refuseWedding wsX2_refuseWedding) := goodIn_app (goodIn_of _ (by decide +kernel)) ggX2_lowestFor_X2_refuseWedding
theorem dX2_lowestFor_0 : decode cX2_lowestFor 0 = .ok (.iconst 0, 1) := by decide +kernel
theorem dX2_lowestFor_1 : decode cX2_lowestFor 1 = .ok (.istore_n 3, 1) := by decide +kernel
theorem dX2_lowestFor_2 : decode cX2_lowestFor 2 = .ok (.iload_n 3, 1) := by decide +kernel
theorem dX2_lowestFor_3 : decode cX2_lowestFor 3 = .ok (.aload_n 0, 1) := by decide +kernel
theorem dX2_lowestFor_4 : decode cX2_lowestFor 4 = .ok (.getfield 31, 3) := by decide +kernel
theorem dX2_lowestFor_7 : decode cX2_lowestFor 7 = .ok (.getfield 178, 3) := by decide +kernel
theorem dX2_lowestFor_10 : decode cX2_lowestFor 10 = .ok (.if_icmp .ge 30, 3) := by decide +kernel
theorem dX2_lowestFor_13 : decode cX2_lowestFor 13 = .ok (.iload_n 2, 1) := by decide +kernel
theorem dX2_lowestFor_14 : decode cX2_lowestFor 14 = .ok (.iload_n 3, 1) := by decide +kernel
theorem dX2_lowestFor_15 : decode cX2_lowestFor 15 = .ok (.ishr, 1) := by decide +kernel
theorem dX2_lowestFor_16 : decode cX2_lowestFor 16 = .ok (.iconst 1, 1) := by decide +kernel
theorem dX2_lowestFor_17 : decode cX2_lowestFor 17 = .ok (.iand, 1) := by decide +kernel
theorem dX2_lowestFor_18 : decode cX2_lowestFor 18 = .ok (.iconst 1, 1) := by decide +kernel
theorem dX2_lowestFor_19 : decode cX2_lowestFor 19 = .ok (.if_icmp .ne 15, 3) := by decide +kernel
theorem dX2_lowestFor_22 : decode cX2_lowestFor 22 = .ok (.aload_n 0, 1) := by decide +kernel
theorem dX2_lowestFor_23 : decode cX2_lowestFor 23 = .ok (.iconst 0, 1) := by decide +kernel
theorem dX2_lowestFor_24 : decode cX2_lowestFor 24 = .ok (.iload_n 3, 1) := by decide +kernel
theorem dX2_lowestFor_25 : decode cX2_lowestFor 25 = .ok (.iload_n 1, 1) := by decide +kernel
theorem dX2_lowestFor_26 : decode cX2_lowestFor 26 = .ok (.invokevirtual 160, 3) := by decide +kernel
theorem dX2_lowestFor_29 : decode cX2_lowestFor 29 = .ok (.ifCond .ne 5, 3) := by decide +kernel
theorem dX2_lowestFor_32 : decode cX2_lowestFor 32 = .ok (.iload_n 3, 1) := by decide +kernel
theorem dX2_lowestFor_33 : decode cX2_lowestFor 33 = .ok (.ireturn, 1) := by decide +kernel
theorem dX2_lowestFor_34 : decode cX2_lowestFor 34 = .ok (.iinc 3 1, 3) := by decide +kernel
theorem dX2_lowestFor_37 : decode cX2_lowestFor 37 = .ok (.goto (-35), 3) := by decide +kernel
theorem dX2_lowestFor_40 : decode cX2_lowestFor 40 = .ok (.bipush (-4), 2) := by decide +kernel
theorem dX2_lowestFor_42 : decode cX2_lowestFor 42 = .ok (.ireturn, 1) := by decide +kernel
set_option maxRecDepth 20000 in
theorem ggX2_liveDay_X2_refuseWedding : GoodIn wsX2_liveDay wsX2_refuseWedding := goodIn_r _ [10, 1, 11, 4, 12, 13, 14, 15, 16, 17, 18, 19, 20, 21, 22, 23, 24, 25, 26, 27, 28, 29, 30, 31, 9, 32, 5, 33, 34, 35, 36, 37, 38, 39, 40, 41, 42, 43, 44, 45, 46, 47, 48, 94, 95, 96, 97, 98, 99, 100, 101, 102, 103, 104, 105, 106, 107, 108, 109, 110, 111, 112, 113, 114, 115, 116] rfl (by decide +kernel)
set_option maxRecDepth 20000 in
theorem gX2_liveDay_X2_refuseWedding : GoodIn wsX2_liveDay (wsV RX2 160 RX2 yX2_refuseWedding wsX2_refuseWedding) := goodIn_app (goodIn_of _ (by decide +kernel)) ggX2_liveDay_X2_refuseWedding
set_option maxRecDepth 20000 in
theorem ggX2_liveDay_X2_writeWedding : GoodIn wsX2_liveDay wsX2_writeWedding := goodIn_r _ [52, 4, 1, 11, 53, 54, 55, 46, 56, 48, 57, 58, 59, 60, 44, 45, 47, 61, 62, 63, 64, 65, 66, 67, 68, 9, 69, 70, 38, 71, 72, 73, 74, 75, 76, 77, 78, 79, 5, 12, 13, 14, 15, 16, 17, 80, 81, 82, 83, 84, 25, 26, 27, 28, 94, 95, 96, 97, 98, 99, 100, 101, 102, 103, 104, 105, 106, 107, 108, 109, 110, 111, 112, 113, 114, 115, 116] rfl (by decide +kernel)
set_option maxRecDepth 20000 in
theorem gX2_liveDay_X2_writeWedding : GoodIn wsX2_liveDay (wsV RX2 201 RX2 yX2_writeWedding wsX2_writeWedding) := goodIn_app (goodIn_of _ (by decide +kernel)) ggX2_liveDay_X2_writeWedding
set_option maxRecDepth 20000 in
theorem ggX2_liveDay_X2_refuseBlank : GoodIn wsX2_liveDay wsX2_refuseBlank := goodIn_r _ [88, 1, 89, 4, 12, 13, 14, 15, 16, 17, 29, 30, 31, 9, 32, 5, 33, 90, 91, 92, 46, 93, 57, 61, 62, 63, 64, 48, 43, 44, 45, 47, 94, 95, 96, 97, 98, 99, 100, 101, 102, 103, 104, 105, 106, 107, 108, 109, 110, 111, 112, 113, 114, 115, 116] rfl (by decide +kernel)
set_option maxRecDepth 20000 in
theorem gX2_liveDay_X2_refuseBlank : GoodIn wsX2_liveDay (wsV RX2 204 RX2 yX2_refuseBlank wsX2_refuseBlank) := goodIn_app (goodIn_of _ (by decide +kernel)) ggX2_liveDay_X2_refuseBlank
set_option maxRecDepth 20000 in
theorem ggX2_liveDay_X0_begin : GoodIn wsX2_liveDay wsX0_begin := goodIn_r _ [56, 48, 57, 58, 59, 60, 44, 45, 46, 47, 61, 62, 63, 64, 108, 109, 110, 111, 112, 113, 114, 115, 116] rfl (by decide +kernel)
set_option maxRecDepth 20000 in
theorem gX2_liveDay_X0_begin : GoodIn wsX2_liveDay (wsV RX2 112 RX0 yX0_begin wsX0_begin) := goodIn_app (goodIn_of _ (by decide +kernel)) ggX2_liveDay_X0_begin
theorem dX2_liveDay_0 : decode cX2_liveDay 0 = .ok (.aload_n 0, 1) := by decide +kernel
theorem dX2_liveDay_1 : decode cX2_liveDay 1 = .ok (.getfield 31, 3) := by decide +kernel
theorem dX2_liveDay_4 : decode cX2_liveDay 4 = .ok (.getfield 178, 3) := by decide +kernel
theorem dX2_liveDay_7 : decode cX2_liveDay 7 = .ok (.istore_n 2, 1) := by decide +kernel
theorem dX2_liveDay_8 : decode cX2_liveDay 8 = .ok (.aload_n 0, 1) := by decide +kernel
theorem dX2_liveDay_9 : decode cX2_liveDay 9 = .ok (.getfield 31, 3) := by decide +kernel
theorem dX2_liveDay_12 : decode cX2_liveDay 12 = .ok (.getfield 157, 3) := by decide +kernel
theorem dX2_liveDay_15 : decode cX2_liveDay 15 = .ok (.istore_n 3, 1) := by decide +kernel
theorem dX2_liveDay_16 : decode cX2_liveDay 16 = .ok (.iload_n 2, 1) := by decide +kernel
theorem dX2_liveDay_17 : decode cX2_liveDay 17 = .ok (.iconst 1, 1) := by decide +kernel
theorem dX2_liveDay_18 : decode cX2_liveDay 18 = .ok (.if_icmp .lt 8, 3) := by decide +kernel
theorem dX2_liveDay_21 : decode cX2_liveDay 21 = .ok (.iload_n 3, 1) := by decide +kernel
theorem dX2_liveDay_22 : decode cX2_liveDay 22 = .ok (.iconst 1, 1) := by decide +kernel
theorem dX2_liveDay_23 : decode cX2_liveDay 23 = .ok (.if_icmp .ge 4, 3) := by decide +kernel
theorem dX2_liveDay_26 : decode cX2_liveDay 26 = .ok (.return_, 1) := by decide +kernel
theorem dX2_liveDay_27 : decode cX2_liveDay 27 = .ok (.iload_n 1, 1) := by decide +kernel
theorem dX2_liveDay_28 : decode cX2_liveDay 28 = .ok (.iload_n 3, 1) := by decide +kernel
theorem dX2_liveDay_29 : decode cX2_liveDay 29 = .ok (.irem, 1) := by decide +kernel
theorem dX2_liveDay_30 : decode cX2_liveDay 30 = .ok (.istore 4, 2) := by decide +kernel
theorem dX2_liveDay_32 : decode cX2_liveDay 32 = .ok (.iload_n 1, 1) := by decide +kernel
theorem dX2_liveDay_33 : decode cX2_liveDay 33 = .ok (.iconst 4, 1) := by decide +kernel
theorem dX2_liveDay_34 : decode cX2_liveDay 34 = .ok (.idiv, 1) := by decide +kernel
theorem dX2_liveDay_35 : decode cX2_liveDay 35 = .ok (.iload_n 2, 1) := by decide +kernel
theorem dX2_liveDay_36 : decode cX2_liveDay 36 = .ok (.irem, 1) := by decide +kernel
theorem dX2_liveDay_37 : decode cX2_liveDay 37 = .ok (.istore 5, 2) := by decide +kernel
theorem dX2_liveDay_39 : decode cX2_liveDay 39 = .ok (.iload_n 1, 1) := by decide +kernel
theorem dX2_liveDay_40 : decode cX2_liveDay 40 = .ok (.bipush 32, 2) := by decide +kernel
theorem dX2_liveDay_42 : decode cX2_liveDay 42 = .ok (.idiv, 1) := by decide +kernel
theorem dX2_liveDay_43 : decode cX2_liveDay 43 = .ok (.iload_n 2, 1) := by decide +kernel
theorem dX2_liveDay_44 : decode cX2_liveDay 44 = .ok (.irem, 1) := by decide +kernel
theorem dX2_liveDay_45 : decode cX2_liveDay 45 = .ok (.istore 6, 2) := by decide +kernel
theorem dX2_liveDay_47 : decode cX2_liveDay 47 = .ok (.aload_n 0, 1) := by decide +kernel
theorem dX2_liveDay_48 : decode cX2_liveDay 48 = .ok (.iload 4, 2) := by decide +kernel
theorem dX2_liveDay_50 : decode cX2_liveDay 50 = .ok (.iload 5, 2) := by decide +kernel
theorem dX2_liveDay_52 : decode cX2_liveDay 52 = .ok (.iload 6, 2) := by decide +kernel
theorem dX2_liveDay_54 : decode cX2_liveDay 54 = .ok (.invokevirtual 160, 3) := by decide +kernel
theorem dX2_liveDay_57 : decode cX2_liveDay 57 = .ok (.ifCond .ne 17, 3) := by decide +kernel
theorem dX2_liveDay_60 : decode cX2_liveDay 60 = .ok (.aload_n 0, 1) := by decide +kernel
theorem dX2_liveDay_61 : decode cX2_liveDay 61 = .ok (.iload 4, 2) := by decide +kernel
theorem dX2_liveDay_63 : decode cX2_liveDay 63 = .ok (.iload 5, 2) := by decide +kernel
theorem dX2_liveDay_65 : decode cX2_liveDay 65 = .ok (.iload 6, 2) := by decide +kernel
theorem dX2_liveDay_67 : decode cX2_liveDay 67 = .ok (.invokevirtual 201, 3) := by decide +kernel
theorem dX2_liveDay_70 : decode cX2_liveDay 70 = .ok (.pop, 1) := by decide +kernel
theorem dX2_liveDay_71 : decode cX2_liveDay 71 = .ok (.goto 32, 3) := by decide +kernel
theorem dX2_liveDay_74 : decode cX2_liveDay 74 = .ok (.iload_n 1, 1) := by decide +kernel
theorem dX2_liveDay_75 : decode cX2_liveDay 75 = .ok (.sipush 256, 3) := by decide +kernel
theorem dX2_liveDay_78 : decode cX2_liveDay 78 = .ok (.idiv, 1) := by decide +kernel
theorem dX2_liveDay_79 : decode cX2_liveDay 79 = .ok (.iconst 2, 1) := by decide +kernel
theorem dX2_liveDay_80 : decode cX2_liveDay 80 = .ok (.irem, 1) := by decide +kernel
theorem dX2_liveDay_81 : decode cX2_liveDay 81 = .ok (.ifCond .ne 22, 3) := by decide +kernel
theorem dX2_liveDay_84 : decode cX2_liveDay 84 = .ok (.aload_n 0, 1) := by decide +kernel
theorem dX2_liveDay_85 : decode cX2_liveDay 85 = .ok (.iload 4, 2) := by decide +kernel
theorem dX2_liveDay_87 : decode cX2_liveDay 87 = .ok (.invokevirtual 204, 3) := by decide +kernel
theorem dX2_liveDay_90 : decode cX2_liveDay 90 = .ok (.ifCond .ne 13, 3) := by decide +kernel
theorem dX2_liveDay_93 : decode cX2_liveDay 93 = .ok (.aload_n 0, 1) := by decide +kernel
theorem dX2_liveDay_94 : decode cX2_liveDay 94 = .ok (.getfield 12, 3) := by decide +kernel
theorem dX2_liveDay_97 : decode cX2_liveDay 97 = .ok (.iload 4, 2) := by decide +kernel
theorem dX2_liveDay_99 : decode cX2_liveDay 99 = .ok (.invokevirtual 112, 3) := by decide +kernel
theorem dX2_liveDay_102 : decode cX2_liveDay 102 = .ok (.pop, 1) := by decide +kernel
theorem dX2_liveDay_103 : decode cX2_liveDay 103 = .ok (.aload_n 0, 1) := by decide +kernel
theorem dX2_liveDay_104 : decode cX2_liveDay 104 = .ok (.getfield 12, 3) := by decide +kernel
theorem dX2_liveDay_107 : decode cX2_liveDay 107 = .ok (.dup, 1) := by decide +kernel
theorem dX2_liveDay_108 : decode cX2_liveDay 108 = .ok (.getfield 49, 3) := by decide +kernel
theorem dX2_liveDay_111 : decode cX2_liveDay 111 = .ok (.iconst 1, 1) := by decide +kernel
theorem dX2_liveDay_112 : decode cX2_liveDay 112 = .ok (.iadd, 1) := by decide +kernel
theorem dX2_liveDay_113 : decode cX2_liveDay 113 = .ok (.putfield 49, 3) := by decide +kernel
theorem dX2_liveDay_116 : decode cX2_liveDay 116 = .ok (.return_, 1) := by decide +kernel
theorem dX3_init_0 : decode cX3_init 0 = .ok (.aload_n 0, 1) := by decide +kernel
theorem dX3_init_1 : decode cX3_init 1 = .ok (.invokespecial 3, 3) := by decide +kernel
theorem dX3_init_4 : decode cX3_init 4 = .ok (.aload_n 0, 1) := by decide +kernel
theorem dX3_init_5 : decode cX3_init 5 = .ok (.bipush 8, 2) := by decide +kernel
theorem dX3_init_7 : decode cX3_init 7 = .ok (.newarray .boolean, 2) := by decide +kernel
theorem dX3_init_9 : decode cX3_init 9 = .ok (.putfield 9, 3) := by decide +kernel
theorem dX3_init_12 : decode cX3_init 12 = .ok (.aload_n 0, 1) := by decide +kernel
theorem dX3_init_13 : decode cX3_init 13 = .ok (.bipush 8, 2) := by decide +kernel
theorem dX3_init_15 : decode cX3_init 15 = .ok (.newarray .int, 2) := by decide +kernel
theorem dX3_init_17 : decode cX3_init 17 = .ok (.putfield 15, 3) := by decide +kernel
theorem dX3_init_20 : decode cX3_init 20 = .ok (.aload_n 0, 1) := by decide +kernel
theorem dX3_init_21 : decode cX3_init 21 = .ok (.bipush 8, 2) := by decide +kernel
theorem dX3_init_23 : decode cX3_init 23 = .ok (.newarray .int, 2) := by decide +kernel
theorem dX3_init_25 : decode cX3_init 25 = .ok (.putfield 19, 3) := by decide +kernel
theorem dX3_init_28 : decode cX3_init 28 = .ok (.aload_n 0, 1) := by decide +kernel
theorem dX3_init_29 : decode cX3_init 29 = .ok (.bipush 8, 2) := by decide +kernel
theorem dX3_init_31 : decode cX3_init 31 = .ok (.newarray .int, 2) := by decide +kernel
theorem dX3_init_33 : decode cX3_init 33 = .ok (.putfield 22, 3) := by decide +kernel
theorem dX3_init_36 : decode cX3_init 36 = .ok (.aload_n 0, 1) := by decide +kernel
theorem dX3_init_37 : decode cX3_init 37 = .ok (.iconst 3, 1) := by decide +kernel
theorem dX3_init_38 : decode cX3_init 38 = .ok (.newarray .int, 2) := by decide +kernel
theorem dX3_init_40 : decode cX3_init 40 = .ok (.putfield 25, 3) := by decide +kernel
theorem dX3_init_43 : decode cX3_init 43 = .ok (.aload_n 0, 1) := by decide +kernel
theorem dX3_init_44 : decode cX3_init 44 = .ok (.iconst 3, 1) := by decide +kernel
theorem dX3_init_45 : decode cX3_init 45 = .ok (.newarray .int, 2) := by decide +kernel
theorem dX3_init_47 : decode cX3_init 47 = .ok (.putfield 28, 3) := by decide +kernel
theorem dX3_init_50 : decode cX3_init 50 = .ok (.aload_n 0, 1) := by decide +kernel
theorem dX3_init_51 : decode cX3_init 51 = .ok (.iconst 3, 1) := by decide +kernel
theorem dX3_init_52 : decode cX3_init 52 = .ok (.newarray .int, 2) := by decide +kernel
theorem dX3_init_54 : decode cX3_init 54 = .ok (.putfield 31, 3) := by decide +kernel
theorem dX3_init_57 : decode cX3_init 57 = .ok (.return_, 1) := by decide +kernel
set_option maxRecDepth 20000 in
theorem ggX3_readFrom_X3_readItem : GoodIn wsX3_readFrom wsX3_readItem := goodIn_r _ [9, 10, 11, 12, 13, 14, 15, 16, 17, 18, 8, 19, 20, 21, 22, 23, 24, 25, 26, 27, 28, 29, 30, 31, 32, 33, 34, 35, 1, 36, 37, 38, 39, 40, 41, 42, 43, 2, 44, 45, 46, 47, 48, 49, 3, 60, 61, 50, 51, 52, 53, 54, 55, 56, 57, 58, 59] rfl (by decide +kernel)
set_option maxRecDepth 20000 in
theorem gX3_readFrom_X3_readItem : GoodIn wsX3_readFrom (wsV RX3 49 RX3 yX3_readItem wsX3_readItem) := goodIn_app (goodIn_of _ (by decide +kernel)) ggX3_readFrom_X3_readItem
theorem dX3_readFrom_0 : decode cX3_readFrom 0 = .ok (.aload_n 0, 1) := by decide +kernel
theorem dX3_readFrom_1 : decode cX3_readFrom 1 = .ok (.iconst 0, 1) := by decide +kernel
theorem dX3_readFrom_2 : decode cX3_readFrom 2 = .ok (.putfield 34, 3) := by decide +kernel
theorem dX3_readFrom_5 : decode cX3_readFrom 5 = .ok (.aload_n 0, 1) := by decide +kernel
theorem dX3_readFrom_6 : decode cX3_readFrom 6 = .ok (.iconst 0, 1) := by decide +kernel
theorem dX3_readFrom_7 : decode cX3_readFrom 7 = .ok (.putfield 38, 3) := by decide +kernel
theorem dX3_readFrom_10 : decode cX3_readFrom 10 = .ok (.aload_n 0, 1) := by decide +kernel
theorem dX3_readFrom_11 : decode cX3_readFrom 11 = .ok (.bipush 60, 2) := by decide +kernel
theorem dX3_readFrom_13 : decode cX3_readFrom 13 = .ok (.putfield 41, 3) := by decide +kernel
theorem dX3_readFrom_16 : decode cX3_readFrom 16 = .ok (.iconst 0, 1) := by decide +kernel
theorem dX3_readFrom_17 : decode cX3_readFrom 17 = .ok (.istore_n 2, 1) := by decide +kernel
theorem dX3_readFrom_18 : decode cX3_readFrom 18 = .ok (.iload_n 2, 1) := by decide +kernel
theorem dX3_readFrom_19 : decode cX3_readFrom 19 = .ok (.aload_n 1, 1) := by decide +kernel
theorem dX3_readFrom_20 : decode cX3_readFrom 20 = .ok (.getfield 44, 3) := by decide +kernel
theorem dX3_readFrom_23 : decode cX3_readFrom 23 = .ok (.if_icmp .ge 22, 3) := by decide +kernel
theorem dX3_readFrom_26 : decode cX3_readFrom 26 = .ok (.aload_n 0, 1) := by decide +kernel
theorem dX3_readFrom_27 : decode cX3_readFrom 27 = .ok (.aload_n 1, 1) := by decide +kernel
theorem dX3_readFrom_28 : decode cX3_readFrom 28 = .ok (.iload_n 2, 1) := by decide +kernel
theorem dX3_readFrom_29 : decode cX3_readFrom 29 = .ok (.invokevirtual 49, 3) := by decide +kernel
theorem dX3_readFrom_32 : decode cX3_readFrom 32 = .ok (.istore_n 3, 1) := by decide +kernel
theorem dX3_readFrom_33 : decode cX3_readFrom 33 = .ok (.iload_n 3, 1) := by decide +kernel
theorem dX3_readFrom_34 : decode cX3_readFrom 34 = .ok (.iload_n 2, 1) := by decide +kernel
theorem dX3_readFrom_35 : decode cX3_readFrom 35 = .ok (.if_icmp .gt 5, 3) := by decide +kernel
theorem dX3_readFrom_38 : decode cX3_readFrom 38 = .ok (.iload_n 2, 1) := by decide +kernel
theorem dX3_readFrom_39 : decode cX3_readFrom 39 = .ok (.ireturn, 1) := by decide +kernel
theorem dX3_readFrom_40 : decode cX3_readFrom 40 = .ok (.iload_n 3, 1) := by decide +kernel
theorem dX3_readFrom_41 : decode cX3_readFrom 41 = .ok (.istore_n 2, 1) := by decide +kernel
theorem dX3_readFrom_42 : decode cX3_readFrom 42 = .ok (.goto (-24), 3) := by decide +kernel
theorem dX3_readFrom_45 : decode cX3_readFrom 45 = .ok (.bipush (-4), 2) := by decide +kernel
theorem dX3_readFrom_47 : decode cX3_readFrom 47 = .ok (.ireturn, 1) := by decide +kernel
set_option maxRecDepth 20000 in
theorem ggX3_readItem_X4_at : GoodIn wsX3_readItem wsX4_at := goodIn_r _ [5, 6, 7, 45, 46] rfl (by decide +kernel)
set_option maxRecDepth 20000 in
theorem gX3_readItem_X4_at : GoodIn wsX3_readItem (wsV RX3 53 RX4 yX4_at wsX4_at) := goodIn_app (goodIn_of _ (by decide +kernel)) ggX3_readItem_X4_at
set_option maxRecDepth 20000 in
theorem ggX3_readItem_X3_numbersOf : GoodIn wsX3_readItem wsX3_numbersOf := goodIn_r _ [11] rfl (by decide +kernel)
set_option maxRecDepth 20000 in
theorem gX3_readItem_X3_numbersOf : GoodIn wsX3_readItem (va_wsS RX3 57 yX3_numbersOf wsX3_numbersOf) := goodIn_app (goodIn_of _ (by decide +kernel)) ggX3_readItem_X3_numbersOf
set_option maxRecDepth 20000 in
theorem ggX3_readItem_X3_readNumber : GoodIn wsX3_readItem wsX3_readNumber := goodIn_r _ [15, 16, 1, 2, 3, 4, 5, 6, 7, 17, 18, 10, 19, 47, 48, 49, 50, 51, 52, 53, 54, 55, 56, 45, 46] rfl (by decide +kernel)
set_option maxRecDepth 20000 in
theorem gX3_readItem_X3_readNumber : GoodIn wsX3_readItem (wsV RX3 61 RX3 yX3_readNumber wsX3_readNumber) := goodIn_app (goodIn_of _ (by decide +kernel)) ggX3_readItem_X3_readNumber
set_option maxRecDepth 20000 in
theorem ggX3_readItem_X3_enter : GoodIn wsX3_readItem wsX3_enter := goodIn_r _ [23, 24, 25, 26, 10, 27, 28, 16, 29, 30, 31, 32, 33, 34, 35, 36, 37, 38, 39, 40, 41, 42, 43, 44, 47, 48, 49, 50, 51, 52, 53, 54, 55, 56] rfl (by decide +kernel)
set_option maxRecDepth 20000 in
theorem gX3_readItem_X3_enter : GoodIn wsX3_readItem (wsV RX3 65 RX3 yX3_enter wsX3_enter) := goodIn_app (goodIn_of _ (by decide +kernel)) ggX3_readItem_X3_enter
theorem dX3_readItem_0 : decode cX3_readItem 0 = .ok (.aload_n 1, 1) := by decide +kernel
theorem dX3_readItem_1 : decode cX3_readItem 1 = .ok (.iload_n 2, 1) := by decide +kernel
theorem dX3_readItem_2 : decode cX3_readItem 2 = .ok (.invokevirtual 53, 3) := by decide +kernel
theorem dX3_readItem_5 : decode cX3_readItem 5 = .ok (.istore_n 3, 1) := by decide +kernel
theorem dX3_readItem_6 : decode cX3_readItem 6 = .ok (.iload_n 3, 1) := by decide +kernel
theorem dX3_readItem_7 : decode cX3_readItem 7 = .ok (.invokestatic 57, 3) := by decide +kernel
theorem dX3_readItem_10 : decode cX3_readItem 10 = .ok (.istore 4, 2) := by decide +kernel
theorem dX3_readItem_12 : decode cX3_readItem 12 = .ok (.iload 4, 2) := by decide +kernel
theorem dX3_readItem_14 : decode cX3_readItem 14 = .ok (.ifCond .ne 8, 3) := by decide +kernel
theorem dX3_readItem_17 : decode cX3_readItem 17 = .ok (.bipush (-4), 2) := by decide +kernel
theorem dX3_readItem_19 : decode cX3_readItem 19 = .ok (.goto 6, 3) := by decide +kernel
theorem dX3_readItem_22 : decode cX3_readItem 22 = .ok (.iload_n 2, 1) := by decide +kernel
theorem dX3_readItem_23 : decode cX3_readItem 23 = .ok (.iconst 1, 1) := by decide +kernel
theorem dX3_readItem_24 : decode cX3_readItem 24 = .ok (.iadd, 1) := by decide +kernel
theorem dX3_readItem_25 : decode cX3_readItem 25 = .ok (.istore 5, 2) := by decide +kernel
theorem dX3_readItem_27 : decode cX3_readItem 27 = .ok (.iconst 0, 1) := by decide +kernel
theorem dX3_readItem_28 : decode cX3_readItem 28 = .ok (.istore 6, 2) := by decide +kernel
theorem dX3_readItem_30 : decode cX3_readItem 30 = .ok (.iload 6, 2) := by decide +kernel
theorem dX3_readItem_32 : decode cX3_readItem 32 = .ok (.iload 4, 2) := by decide +kernel
theorem dX3_readItem_34 : decode cX3_readItem 34 = .ok (.if_icmp .ge 42, 3) := by decide +kernel
theorem dX3_readItem_37 : decode cX3_readItem 37 = .ok (.iload 5, 2) := by decide +kernel
theorem dX3_readItem_39 : decode cX3_readItem 39 = .ok (.iload_n 2, 1) := by decide +kernel
theorem dX3_readItem_40 : decode cX3_readItem 40 = .ok (.if_icmp .le 36, 3) := by decide +kernel
theorem dX3_readItem_43 : decode cX3_readItem 43 = .ok (.aload_n 0, 1) := by decide +kernel
theorem dX3_readItem_44 : decode cX3_readItem 44 = .ok (.aload_n 1, 1) := by decide +kernel
theorem dX3_readItem_45 : decode cX3_readItem 45 = .ok (.iload 5, 2) := by decide +kernel
theorem dX3_readItem_47 : decode cX3_readItem 47 = .ok (.iload 6, 2) := by decide +kernel
theorem dX3_readItem_49 : decode cX3_readItem 49 = .ok (.iload 6, 2) := by decide +kernel
theorem dX3_readItem_51 : decode cX3_readItem 51 = .ok (.iconst 1, 1) := by decide +kernel
theorem dX3_readItem_52 : decode cX3_readItem 52 = .ok (.iadd, 1) := by decide +kernel
theorem dX3_readItem_53 : decode cX3_readItem 53 = .ok (.iload 4, 2) := by decide +kernel
theorem dX3_readItem_55 : decode cX3_readItem 55 = .ok (.if_icmp .ge 8, 3) := by decide +kernel
theorem dX3_readItem_58 : decode cX3_readItem 58 = .ok (.bipush 44, 2) := by decide +kernel
theorem dX3_readItem_60 : decode cX3_readItem 60 = .ok (.goto 5, 3) := by decide +kernel
theorem dX3_readItem_63 : decode cX3_readItem 63 = .ok (.bipush 59, 2) := by decide +kernel
theorem dX3_readItem_65 : decode cX3_readItem 65 = .ok (.invokevirtual 61, 3) := by decide +kernel
theorem dX3_readItem_68 : decode cX3_readItem 68 = .ok (.istore 5, 2) := by decide +kernel
theorem dX3_readItem_70 : decode cX3_readItem 70 = .ok (.iinc 6 1, 3) := by decide +kernel
theorem dX3_readItem_73 : decode cX3_readItem 73 = .ok (.goto (-43), 3) := by decide +kernel
theorem dX3_readItem_76 : decode cX3_readItem 76 = .ok (.iload 5, 2) := by decide +kernel
theorem dX3_readItem_78 : decode cX3_readItem 78 = .ok (.iload_n 2, 1) := by decide +kernel
theorem dX3_readItem_79 : decode cX3_readItem 79 = .ok (.if_icmp .le 16, 3) := by decide +kernel
theorem dX3_readItem_82 : decode cX3_readItem 82 = .ok (.aload_n 0, 1) := by decide +kernel
theorem dX3_readItem_83 : decode cX3_readItem 83 = .ok (.iload_n 3, 1) := by decide +kernel
theorem dX3_readItem_84 : decode cX3_readItem 84 = .ok (.invokevirtual 65, 3) := by decide +kernel
theorem dX3_readItem_87 : decode cX3_readItem 87 = .ok (.ifCond .eq 8, 3) := by decide +kernel
theorem dX3_readItem_90 : decode cX3_readItem 90 = .ok (.iload 5, 2) := by decide +kernel
theorem dX3_readItem_92 : decode cX3_readItem 92 = .ok (.goto 5, 3) := by decide +kernel
theorem dX3_readItem_95 : decode cX3_readItem 95 = .ok (.bipush (-4), 2) := by decide +kernel
theorem dX3_readItem_97 : decode cX3_readItem 97 = .ok (.ireturn, 1) := by decide +kernel
theorem dX3_numbersOf_0 : decode cX3_numbersOf 0 = .ok (.iload_n 0, 1) := by decide +kernel
theorem dX3_numbersOf_1 : decode cX3_numbersOf 1 = .ok (.bipush 109, 2) := by decide +kernel
theorem dX3_numbersOf_3 : decode cX3_numbersOf 3 = .ok (.if_icmp .eq 9, 3) := by decide +kernel
theorem dX3_numbersOf_6 : decode cX3_numbersOf 6 = .ok (.iload_n 0, 1) := by decide +kernel
theorem dX3_numbersOf_7 : decode cX3_numbersOf 7 = .ok (.bipush 119, 2) := by decide +kernel
theorem dX3_numbersOf_9 : decode cX3_numbersOf 9 = .ok (.if_icmp .ne 5, 3) := by decide +kernel
theorem dX3_numbersOf_12 : decode cX3_numbersOf 12 = .ok (.iconst 3, 1) := by decide +kernel
theorem dX3_numbersOf_13 : decode cX3_numbersOf 13 = .ok (.ireturn, 1) := by decide +kernel
theorem dX3_numbersOf_14 : decode cX3_numbersOf 14 = .ok (.iload_n 0, 1) := by decide +kernel
theorem dX3_numbersOf_15 : decode cX3_numbersOf 15 = .ok (.bipush 112, 2) := by decide +kernel
theorem dX3_numbersOf_17 : decode cX3_numbersOf 17 = .ok (.if_icmp .ne 5, 3) := by decide +kernel
theorem dX3_numbersOf_20 : decode cX3_numbersOf 20 = .ok (.iconst 2, 1) := by decide +kernel
theorem dX3_numbersOf_21 : decode cX3_numbersOf 21 = .ok (.ireturn, 1) := by decide +kernel
theorem dX3_numbersOf_22 : decode cX3_numbersOf 22 = .ok (.iload_n 0, 1) := by decide +kernel
theorem dX3_numbersOf_23 : decode cX3_numbersOf 23 = .ok (.bipush 108, 2) := by decide +kernel
theorem dX3_numbersOf_25 : decode cX3_numbersOf 25 = .ok (.if_icmp .ne 7, 3) := by decide +kernel
theorem dX3_numbersOf_28 : decode cX3_numbersOf 28 = .ok (.iconst 1, 1) := by decide +kernel
theorem dX3_numbersOf_29 : decode cX3_numbersOf 29 = .ok (.goto 4, 3) := by decide +kernel
theorem dX3_numbersOf_32 : decode cX3_numbersOf 32 = .ok (.iconst 0, 1) := by decide +kernel
theorem dX3_numbersOf_33 : decode cX3_numbersOf 33 = .ok (.ireturn, 1) := by decide +kernel
set_option maxRecDepth 20000 in
theorem ggX3_readNumber_X4_at : GoodIn wsX3_readNumber wsX4_at := goodIn_r _ [6, 7, 8, 23, 24] rfl (by decide +kernel)
set_option maxRecDepth 20000 in
theorem gX3_readNumber_X4_at : GoodIn wsX3_readNumber (wsV RX3 53 RX4 yX4_at wsX4_at) := goodIn_app (goodIn_of _ (by decide +kernel)) ggX3_readNumber_X4_at
set_option maxRecDepth 20000 in
theorem ggX3_readNumber_X3_isFigure : GoodIn wsX3_readNumber wsX3_isFigure := goodIn_r _ [12] rfl (by decide +kernel)
set_option maxRecDepth 20000 in
theorem gX3_readNumber_X3_isFigure : GoodIn wsX3_readNumber (va_wsS RX3 69 yX3_isFigure wsX3_isFigure) := goodIn_app (goodIn_of _ (by decide +kernel)) ggX3_readNumber_X3_isFigure
theorem dX3_readNumber_0 : decode cX3_readNumber 0 = .ok (.iload_n 2, 1) := by decide +kernel
theorem dX3_readNumber_1 : decode cX3_readNumber 1 = .ok (.istore 5, 2) := by decide +kernel
theorem dX3_readNumber_3 : decode cX3_readNumber 3 = .ok (.iconst 0, 1) := by decide +kernel
theorem dX3_readNumber_4 : decode cX3_readNumber 4 = .ok (.istore 6, 2) := by decide +kernel
theorem dX3_readNumber_6 : decode cX3_readNumber 6 = .ok (.iload 5, 2) := by decide +kernel
theorem dX3_readNumber_8 : decode cX3_readNumber 8 = .ok (.iload_n 2, 1) := by decide +kernel
theorem dX3_readNumber_9 : decode cX3_readNumber 9 = .ok (.iconst 2, 1) := by decide +kernel
theorem dX3_readNumber_10 : decode cX3_readNumber 10 = .ok (.iadd, 1) := by decide +kernel
theorem dX3_readNumber_11 : decode cX3_readNumber 11 = .ok (.if_icmp .ge 38, 3) := by decide +kernel
theorem dX3_readNumber_14 : decode cX3_readNumber 14 = .ok (.aload_n 1, 1) := by decide +kernel
theorem dX3_readNumber_15 : decode cX3_readNumber 15 = .ok (.iload 5, 2) := by decide +kernel
theorem dX3_readNumber_17 : decode cX3_readNumber 17 = .ok (.invokevirtual 53, 3) := by decide +kernel
theorem dX3_readNumber_20 : decode cX3_readNumber 20 = .ok (.invokestatic 69, 3) := by decide +kernel
theorem dX3_readNumber_23 : decode cX3_readNumber 23 = .ok (.ifCond .eq 26, 3) := by decide +kernel
theorem dX3_readNumber_26 : decode cX3_readNumber 26 = .ok (.bipush 10, 2) := by decide +kernel
theorem dX3_readNumber_28 : decode cX3_readNumber 28 = .ok (.iload 6, 2) := by decide +kernel
theorem dX3_readNumber_30 : decode cX3_readNumber 30 = .ok (.imul, 1) := by decide +kernel
theorem dX3_readNumber_31 : decode cX3_readNumber 31 = .ok (.aload_n 1, 1) := by decide +kernel
theorem dX3_readNumber_32 : decode cX3_readNumber 32 = .ok (.iload 5, 2) := by decide +kernel
theorem dX3_readNumber_34 : decode cX3_readNumber 34 = .ok (.invokevirtual 53, 3) := by decide +kernel
theorem dX3_readNumber_37 : decode cX3_readNumber 37 = .ok (.iadd, 1) := by decide +kernel
theorem dX3_readNumber_38 : decode cX3_readNumber 38 = .ok (.bipush 48, 2) := by decide +kernel
theorem dX3_readNumber_40 : decode cX3_readNumber 40 = .ok (.isub, 1) := by decide +kernel
theorem dX3_readNumber_41 : decode cX3_readNumber 41 = .ok (.istore 6, 2) := by decide +kernel
theorem dX3_readNumber_43 : decode cX3_readNumber 43 = .ok (.iinc 5 1, 3) := by decide +kernel
theorem dX3_readNumber_46 : decode cX3_readNumber 46 = .ok (.goto (-40), 3) := by decide +kernel
theorem dX3_readNumber_49 : decode cX3_readNumber 49 = .ok (.iload 5, 2) := by decide +kernel
theorem dX3_readNumber_51 : decode cX3_readNumber 51 = .ok (.iload_n 2, 1) := by decide +kernel
theorem dX3_readNumber_52 : decode cX3_readNumber 52 = .ok (.if_icmp .eq 27, 3) := by decide +kernel
theorem dX3_readNumber_55 : decode cX3_readNumber 55 = .ok (.aload_n 1, 1) := by decide +kernel
theorem dX3_readNumber_56 : decode cX3_readNumber 56 = .ok (.iload 5, 2) := by decide +kernel
theorem dX3_readNumber_58 : decode cX3_readNumber 58 = .ok (.invokevirtual 53, 3) := by decide +kernel
theorem dX3_readNumber_61 : decode cX3_readNumber 61 = .ok (.iload 4, 2) := by decide +kernel
theorem dX3_readNumber_63 : decode cX3_readNumber 63 = .ok (.if_icmp .ne 16, 3) := by decide +kernel
theorem dX3_readNumber_66 : decode cX3_readNumber 66 = .ok (.iload_n 3, 1) := by decide +kernel
theorem dX3_readNumber_67 : decode cX3_readNumber 67 = .ok (.ifCond .lt 12, 3) := by decide +kernel
theorem dX3_readNumber_70 : decode cX3_readNumber 70 = .ok (.iload_n 3, 1) := by decide +kernel
theorem dX3_readNumber_71 : decode cX3_readNumber 71 = .ok (.aload_n 0, 1) := by decide +kernel
theorem dX3_readNumber_72 : decode cX3_readNumber 72 = .ok (.getfield 31, 3) := by decide +kernel
theorem dX3_readNumber_75 : decode cX3_readNumber 75 = .ok (.arraylength, 1) := by decide +kernel
theorem dX3_readNumber_76 : decode cX3_readNumber 76 = .ok (.if_icmp .lt 6, 3) := by decide +kernel
theorem dX3_readNumber_79 : decode cX3_readNumber 79 = .ok (.bipush (-4), 2) := by decide +kernel
theorem dX3_readNumber_81 : decode cX3_readNumber 81 = .ok (.ireturn, 1) := by decide +kernel
theorem dX3_readNumber_82 : decode cX3_readNumber 82 = .ok (.aload_n 0, 1) := by decide +kernel
theorem dX3_readNumber_83 : decode cX3_readNumber 83 = .ok (.getfield 31, 3) := by decide +kernel
theorem dX3_readNumber_86 : decode cX3_readNumber 86 = .ok (.iload_n 3, 1) := by decide +kernel
theorem dX3_readNumber_87 : decode cX3_readNumber 87 = .ok (.iload 6, 2) := by decide +kernel
theorem dX3_readNumber_89 : decode cX3_readNumber 89 = .ok (.iastore, 1) := by decide +kernel
theorem dX3_readNumber_90 : decode cX3_readNumber 90 = .ok (.iload 5, 2) := by decide +kernel
theorem dX3_readNumber_92 : decode cX3_readNumber 92 = .ok (.iconst 1, 1) := by decide +kernel
theorem dX3_readNumber_93 : decode cX3_readNumber 93 = .ok (.iadd, 1) := by decide +kernel
theorem dX3_readNumber_94 : decode cX3_readNumber 94 = .ok (.ireturn, 1) := by decide +kernel
theorem dX3_isFigure_0 : decode cX3_isFigure 0 = .ok (.iload_n 0, 1) := by decide +kernel
theorem dX3_isFigure_1 : decode cX3_isFigure 1 = .ok (.bipush 48, 2) := by decide +kernel
theorem dX3_isFigure_3 : decode cX3_isFigure 3 = .ok (.if_icmp .lt 13, 3) := by decide +kernel
theorem dX3_isFigure_6 : decode cX3_isFigure 6 = .ok (.iload_n 0, 1) := by decide +kernel
theorem dX3_isFigure_7 : decode cX3_isFigure 7 = .ok (.bipush 57, 2) := by decide +kernel
theorem dX3_isFigure_9 : decode cX3_isFigure 9 = .ok (.if_icmp .gt 7, 3) := by decide +kernel
theorem dX3_isFigure_12 : decode cX3_isFigure 12 = .ok (.iconst 1, 1) := by decide +kernel
theorem dX3_isFigure_13 : decode cX3_isFigure 13 = .ok (.goto 4, 3) := by decide +kernel
theorem dX3_isFigure_16 : decode cX3_isFigure 16 = .ok (.iconst 0, 1) := by decide +kernel
theorem dX3_isFigure_17 : decode cX3_isFigure 17 = .ok (.ireturn, 1) := by decide +kernel
set_option maxRecDepth 20000 in
theorem ggX3_enter_X3_enterPerson : GoodIn wsX3_enter wsX3_enterPerson := goodIn_r _ [5, 6, 7, 8, 9, 10, 11, 24, 25, 26, 27, 28, 29, 30, 31, 32, 33] rfl (by decide +kernel)
set_option maxRecDepth 20000 in
theorem gX3_enter_X3_enterPerson : GoodIn wsX3_enter (wsV RX3 72 RX3 yX3_enterPerson wsX3_enterPerson) := goodIn_app (goodIn_of _ (by decide +kernel)) ggX3_enter_X3_enterPerson
set_option maxRecDepth 20000 in
theorem ggX3_enter_X3_enterParson : GoodIn wsX3_enter wsX3_enterParson := goodIn_r _ [15, 16, 7, 17, 18, 24, 25, 26, 27, 28, 29, 30, 31, 32, 33] rfl (by decide +kernel)
set_option maxRecDepth 20000 in
theorem gX3_enter_X3_enterParson : GoodIn wsX3_enter (wsV RX3 76 RX3 yX3_enterParson wsX3_enterParson) := goodIn_app (goodIn_of _ (by decide +kernel)) ggX3_enter_X3_enterParson
set_option maxRecDepth 20000 in
theorem ggX3_enter_X3_enterLaw : GoodIn wsX3_enter wsX3_enterLaw := goodIn_r _ [22, 7, 23, 24, 25, 26, 27, 28, 29, 30, 31, 32, 33] rfl (by decide +kernel)
set_option maxRecDepth 20000 in
theorem gX3_enter_X3_enterLaw : GoodIn wsX3_enter (wsV RX3 80 RX3 yX3_enterLaw wsX3_enterLaw) := goodIn_app (goodIn_of _ (by decide +kernel)) ggX3_enter_X3_enterLaw
theorem dX3_enter_0 : decode cX3_enter 0 = .ok (.iload_n 1, 1) := by decide +kernel
theorem dX3_enter_1 : decode cX3_enter 1 = .ok (.bipush 109, 2) := by decide +kernel
theorem dX3_enter_3 : decode cX3_enter 3 = .ok (.if_icmp .eq 9, 3) := by decide +kernel
theorem dX3_enter_6 : decode cX3_enter 6 = .ok (.iload_n 1, 1) := by decide +kernel
theorem dX3_enter_7 : decode cX3_enter 7 = .ok (.bipush 119, 2) := by decide +kernel
theorem dX3_enter_9 : decode cX3_enter 9 = .ok (.if_icmp .ne 19, 3) := by decide +kernel
theorem dX3_enter_12 : decode cX3_enter 12 = .ok (.aload_n 0, 1) := by decide +kernel
theorem dX3_enter_13 : decode cX3_enter 13 = .ok (.iload_n 1, 1) := by decide +kernel
theorem dX3_enter_14 : decode cX3_enter 14 = .ok (.bipush 119, 2) := by decide +kernel
theorem dX3_enter_16 : decode cX3_enter 16 = .ok (.if_icmp .ne 7, 3) := by decide +kernel
theorem dX3_enter_19 : decode cX3_enter 19 = .ok (.iconst 1, 1) := by decide +kernel
theorem dX3_enter_20 : decode cX3_enter 20 = .ok (.goto 4, 3) := by decide +kernel
theorem dX3_enter_23 : decode cX3_enter 23 = .ok (.iconst 0, 1) := by decide +kernel
theorem dX3_enter_24 : decode cX3_enter 24 = .ok (.invokevirtual 72, 3) := by decide +kernel
theorem dX3_enter_27 : decode cX3_enter 27 = .ok (.ireturn, 1) := by decide +kernel
theorem dX3_enter_28 : decode cX3_enter 28 = .ok (.iload_n 1, 1) := by decide +kernel
theorem dX3_enter_29 : decode cX3_enter 29 = .ok (.bipush 112, 2) := by decide +kernel
theorem dX3_enter_31 : decode cX3_enter 31 = .ok (.if_icmp .ne 10, 3) := by decide +kernel
theorem dX3_enter_34 : decode cX3_enter 34 = .ok (.aload_n 0, 1) := by decide +kernel
theorem dX3_enter_35 : decode cX3_enter 35 = .ok (.invokevirtual 76, 3) := by decide +kernel
theorem dX3_enter_38 : decode cX3_enter 38 = .ok (.goto 7, 3) := by decide +kernel
theorem dX3_enter_41 : decode cX3_enter 41 = .ok (.aload_n 0, 1) := by decide +kernel
theorem dX3_enter_42 : decode cX3_enter 42 = .ok (.invokevirtual 80, 3) := by decide +kernel
theorem dX3_enter_45 : decode cX3_enter 45 = .ok (.ireturn, 1) := by decide +kernel
theorem dX3_enterPerson_0 : decode cX3_enterPerson 0 = .ok (.aload_n 0, 1) := by decide +kernel
theorem dX3_enterPerson_1 : decode cX3_enterPerson 1 = .ok (.getfield 34, 3) := by decide +kernel
theorem dX3_enterPerson_4 : decode cX3_enterPerson 4 = .ok (.bipush 8, 2) := by decide +kernel
theorem dX3_enterPerson_6 : decode cX3_enterPerson 6 = .ok (.if_icmp .ge 35, 3) := by decide +kernel
theorem dX3_enterPerson_9 : decode cX3_enterPerson 9 = .ok (.aload_n 0, 1) := by decide +kernel
theorem dX3_enterPerson_10 : decode cX3_enterPerson 10 = .ok (.getfield 31, 3) := by decide +kernel
theorem dX3_enterPerson_13 : decode cX3_enterPerson 13 = .ok (.iconst 0, 1) := by decide +kernel
theorem dX3_enterPerson_14 : decode cX3_enterPerson 14 = .ok (.iaload, 1) := by decide +kernel
theorem dX3_enterPerson_15 : decode cX3_enterPerson 15 = .ok (.iconst 2, 1) := by decide +kernel
theorem dX3_enterPerson_16 : decode cX3_enterPerson 16 = .ok (.if_icmp .gt 25, 3) := by decide +kernel
theorem dX3_enterPerson_19 : decode cX3_enterPerson 19 = .ok (.aload_n 0, 1) := by decide +kernel
theorem dX3_enterPerson_20 : decode cX3_enterPerson 20 = .ok (.getfield 31, 3) := by decide +kernel
theorem dX3_enterPerson_23 : decode cX3_enterPerson 23 = .ok (.iconst 1, 1) := by decide +kernel
theorem dX3_enterPerson_24 : decode cX3_enterPerson 24 = .ok (.iaload, 1) := by decide +kernel
theorem dX3_enterPerson_25 : decode cX3_enterPerson 25 = .ok (.bipush 60, 2) := by decide +kernel
theorem dX3_enterPerson_27 : decode cX3_enterPerson 27 = .ok (.if_icmp .gt 14, 3) := by decide +kernel
theorem dX3_enterPerson_30 : decode cX3_enterPerson 30 = .ok (.aload_n 0, 1) := by decide +kernel
theorem dX3_enterPerson_31 : decode cX3_enterPerson 31 = .ok (.getfield 31, 3) := by decide +kernel
theorem dX3_enterPerson_34 : decode cX3_enterPerson 34 = .ok (.iconst 2, 1) := by decide +kernel
theorem dX3_enterPerson_35 : decode cX3_enterPerson 35 = .ok (.iaload, 1) := by decide +kernel
theorem dX3_enterPerson_36 : decode cX3_enterPerson 36 = .ok (.bipush 60, 2) := by decide +kernel
theorem dX3_enterPerson_38 : decode cX3_enterPerson 38 = .ok (.if_icmp .le 5, 3) := by decide +kernel
theorem dX3_enterPerson_41 : decode cX3_enterPerson 41 = .ok (.iconst 0, 1) := by decide +kernel
theorem dX3_enterPerson_42 : decode cX3_enterPerson 42 = .ok (.ireturn, 1) := by decide +kernel
theorem dX3_enterPerson_43 : decode cX3_enterPerson 43 = .ok (.aload_n 0, 1) := by decide +kernel
theorem dX3_enterPerson_44 : decode cX3_enterPerson 44 = .ok (.getfield 9, 3) := by decide +kernel
theorem dX3_enterPerson_47 : decode cX3_enterPerson 47 = .ok (.aload_n 0, 1) := by decide +kernel
theorem dX3_enterPerson_48 : decode cX3_enterPerson 48 = .ok (.getfield 34, 3) := by decide +kernel
theorem dX3_enterPerson_51 : decode cX3_enterPerson 51 = .ok (.iload_n 1, 1) := by decide +kernel
theorem dX3_enterPerson_52 : decode cX3_enterPerson 52 = .ok (.bastore, 1) := by decide +kernel
theorem dX3_enterPerson_53 : decode cX3_enterPerson 53 = .ok (.aload_n 0, 1) := by decide +kernel
theorem dX3_enterPerson_54 : decode cX3_enterPerson 54 = .ok (.getfield 15, 3) := by decide +kernel
theorem dX3_enterPerson_57 : decode cX3_enterPerson 57 = .ok (.aload_n 0, 1) := by decide +kernel
theorem dX3_enterPerson_58 : decode cX3_enterPerson 58 = .ok (.getfield 34, 3) := by decide +kernel
theorem dX3_enterPerson_61 : decode cX3_enterPerson 61 = .ok (.aload_n 0, 1) := by decide +kernel
theorem dX3_enterPerson_62 : decode cX3_enterPerson 62 = .ok (.getfield 31, 3) := by decide +kernel
theorem dX3_enterPerson_65 : decode cX3_enterPerson 65 = .ok (.iconst 0, 1) := by decide +kernel
theorem dX3_enterPerson_66 : decode cX3_enterPerson 66 = .ok (.iaload, 1) := by decide +kernel
theorem dX3_enterPerson_67 : decode cX3_enterPerson 67 = .ok (.iastore, 1) := by decide +kernel
theorem dX3_enterPerson_68 : decode cX3_enterPerson 68 = .ok (.aload_n 0, 1) := by decide +kernel
theorem dX3_enterPerson_69 : decode cX3_enterPerson 69 = .ok (.getfield 19, 3) := by decide +kernel
theorem dX3_enterPerson_72 : decode cX3_enterPerson 72 = .ok (.aload_n 0, 1) := by decide +kernel
theorem dX3_enterPerson_73 : decode cX3_enterPerson 73 = .ok (.getfield 34, 3) := by decide +kernel
theorem dX3_enterPerson_76 : decode cX3_enterPerson 76 = .ok (.aload_n 0, 1) := by decide +kernel
theorem dX3_enterPerson_77 : decode cX3_enterPerson 77 = .ok (.getfield 31, 3) := by decide +kernel
theorem dX3_enterPerson_80 : decode cX3_enterPerson 80 = .ok (.iconst 1, 1) := by decide +kernel
theorem dX3_enterPerson_81 : decode cX3_enterPerson 81 = .ok (.iaload, 1) := by decide +kernel
theorem dX3_enterPerson_82 : decode cX3_enterPerson 82 = .ok (.iastore, 1) := by decide +kernel
theorem dX3_enterPerson_83 : decode cX3_enterPerson 83 = .ok (.aload_n 0, 1) := by decide +kernel
theorem dX3_enterPerson_84 : decode cX3_enterPerson 84 = .ok (.getfield 22, 3) := by decide +kernel
theorem dX3_enterPerson_87 : decode cX3_enterPerson 87 = .ok (.aload_n 0, 1) := by decide +kernel
theorem dX3_enterPerson_88 : decode cX3_enterPerson 88 = .ok (.getfield 34, 3) := by decide +kernel
theorem dX3_enterPerson_91 : decode cX3_enterPerson 91 = .ok (.aload_n 0, 1) := by decide +kernel
theorem dX3_enterPerson_92 : decode cX3_enterPerson 92 = .ok (.getfield 31, 3) := by decide +kernel
theorem dX3_enterPerson_95 : decode cX3_enterPerson 95 = .ok (.iconst 2, 1) := by decide +kernel
theorem dX3_enterPerson_96 : decode cX3_enterPerson 96 = .ok (.iaload, 1) := by decide +kernel
theorem dX3_enterPerson_97 : decode cX3_enterPerson 97 = .ok (.iastore, 1) := by decide +kernel
theorem dX3_enterPerson_98 : decode cX3_enterPerson 98 = .ok (.aload_n 0, 1) := by decide +kernel
theorem dX3_enterPerson_99 : decode cX3_enterPerson 99 = .ok (.dup, 1) := by decide +kernel
theorem dX3_enterPerson_100 : decode cX3_enterPerson 100 = .ok (.getfield 34, 3) := by decide +kernel
theorem dX3_enterPerson_103 : decode cX3_enterPerson 103 = .ok (.iconst 1, 1) := by decide +kernel
theorem dX3_enterPerson_104 : decode cX3_enterPerson 104 = .ok (.iadd, 1) := by decide +kernel
theorem dX3_enterPerson_105 : decode cX3_enterPerson 105 = .ok (.putfield 34, 3) := by decide +kernel
theorem dX3_enterPerson_108 : decode cX3_enterPerson 108 = .ok (.iconst 1, 1) := by decide +kernel
theorem dX3_enterPerson_109 : decode cX3_enterPerson 109 = .ok (.ireturn, 1) := by decide +kernel
theorem dX3_enterParson_0 : decode cX3_enterParson 0 = .ok (.aload_n 0, 1) := by decide +kernel
theorem dX3_enterParson_1 : decode cX3_enterParson 1 = .ok (.getfield 38, 3) := by decide +kernel
theorem dX3_enterParson_4 : decode cX3_enterParson 4 = .ok (.iconst 3, 1) := by decide +kernel
theorem dX3_enterParson_5 : decode cX3_enterParson 5 = .ok (.if_icmp .ge 24, 3) := by decide +kernel
theorem dX3_enterParson_8 : decode cX3_enterParson 8 = .ok (.aload_n 0, 1) := by decide +kernel
theorem dX3_enterParson_9 : decode cX3_enterParson 9 = .ok (.getfield 31, 3) := by decide +kernel
theorem dX3_enterParson_12 : decode cX3_enterParson 12 = .ok (.iconst 0, 1) := by decide +kernel
theorem dX3_enterParson_13 : decode cX3_enterParson 13 = .ok (.iaload, 1) := by decide +kernel
theorem dX3_enterParson_14 : decode cX3_enterParson 14 = .ok (.iconst 2, 1) := by decide +kernel
theorem dX3_enterParson_15 : decode cX3_enterParson 15 = .ok (.if_icmp .gt 14, 3) := by decide +kernel
theorem dX3_enterParson_18 : decode cX3_enterParson 18 = .ok (.aload_n 0, 1) := by decide +kernel
theorem dX3_enterParson_19 : decode cX3_enterParson 19 = .ok (.getfield 31, 3) := by decide +kernel
theorem dX3_enterParson_22 : decode cX3_enterParson 22 = .ok (.iconst 1, 1) := by decide +kernel
theorem dX3_enterParson_23 : decode cX3_enterParson 23 = .ok (.iaload, 1) := by decide +kernel
theorem dX3_enterParson_24 : decode cX3_enterParson 24 = .ok (.bipush 20, 2) := by decide +kernel
theorem dX3_enterParson_26 : decode cX3_enterParson 26 = .ok (.if_icmp .le 5, 3) := by decide +kernel
theorem dX3_enterParson_29 : decode cX3_enterParson 29 = .ok (.iconst 0, 1) := by decide +kernel
theorem dX3_enterParson_30 : decode cX3_enterParson 30 = .ok (.ireturn, 1) := by decide +kernel
theorem dX3_enterParson_31 : decode cX3_enterParson 31 = .ok (.aload_n 0, 1) := by decide +kernel
theorem dX3_enterParson_32 : decode cX3_enterParson 32 = .ok (.getfield 25, 3) := by decide +kernel
theorem dX3_enterParson_35 : decode cX3_enterParson 35 = .ok (.aload_n 0, 1) := by decide +kernel
theorem dX3_enterParson_36 : decode cX3_enterParson 36 = .ok (.getfield 38, 3) := by decide +kernel
theorem dX3_enterParson_39 : decode cX3_enterParson 39 = .ok (.aload_n 0, 1) := by decide +kernel
theorem dX3_enterParson_40 : decode cX3_enterParson 40 = .ok (.getfield 31, 3) := by decide +kernel
theorem dX3_enterParson_43 : decode cX3_enterParson 43 = .ok (.iconst 0, 1) := by decide +kernel
theorem dX3_enterParson_44 : decode cX3_enterParson 44 = .ok (.iaload, 1) := by decide +kernel
theorem dX3_enterParson_45 : decode cX3_enterParson 45 = .ok (.iastore, 1) := by decide +kernel
theorem dX3_enterParson_46 : decode cX3_enterParson 46 = .ok (.aload_n 0, 1) := by decide +kernel
theorem dX3_enterParson_47 : decode cX3_enterParson 47 = .ok (.getfield 28, 3) := by decide +kernel
theorem dX3_enterParson_50 : decode cX3_enterParson 50 = .ok (.aload_n 0, 1) := by decide +kernel
theorem dX3_enterParson_51 : decode cX3_enterParson 51 = .ok (.getfield 38, 3) := by decide +kernel
theorem dX3_enterParson_54 : decode cX3_enterParson 54 = .ok (.aload_n 0, 1) := by decide +kernel
theorem dX3_enterParson_55 : decode cX3_enterParson 55 = .ok (.getfield 31, 3) := by decide +kernel
theorem dX3_enterParson_58 : decode cX3_enterParson 58 = .ok (.iconst 1, 1) := by decide +kernel
theorem dX3_enterParson_59 : decode cX3_enterParson 59 = .ok (.iaload, 1) := by decide +kernel
theorem dX3_enterParson_60 : decode cX3_enterParson 60 = .ok (.iastore, 1) := by decide +kernel
theorem dX3_enterParson_61 : decode cX3_enterParson 61 = .ok (.aload_n 0, 1) := by decide +kernel
theorem dX3_enterParson_62 : decode cX3_enterParson 62 = .ok (.dup, 1) := by decide +kernel
theorem dX3_enterParson_63 : decode cX3_enterParson 63 = .ok (.getfield 38, 3) := by decide +kernel
theorem dX3_enterParson_66 : decode cX3_enterParson 66 = .ok (.iconst 1, 1) := by decide +kernel
theorem dX3_enterParson_67 : decode cX3_enterParson 67 = .ok (.iadd, 1) := by decide +kernel
theorem dX3_enterParson_68 : decode cX3_enterParson 68 = .ok (.putfield 38, 3) := by decide +kernel
theorem dX3_enterParson_71 : decode cX3_enterParson 71 = .ok (.iconst 1, 1) := by decide +kernel
theorem dX3_enterParson_72 : decode cX3_enterParson 72 = .ok (.ireturn, 1) := by decide +kernel
theorem dX3_enterLaw_0 : decode cX3_enterLaw 0 = .ok (.aload_n 0, 1) := by decide +kernel
theorem dX3_enterLaw_1 : decode cX3_enterLaw 1 = .ok (.getfield 31, 3) := by decide +kernel
theorem dX3_enterLaw_4 : decode cX3_enterLaw 4 = .ok (.iconst 0, 1) := by decide +kernel
theorem dX3_enterLaw_5 : decode cX3_enterLaw 5 = .ok (.iaload, 1) := by decide +kernel
theorem dX3_enterLaw_6 : decode cX3_enterLaw 6 = .ok (.iconst 1, 1) := by decide +kernel
theorem dX3_enterLaw_7 : decode cX3_enterLaw 7 = .ok (.if_icmp .ge 5, 3) := by decide +kernel
theorem dX3_enterLaw_10 : decode cX3_enterLaw 10 = .ok (.iconst 0, 1) := by decide +kernel
theorem dX3_enterLaw_11 : decode cX3_enterLaw 11 = .ok (.ireturn, 1) := by decide +kernel
theorem dX3_enterLaw_12 : decode cX3_enterLaw 12 = .ok (.aload_n 0, 1) := by decide +kernel
theorem dX3_enterLaw_13 : decode cX3_enterLaw 13 = .ok (.aload_n 0, 1) := by decide +kernel
theorem dX3_enterLaw_14 : decode cX3_enterLaw 14 = .ok (.getfield 31, 3) := by decide +kernel
theorem dX3_enterLaw_17 : decode cX3_enterLaw 17 = .ok (.iconst 0, 1) := by decide +kernel
theorem dX3_enterLaw_18 : decode cX3_enterLaw 18 = .ok (.iaload, 1) := by decide +kernel
theorem dX3_enterLaw_19 : decode cX3_enterLaw 19 = .ok (.putfield 41, 3) := by decide +kernel
theorem dX3_enterLaw_22 : decode cX3_enterLaw 22 = .ok (.iconst 1, 1) := by decide +kernel
theorem dX3_enterLaw_23 : decode cX3_enterLaw 23 = .ok (.ireturn, 1) := by decide +kernel
theorem dX3_isPerson_0 : decode cX3_isPerson 0 = .ok (.iload_n 1, 1) := by decide +kernel
theorem dX3_isPerson_1 : decode cX3_isPerson 1 = .ok (.ifCond .lt 15, 3) := by decide +kernel
theorem dX3_isPerson_4 : decode cX3_isPerson 4 = .ok (.iload_n 1, 1) := by decide +kernel
theorem dX3_isPerson_5 : decode cX3_isPerson 5 = .ok (.aload_n 0, 1) := by decide +kernel
theorem dX3_isPerson_6 : decode cX3_isPerson 6 = .ok (.getfield 34, 3) := by decide +kernel
theorem dX3_isPerson_9 : decode cX3_isPerson 9 = .ok (.if_icmp .ge 7, 3) := by decide +kernel
theorem dX3_isPerson_12 : decode cX3_isPerson 12 = .ok (.iconst 1, 1) := by decide +kernel
theorem dX3_isPerson_13 : decode cX3_isPerson 13 = .ok (.goto 4, 3) := by decide +kernel
theorem dX3_isPerson_16 : decode cX3_isPerson 16 = .ok (.iconst 0, 1) := by decide +kernel
theorem dX3_isPerson_17 : decode cX3_isPerson 17 = .ok (.ireturn, 1) := by decide +kernel
theorem dX3_isParson_0 : decode cX3_isParson 0 = .ok (.iload_n 1, 1) := by decide +kernel
theorem dX3_isParson_1 : decode cX3_isParson 1 = .ok (.ifCond .lt 15, 3) := by decide +kernel
theorem dX3_isParson_4 : decode cX3_isParson 4 = .ok (.iload_n 1, 1) := by decide +kernel
theorem dX3_isParson_5 : decode cX3_isParson 5 = .ok (.aload_n 0, 1) := by decide +kernel
theorem dX3_isParson_6 : decode cX3_isParson 6 = .ok (.getfield 38, 3) := by decide +kernel
theorem dX3_isParson_9 : decode cX3_isParson 9 = .ok (.if_icmp .ge 7, 3) := by decide +kernel
theorem dX3_isParson_12 : decode cX3_isParson 12 = .ok (.iconst 1, 1) := by decide +kernel
theorem dX3_isParson_13 : decode cX3_isParson 13 = .ok (.goto 4, 3) := by decide +kernel
theorem dX3_isParson_16 : decode cX3_isParson 16 = .ok (.iconst 0, 1) := by decide +kernel
theorem dX3_isParson_17 : decode cX3_isParson 17 = .ok (.ireturn, 1) := by decide +kernel
theorem dX3_areTwo_0 : decode cX3_areTwo 0 = .ok (.iload_n 1, 1) := by decide +kernel
theorem dX3_areTwo_1 : decode cX3_areTwo 1 = .ok (.iload_n 2, 1) := by decide +kernel
theorem dX3_areTwo_2 : decode cX3_areTwo 2 = .ok (.if_icmp .eq 31, 3) := by decide +kernel
theorem dX3_areTwo_5 : decode cX3_areTwo 5 = .ok (.iload_n 1, 1) := by decide +kernel
theorem dX3_areTwo_6 : decode cX3_areTwo 6 = .ok (.ifCond .lt 27, 3) := by decide +kernel
theorem dX3_areTwo_9 : decode cX3_areTwo 9 = .ok (.iload_n 1, 1) := by decide +kernel
theorem dX3_areTwo_10 : decode cX3_areTwo 10 = .ok (.aload_n 0, 1) := by decide +kernel
theorem dX3_areTwo_11 : decode cX3_areTwo 11 = .ok (.getfield 34, 3) := by decide +kernel
theorem dX3_areTwo_14 : decode cX3_areTwo 14 = .ok (.if_icmp .ge 19, 3) := by decide +kernel
theorem dX3_areTwo_17 : decode cX3_areTwo 17 = .ok (.iload_n 2, 1) := by decide +kernel
theorem dX3_areTwo_18 : decode cX3_areTwo 18 = .ok (.ifCond .lt 15, 3) := by decide +kernel
theorem dX3_areTwo_21 : decode cX3_areTwo 21 = .ok (.iload_n 2, 1) := by decide +kernel
theorem dX3_areTwo_22 : decode cX3_areTwo 22 = .ok (.aload_n 0, 1) := by decide +kernel
theorem dX3_areTwo_23 : decode cX3_areTwo 23 = .ok (.getfield 34, 3) := by decide +kernel
theorem dX3_areTwo_26 : decode cX3_areTwo 26 = .ok (.if_icmp .ge 7, 3) := by decide +kernel
theorem dX3_areTwo_29 : decode cX3_areTwo 29 = .ok (.iconst 1, 1) := by decide +kernel
theorem dX3_areTwo_30 : decode cX3_areTwo 30 = .ok (.goto 4, 3) := by decide +kernel
theorem dX3_areTwo_33 : decode cX3_areTwo 33 = .ok (.iconst 0, 1) := by decide +kernel
theorem dX3_areTwo_34 : decode cX3_areTwo 34 = .ok (.ireturn, 1) := by decide +kernel
set_option maxRecDepth 20000 in
theorem ggX3_canPair_X3_areTwo : GoodIn wsX3_canPair wsX3_areTwo := goodIn_r _ [7, 8, 9, 10, 11, 12, 13, 14, 15, 16, 17, 18] rfl (by decide +kernel)
set_option maxRecDepth 20000 in
theorem gX3_canPair_X3_areTwo : GoodIn wsX3_canPair (wsV RX3 83 RX3 yX3_areTwo wsX3_areTwo) := goodIn_app (goodIn_of _ (by decide +kernel)) ggX3_canPair_X3_areTwo
theorem dX3_canPair_0 : decode cX3_canPair 0 = .ok (.aload_n 0, 1) := by decide +kernel
theorem dX3_canPair_1 : decode cX3_canPair 1 = .ok (.iload_n 1, 1) := by decide +kernel
theorem dX3_canPair_2 : decode cX3_canPair 2 = .ok (.iload_n 2, 1) := by decide +kernel
theorem dX3_canPair_3 : decode cX3_canPair 3 = .ok (.invokevirtual 83, 3) := by decide +kernel
theorem dX3_canPair_6 : decode cX3_canPair 6 = .ok (.ifCond .eq 18, 3) := by decide +kernel
theorem dX3_canPair_9 : decode cX3_canPair 9 = .ok (.aload_n 0, 1) := by decide +kernel
theorem dX3_canPair_10 : decode cX3_canPair 10 = .ok (.getfield 9, 3) := by decide +kernel
theorem dX3_canPair_13 : decode cX3_canPair 13 = .ok (.iload_n 1, 1) := by decide +kernel
theorem dX3_canPair_14 : decode cX3_canPair 14 = .ok (.baload, 1) := by decide +kernel
theorem dX3_canPair_15 : decode cX3_canPair 15 = .ok (.aload_n 0, 1) := by decide +kernel
theorem dX3_canPair_16 : decode cX3_canPair 16 = .ok (.getfield 9, 3) := by decide +kernel
theorem dX3_canPair_19 : decode cX3_canPair 19 = .ok (.iload_n 2, 1) := by decide +kernel
theorem dX3_canPair_20 : decode cX3_canPair 20 = .ok (.baload, 1) := by decide +kernel
theorem dX3_canPair_21 : decode cX3_canPair 21 = .ok (.if_icmp .ne 5, 3) := by decide +kernel
theorem dX3_canPair_24 : decode cX3_canPair 24 = .ok (.iconst 0, 1) := by decide +kernel
theorem dX3_canPair_25 : decode cX3_canPair 25 = .ok (.ireturn, 1) := by decide +kernel
theorem dX3_canPair_26 : decode cX3_canPair 26 = .ok (.aload_n 0, 1) := by decide +kernel
theorem dX3_canPair_27 : decode cX3_canPair 27 = .ok (.getfield 9, 3) := by decide +kernel
theorem dX3_canPair_30 : decode cX3_canPair 30 = .ok (.iload_n 1, 1) := by decide +kernel
theorem dX3_canPair_31 : decode cX3_canPair 31 = .ok (.baload, 1) := by decide +kernel
theorem dX3_canPair_32 : decode cX3_canPair 32 = .ok (.ifCond .eq 7, 3) := by decide +kernel
theorem dX3_canPair_35 : decode cX3_canPair 35 = .ok (.iload_n 2, 1) := by decide +kernel
theorem dX3_canPair_36 : decode cX3_canPair 36 = .ok (.goto 4, 3) := by decide +kernel
theorem dX3_canPair_39 : decode cX3_canPair 39 = .ok (.iload_n 1, 1) := by decide +kernel
theorem dX3_canPair_40 : decode cX3_canPair 40 = .ok (.istore_n 3, 1) := by decide +kernel
theorem dX3_canPair_41 : decode cX3_canPair 41 = .ok (.aload_n 0, 1) := by decide +kernel
theorem dX3_canPair_42 : decode cX3_canPair 42 = .ok (.getfield 9, 3) := by decide +kernel
theorem dX3_canPair_45 : decode cX3_canPair 45 = .ok (.iload_n 1, 1) := by decide +kernel
theorem dX3_canPair_46 : decode cX3_canPair 46 = .ok (.baload, 1) := by decide +kernel
theorem dX3_canPair_47 : decode cX3_canPair 47 = .ok (.ifCond .eq 7, 3) := by decide +kernel
theorem dX3_canPair_50 : decode cX3_canPair 50 = .ok (.iload_n 1, 1) := by decide +kernel
theorem dX3_canPair_51 : decode cX3_canPair 51 = .ok (.goto 4, 3) := by decide +kernel
theorem dX3_canPair_54 : decode cX3_canPair 54 = .ok (.iload_n 2, 1) := by decide +kernel
theorem dX3_canPair_55 : decode cX3_canPair 55 = .ok (.istore 4, 2) := by decide +kernel
theorem dX3_canPair_57 : decode cX3_canPair 57 = .ok (.aload_n 0, 1) := by decide +kernel
theorem dX3_canPair_58 : decode cX3_canPair 58 = .ok (.getfield 15, 3) := by decide +kernel
theorem dX3_canPair_61 : decode cX3_canPair 61 = .ok (.iload 4, 2) := by decide +kernel
theorem dX3_canPair_63 : decode cX3_canPair 63 = .ok (.iaload, 1) := by decide +kernel
theorem dX3_canPair_64 : decode cX3_canPair 64 = .ok (.iconst 2, 1) := by decide +kernel
theorem dX3_canPair_65 : decode cX3_canPair 65 = .ok (.if_icmp .ne 13, 3) := by decide +kernel
theorem dX3_canPair_68 : decode cX3_canPair 68 = .ok (.aload_n 0, 1) := by decide +kernel
theorem dX3_canPair_69 : decode cX3_canPair 69 = .ok (.getfield 15, 3) := by decide +kernel
theorem dX3_canPair_72 : decode cX3_canPair 72 = .ok (.iload_n 3, 1) := by decide +kernel
theorem dX3_canPair_73 : decode cX3_canPair 73 = .ok (.iaload, 1) := by decide +kernel
theorem dX3_canPair_74 : decode cX3_canPair 74 = .ok (.iconst 2, 1) := by decide +kernel
theorem dX3_canPair_75 : decode cX3_canPair 75 = .ok (.if_icmp .ne 7, 3) := by decide +kernel
theorem dX3_canPair_78 : decode cX3_canPair 78 = .ok (.iconst 1, 1) := by decide +kernel
theorem dX3_canPair_79 : decode cX3_canPair 79 = .ok (.goto 4, 3) := by decide +kernel
theorem dX3_canPair_82 : decode cX3_canPair 82 = .ok (.iconst 0, 1) := by decide +kernel
theorem dX3_canPair_83 : decode cX3_canPair 83 = .ok (.ireturn, 1) := by decide +kernel
theorem dX4_init_0 : decode cX4_init 0 = .ok (.aload_n 0, 1) := by decide +kernel
theorem dX4_init_1 : decode cX4_init 1 = .ok (.invokespecial 3, 3) := by decide +kernel
theorem dX4_init_4 : decode cX4_init 4 = .ok (.aload_n 0, 1) := by decide +kernel
theorem dX4_init_5 : decode cX4_init 5 = .ok (.sipush 200, 3) := by decide +kernel
theorem dX4_init_8 : decode cX4_init 8 = .ok (.newarray .char, 2) := by decide +kernel
theorem dX4_init_10 : decode cX4_init 10 = .ok (.putfield 9, 3) := by decide +kernel
theorem dX4_init_13 : decode cX4_init 13 = .ok (.return_, 1) := by decide +kernel
theorem dX4_add_0 : decode cX4_add 0 = .ok (.aload_n 0, 1) := by decide +kernel
theorem dX4_add_1 : decode cX4_add 1 = .ok (.getfield 15, 3) := by decide +kernel
theorem dX4_add_4 : decode cX4_add 4 = .ok (.ifCond .lt 15, 3) := by decide +kernel
theorem dX4_add_7 : decode cX4_add 7 = .ok (.aload_n 0, 1) := by decide +kernel
theorem dX4_add_8 : decode cX4_add 8 = .ok (.getfield 15, 3) := by decide +kernel
theorem dX4_add_11 : decode cX4_add 11 = .ok (.aload_n 0, 1) := by decide +kernel
theorem dX4_add_12 : decode cX4_add 12 = .ok (.getfield 9, 3) := by decide +kernel
theorem dX4_add_15 : decode cX4_add 15 = .ok (.arraylength, 1) := by decide +kernel
theorem dX4_add_16 : decode cX4_add 16 = .ok (.if_icmp .lt 5, 3) := by decide +kernel
theorem dX4_add_19 : decode cX4_add 19 = .ok (.iconst 0, 1) := by decide +kernel
theorem dX4_add_20 : decode cX4_add 20 = .ok (.ireturn, 1) := by decide +kernel
theorem dX4_add_21 : decode cX4_add 21 = .ok (.aload_n 0, 1) := by decide +kernel
theorem dX4_add_22 : decode cX4_add 22 = .ok (.getfield 9, 3) := by decide +kernel
theorem dX4_add_25 : decode cX4_add 25 = .ok (.aload_n 0, 1) := by decide +kernel
theorem dX4_add_26 : decode cX4_add 26 = .ok (.getfield 15, 3) := by decide +kernel
theorem dX4_add_29 : decode cX4_add 29 = .ok (.iload_n 1, 1) := by decide +kernel
theorem dX4_add_30 : decode cX4_add 30 = .ok (.castore, 1) := by decide +kernel
theorem dX4_add_31 : decode cX4_add 31 = .ok (.aload_n 0, 1) := by decide +kernel
theorem dX4_add_32 : decode cX4_add 32 = .ok (.dup, 1) := by decide +kernel
theorem dX4_add_33 : decode cX4_add 33 = .ok (.getfield 15, 3) := by decide +kernel
theorem dX4_add_36 : decode cX4_add 36 = .ok (.iconst 1, 1) := by decide +kernel
theorem dX4_add_37 : decode cX4_add 37 = .ok (.iadd, 1) := by decide +kernel
theorem dX4_add_38 : decode cX4_add 38 = .ok (.putfield 15, 3) := by decide +kernel
theorem dX4_add_41 : decode cX4_add 41 = .ok (.iconst 1, 1) := by decide +kernel
theorem dX4_add_42 : decode cX4_add 42 = .ok (.ireturn, 1) := by decide +kernel
theorem dX4_at_0 : decode cX4_at 0 = .ok (.iload_n 1, 1) := by decide +kernel
theorem dX4_at_1 : decode cX4_at 1 = .ok (.ifCond .lt 29, 3) := by decide +kernel
theorem dX4_at_4 : decode cX4_at 4 = .ok (.iload_n 1, 1) := by decide +kernel
theorem dX4_at_5 : decode cX4_at 5 = .ok (.aload_n 0, 1) := by decide +kernel
theorem dX4_at_6 : decode cX4_at 6 = .ok (.getfield 15, 3) := by decide +kernel
theorem dX4_at_9 : decode cX4_at 9 = .ok (.if_icmp .ge 21, 3) := by decide +kernel
theorem dX4_at_12 : decode cX4_at 12 = .ok (.iload_n 1, 1) := by decide +kernel
theorem dX4_at_13 : decode cX4_at 13 = .ok (.aload_n 0, 1) := by decide +kernel
theorem dX4_at_14 : decode cX4_at 14 = .ok (.getfield 9, 3) := by decide +kernel
theorem dX4_at_17 : decode cX4_at 17 = .ok (.arraylength, 1) := by decide +kernel
theorem dX4_at_18 : decode cX4_at 18 = .ok (.if_icmp .ge 12, 3) := by decide +kernel
theorem dX4_at_21 : decode cX4_at 21 = .ok (.aload_n 0, 1) := by decide +kernel
theorem dX4_at_22 : decode cX4_at 22 = .ok (.getfield 9, 3) := by decide +kernel
theorem dX4_at_25 : decode cX4_at 25 = .ok (.iload_n 1, 1) := by decide +kernel
theorem dX4_at_26 : decode cX4_at 26 = .ok (.caload, 1) := by decide +kernel
theorem dX4_at_27 : decode cX4_at 27 = .ok (.goto 4, 3) := by decide +kernel
theorem dX4_at_30 : decode cX4_at 30 = .ok (.iconst 0, 1) := by decide +kernel
theorem dX4_at_31 : decode cX4_at 31 = .ok (.ireturn, 1) := by decide +kernel
set_option maxRecDepth 20000 in
theorem ggX5_init_X0_init : GoodIn wsX5_init wsX0_init := goodIn_r _ [9, 10, 2, 3, 11, 12, 13, 14, 15, 16, 17, 18, 19, 22, 23, 24, 25, 26, 27, 28, 29, 30] rfl (by decide +kernel)
set_option maxRecDepth 20000 in
theorem gX5_init_X0_init_n15 : GoodIn wsX5_init (wsX0_init) := ggX5_init_X0_init
theorem dX5_init_0 : decode cX5_init 0 = .ok (.aload_n 0, 1) := by decide +kernel
theorem dX5_init_1 : decode cX5_init 1 = .ok (.invokespecial 1, 3) := by decide +kernel
theorem dX5_init_4 : decode cX5_init 4 = .ok (.aload_n 0, 1) := by decide +kernel
theorem dX5_init_5 : decode cX5_init 5 = .ok (.iload_n 1, 1) := by decide +kernel
theorem dX5_init_6 : decode cX5_init 6 = .ok (.ifCond .ge 7, 3) := by decide +kernel
theorem dX5_init_9 : decode cX5_init 9 = .ok (.iconst 0, 1) := by decide +kernel
theorem dX5_init_10 : decode cX5_init 10 = .ok (.goto 4, 3) := by decide +kernel
theorem dX5_init_13 : decode cX5_init 13 = .ok (.iload_n 1, 1) := by decide +kernel
theorem dX5_init_14 : decode cX5_init 14 = .ok (.anewarray 7, 3) := by decide +kernel
theorem dX5_init_17 : decode cX5_init 17 = .ok (.putfield 9, 3) := by decide +kernel
theorem dX5_init_20 : decode cX5_init 20 = .ok (.iconst 0, 1) := by decide +kernel
theorem dX5_init_21 : decode cX5_init 21 = .ok (.istore_n 2, 1) := by decide +kernel
theorem dX5_init_22 : decode cX5_init 22 = .ok (.iload_n 2, 1) := by decide +kernel
theorem dX5_init_23 : decode cX5_init 23 = .ok (.aload_n 0, 1) := by decide +kernel
theorem dX5_init_24 : decode cX5_init 24 = .ok (.getfield 9, 3) := by decide +kernel
theorem dX5_init_27 : decode cX5_init 27 = .ok (.arraylength, 1) := by decide +kernel
theorem dX5_init_28 : decode cX5_init 28 = .ok (.if_icmp .ge 22, 3) := by decide +kernel
theorem dX5_init_31 : decode cX5_init 31 = .ok (.aload_n 0, 1) := by decide +kernel
theorem dX5_init_32 : decode cX5_init 32 = .ok (.getfield 9, 3) := by decide +kernel
theorem dX5_init_35 : decode cX5_init 35 = .ok (.iload_n 2, 1) := by decide +kernel
theorem dX5_init_36 : decode cX5_init 36 = .ok (.new 7, 3) := by decide +kernel
theorem dX5_init_39 : decode cX5_init 39 = .ok (.dup, 1) := by decide +kernel
theorem dX5_init_40 : decode cX5_init 40 = .ok (.invokespecial 15, 3) := by decide +kernel
theorem dX5_init_43 : decode cX5_init 43 = .ok (.aastore, 1) := by decide +kernel
theorem dX5_init_44 : decode cX5_init 44 = .ok (.iinc 2 1, 3) := by decide +kernel
theorem dX5_init_47 : decode cX5_init 47 = .ok (.goto (-25), 3) := by decide +kernel
theorem dX5_init_50 : decode cX5_init 50 = .ok (.return_, 1) := by decide +kernel
set_option maxRecDepth 20000 in
theorem ggX5_put_X5_dropOldest : GoodIn wsX5_put wsX5_dropOldest := goodIn_r _ [7, 2, 1, 26, 27] rfl (by decide +kernel)
set_option maxRecDepth 20000 in
theorem gX5_put_X5_dropOldest : GoodIn wsX5_put (wsV RX5 20 RX5 yX5_dropOldest wsX5_dropOldest) := goodIn_app (goodIn_of _ (by decide +kernel)) ggX5_put_X5_dropOldest
set_option maxRecDepth 20000 in
theorem ggX5_put_X0_copyFrom : GoodIn wsX5_put wsX0_copyFrom := goodIn_r _ [12, 13, 14, 15, 16, 17, 18, 19, 20, 21, 22, 23, 24, 25, 28, 29, 30, 31, 32, 33, 34, 35, 36] rfl (by decide +kernel)
set_option maxRecDepth 20000 in
theorem gX5_put_X0_copyFrom : GoodIn wsX5_put (wsV RX5 23 RX0 yX0_copyFrom wsX0_copyFrom) := goodIn_app (goodIn_of _ (by decide +kernel)) ggX5_put_X0_copyFrom
theorem dX5_put_0 : decode cX5_put 0 = .ok (.aload_n 0, 1) := by decide +kernel
theorem dX5_put_1 : decode cX5_put 1 = .ok (.getfield 16, 3) := by decide +kernel
theorem dX5_put_4 : decode cX5_put 4 = .ok (.aload_n 0, 1) := by decide +kernel
theorem dX5_put_5 : decode cX5_put 5 = .ok (.getfield 9, 3) := by decide +kernel
theorem dX5_put_8 : decode cX5_put 8 = .ok (.arraylength, 1) := by decide +kernel
theorem dX5_put_9 : decode cX5_put 9 = .ok (.if_icmp .lt 7, 3) := by decide +kernel
theorem dX5_put_12 : decode cX5_put 12 = .ok (.aload_n 0, 1) := by decide +kernel
theorem dX5_put_13 : decode cX5_put 13 = .ok (.invokevirtual 20, 3) := by decide +kernel
theorem dX5_put_16 : decode cX5_put 16 = .ok (.aload_n 0, 1) := by decide +kernel
theorem dX5_put_17 : decode cX5_put 17 = .ok (.getfield 16, 3) := by decide +kernel
theorem dX5_put_20 : decode cX5_put 20 = .ok (.ifCond .lt 38, 3) := by decide +kernel
theorem dX5_put_23 : decode cX5_put 23 = .ok (.aload_n 0, 1) := by decide +kernel
theorem dX5_put_24 : decode cX5_put 24 = .ok (.getfield 16, 3) := by decide +kernel
theorem dX5_put_27 : decode cX5_put 27 = .ok (.aload_n 0, 1) := by decide +kernel
theorem dX5_put_28 : decode cX5_put 28 = .ok (.getfield 9, 3) := by decide +kernel
theorem dX5_put_31 : decode cX5_put 31 = .ok (.arraylength, 1) := by decide +kernel
theorem dX5_put_32 : decode cX5_put 32 = .ok (.if_icmp .ge 26, 3) := by decide +kernel
theorem dX5_put_35 : decode cX5_put 35 = .ok (.aload_n 0, 1) := by decide +kernel
theorem dX5_put_36 : decode cX5_put 36 = .ok (.getfield 9, 3) := by decide +kernel
theorem dX5_put_39 : decode cX5_put 39 = .ok (.aload_n 0, 1) := by decide +kernel
theorem dX5_put_40 : decode cX5_put 40 = .ok (.getfield 16, 3) := by decide +kernel
theorem dX5_put_43 : decode cX5_put 43 = .ok (.aaload, 1) := by decide +kernel
theorem dX5_put_44 : decode cX5_put 44 = .ok (.aload_n 1, 1) := by decide +kernel
theorem dX5_put_45 : decode cX5_put 45 = .ok (.invokevirtual 23, 3) := by decide +kernel
theorem dX5_put_48 : decode cX5_put 48 = .ok (.aload_n 0, 1) := by decide +kernel
theorem dX5_put_49 : decode cX5_put 49 = .ok (.dup, 1) := by decide +kernel
theorem dX5_put_50 : decode cX5_put 50 = .ok (.getfield 16, 3) := by decide +kernel
theorem dX5_put_53 : decode cX5_put 53 = .ok (.iconst 1, 1) := by decide +kernel
theorem dX5_put_54 : decode cX5_put 54 = .ok (.iadd, 1) := by decide +kernel
theorem dX5_put_55 : decode cX5_put 55 = .ok (.putfield 16, 3) := by decide +kernel
theorem dX5_put_58 : decode cX5_put 58 = .ok (.return_, 1) := by decide +kernel
