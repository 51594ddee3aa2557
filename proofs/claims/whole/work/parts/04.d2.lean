theorem dX5_dropOldest_0 : decode cX5_dropOldest 0 = .ok (.aload_n 0, 1) := by decide +kernel
theorem dX5_dropOldest_1 : decode cX5_dropOldest 1 = .ok (.getfield 9, 3) := by decide +kernel
theorem dX5_dropOldest_4 : decode cX5_dropOldest 4 = .ok (.arraylength, 1) := by decide +kernel
theorem dX5_dropOldest_5 : decode cX5_dropOldest 5 = .ok (.ifCond .ne 4, 3) := by decide +kernel
theorem dX5_dropOldest_8 : decode cX5_dropOldest 8 = .ok (.return_, 1) := by decide +kernel
theorem dX5_dropOldest_9 : decode cX5_dropOldest 9 = .ok (.aload_n 0, 1) := by decide +kernel
theorem dX5_dropOldest_10 : decode cX5_dropOldest 10 = .ok (.getfield 9, 3) := by decide +kernel
theorem dX5_dropOldest_13 : decode cX5_dropOldest 13 = .ok (.iconst 0, 1) := by decide +kernel
theorem dX5_dropOldest_14 : decode cX5_dropOldest 14 = .ok (.aaload, 1) := by decide +kernel
theorem dX5_dropOldest_15 : decode cX5_dropOldest 15 = .ok (.astore_n 1, 1) := by decide +kernel
theorem dX5_dropOldest_16 : decode cX5_dropOldest 16 = .ok (.iconst 1, 1) := by decide +kernel
theorem dX5_dropOldest_17 : decode cX5_dropOldest 17 = .ok (.istore_n 2, 1) := by decide +kernel
theorem dX5_dropOldest_18 : decode cX5_dropOldest 18 = .ok (.iload_n 2, 1) := by decide +kernel
theorem dX5_dropOldest_19 : decode cX5_dropOldest 19 = .ok (.aload_n 0, 1) := by decide +kernel
theorem dX5_dropOldest_20 : decode cX5_dropOldest 20 = .ok (.getfield 9, 3) := by decide +kernel
theorem dX5_dropOldest_23 : decode cX5_dropOldest 23 = .ok (.arraylength, 1) := by decide +kernel
theorem dX5_dropOldest_24 : decode cX5_dropOldest 24 = .ok (.if_icmp .ge 23, 3) := by decide +kernel
theorem dX5_dropOldest_27 : decode cX5_dropOldest 27 = .ok (.aload_n 0, 1) := by decide +kernel
theorem dX5_dropOldest_28 : decode cX5_dropOldest 28 = .ok (.getfield 9, 3) := by decide +kernel
theorem dX5_dropOldest_31 : decode cX5_dropOldest 31 = .ok (.iload_n 2, 1) := by decide +kernel
theorem dX5_dropOldest_32 : decode cX5_dropOldest 32 = .ok (.iconst 1, 1) := by decide +kernel
theorem dX5_dropOldest_33 : decode cX5_dropOldest 33 = .ok (.isub, 1) := by decide +kernel
theorem dX5_dropOldest_34 : decode cX5_dropOldest 34 = .ok (.aload_n 0, 1) := by decide +kernel
theorem dX5_dropOldest_35 : decode cX5_dropOldest 35 = .ok (.getfield 9, 3) := by decide +kernel
theorem dX5_dropOldest_38 : decode cX5_dropOldest 38 = .ok (.iload_n 2, 1) := by decide +kernel
theorem dX5_dropOldest_39 : decode cX5_dropOldest 39 = .ok (.aaload, 1) := by decide +kernel
theorem dX5_dropOldest_40 : decode cX5_dropOldest 40 = .ok (.aastore, 1) := by decide +kernel
theorem dX5_dropOldest_41 : decode cX5_dropOldest 41 = .ok (.iinc 2 1, 3) := by decide +kernel
theorem dX5_dropOldest_44 : decode cX5_dropOldest 44 = .ok (.goto (-26), 3) := by decide +kernel
theorem dX5_dropOldest_47 : decode cX5_dropOldest 47 = .ok (.aload_n 0, 1) := by decide +kernel
theorem dX5_dropOldest_48 : decode cX5_dropOldest 48 = .ok (.getfield 9, 3) := by decide +kernel
theorem dX5_dropOldest_51 : decode cX5_dropOldest 51 = .ok (.aload_n 0, 1) := by decide +kernel
theorem dX5_dropOldest_52 : decode cX5_dropOldest 52 = .ok (.getfield 9, 3) := by decide +kernel
theorem dX5_dropOldest_55 : decode cX5_dropOldest 55 = .ok (.arraylength, 1) := by decide +kernel
theorem dX5_dropOldest_56 : decode cX5_dropOldest 56 = .ok (.iconst 1, 1) := by decide +kernel
theorem dX5_dropOldest_57 : decode cX5_dropOldest 57 = .ok (.isub, 1) := by decide +kernel
theorem dX5_dropOldest_58 : decode cX5_dropOldest 58 = .ok (.aload_n 1, 1) := by decide +kernel
theorem dX5_dropOldest_59 : decode cX5_dropOldest 59 = .ok (.aastore, 1) := by decide +kernel
theorem dX5_dropOldest_60 : decode cX5_dropOldest 60 = .ok (.aload_n 0, 1) := by decide +kernel
theorem dX5_dropOldest_61 : decode cX5_dropOldest 61 = .ok (.aload_n 0, 1) := by decide +kernel
theorem dX5_dropOldest_62 : decode cX5_dropOldest 62 = .ok (.getfield 9, 3) := by decide +kernel
theorem dX5_dropOldest_65 : decode cX5_dropOldest 65 = .ok (.arraylength, 1) := by decide +kernel
theorem dX5_dropOldest_66 : decode cX5_dropOldest 66 = .ok (.iconst 1, 1) := by decide +kernel
theorem dX5_dropOldest_67 : decode cX5_dropOldest 67 = .ok (.isub, 1) := by decide +kernel
theorem dX5_dropOldest_68 : decode cX5_dropOldest 68 = .ok (.putfield 16, 3) := by decide +kernel
theorem dX5_dropOldest_71 : decode cX5_dropOldest 71 = .ok (.return_, 1) := by decide +kernel
set_option maxRecDepth 20000 in
theorem ggX5_takeInto_X0_copyFrom : GoodIn wsX5_takeInto wsX0_copyFrom := goodIn_r _ [7, 8, 9, 10, 11, 12, 13, 14, 15, 16, 17, 18, 19, 20, 23, 24, 25, 26, 27, 28, 29, 30, 31] rfl (by decide +kernel)
set_option maxRecDepth 20000 in
theorem gX5_takeInto_X0_copyFrom : GoodIn wsX5_takeInto (wsV RX5 23 RX0 yX0_copyFrom wsX0_copyFrom) := goodIn_app (goodIn_of _ (by decide +kernel)) ggX5_takeInto_X0_copyFrom
theorem dX5_takeInto_0 : decode cX5_takeInto 0 = .ok (.aload_n 0, 1) := by decide +kernel
theorem dX5_takeInto_1 : decode cX5_takeInto 1 = .ok (.getfield 16, 3) := by decide +kernel
theorem dX5_takeInto_4 : decode cX5_takeInto 4 = .ok (.iconst 1, 1) := by decide +kernel
theorem dX5_takeInto_5 : decode cX5_takeInto 5 = .ok (.if_icmp .lt 15, 3) := by decide +kernel
theorem dX5_takeInto_8 : decode cX5_takeInto 8 = .ok (.aload_n 0, 1) := by decide +kernel
theorem dX5_takeInto_9 : decode cX5_takeInto 9 = .ok (.getfield 16, 3) := by decide +kernel
theorem dX5_takeInto_12 : decode cX5_takeInto 12 = .ok (.aload_n 0, 1) := by decide +kernel
theorem dX5_takeInto_13 : decode cX5_takeInto 13 = .ok (.getfield 9, 3) := by decide +kernel
theorem dX5_takeInto_16 : decode cX5_takeInto 16 = .ok (.arraylength, 1) := by decide +kernel
theorem dX5_takeInto_17 : decode cX5_takeInto 17 = .ok (.if_icmp .le 5, 3) := by decide +kernel
theorem dX5_takeInto_20 : decode cX5_takeInto 20 = .ok (.iconst 0, 1) := by decide +kernel
theorem dX5_takeInto_21 : decode cX5_takeInto 21 = .ok (.ireturn, 1) := by decide +kernel
theorem dX5_takeInto_22 : decode cX5_takeInto 22 = .ok (.aload_n 0, 1) := by decide +kernel
theorem dX5_takeInto_23 : decode cX5_takeInto 23 = .ok (.dup, 1) := by decide +kernel
theorem dX5_takeInto_24 : decode cX5_takeInto 24 = .ok (.getfield 16, 3) := by decide +kernel
theorem dX5_takeInto_27 : decode cX5_takeInto 27 = .ok (.iconst 1, 1) := by decide +kernel
theorem dX5_takeInto_28 : decode cX5_takeInto 28 = .ok (.isub, 1) := by decide +kernel
theorem dX5_takeInto_29 : decode cX5_takeInto 29 = .ok (.putfield 16, 3) := by decide +kernel
theorem dX5_takeInto_32 : decode cX5_takeInto 32 = .ok (.aload_n 1, 1) := by decide +kernel
theorem dX5_takeInto_33 : decode cX5_takeInto 33 = .ok (.aload_n 0, 1) := by decide +kernel
theorem dX5_takeInto_34 : decode cX5_takeInto 34 = .ok (.getfield 9, 3) := by decide +kernel
theorem dX5_takeInto_37 : decode cX5_takeInto 37 = .ok (.aload_n 0, 1) := by decide +kernel
theorem dX5_takeInto_38 : decode cX5_takeInto 38 = .ok (.getfield 16, 3) := by decide +kernel
theorem dX5_takeInto_41 : decode cX5_takeInto 41 = .ok (.aaload, 1) := by decide +kernel
theorem dX5_takeInto_42 : decode cX5_takeInto 42 = .ok (.invokevirtual 23, 3) := by decide +kernel
theorem dX5_takeInto_45 : decode cX5_takeInto 45 = .ok (.iconst 1, 1) := by decide +kernel
theorem dX5_takeInto_46 : decode cX5_takeInto 46 = .ok (.ireturn, 1) := by decide +kernel
theorem dX6_init_0 : decode cX6_init 0 = .ok (.aload_n 0, 1) := by decide +kernel
theorem dX6_init_1 : decode cX6_init 1 = .ok (.invokespecial 3, 3) := by decide +kernel
theorem dX6_init_4 : decode cX6_init 4 = .ok (.aload_n 0, 1) := by decide +kernel
theorem dX6_init_5 : decode cX6_init 5 = .ok (.bipush 6, 2) := by decide +kernel
theorem dX6_init_7 : decode cX6_init 7 = .ok (.newarray .int, 2) := by decide +kernel
theorem dX6_init_9 : decode cX6_init 9 = .ok (.putfield 9, 3) := by decide +kernel
theorem dX6_init_12 : decode cX6_init 12 = .ok (.aload_n 0, 1) := by decide +kernel
theorem dX6_init_13 : decode cX6_init 13 = .ok (.bipush 6, 2) := by decide +kernel
theorem dX6_init_15 : decode cX6_init 15 = .ok (.newarray .int, 2) := by decide +kernel
theorem dX6_init_17 : decode cX6_init 17 = .ok (.putfield 15, 3) := by decide +kernel
theorem dX6_init_20 : decode cX6_init 20 = .ok (.aload_n 0, 1) := by decide +kernel
theorem dX6_init_21 : decode cX6_init 21 = .ok (.bipush 6, 2) := by decide +kernel
theorem dX6_init_23 : decode cX6_init 23 = .ok (.newarray .int, 2) := by decide +kernel
theorem dX6_init_25 : decode cX6_init 25 = .ok (.putfield 18, 3) := by decide +kernel
theorem dX6_init_28 : decode cX6_init 28 = .ok (.aload_n 0, 1) := by decide +kernel
theorem dX6_init_29 : decode cX6_init 29 = .ok (.bipush 6, 2) := by decide +kernel
theorem dX6_init_31 : decode cX6_init 31 = .ok (.newarray .boolean, 2) := by decide +kernel
theorem dX6_init_33 : decode cX6_init 33 = .ok (.putfield 21, 3) := by decide +kernel
theorem dX6_init_36 : decode cX6_init 36 = .ok (.return_, 1) := by decide +kernel
theorem dX6_add_0 : decode cX6_add 0 = .ok (.aload_n 0, 1) := by decide +kernel
theorem dX6_add_1 : decode cX6_add 1 = .ok (.getfield 25, 3) := by decide +kernel
theorem dX6_add_4 : decode cX6_add 4 = .ok (.ifCond .lt 12, 3) := by decide +kernel
theorem dX6_add_7 : decode cX6_add 7 = .ok (.aload_n 0, 1) := by decide +kernel
theorem dX6_add_8 : decode cX6_add 8 = .ok (.getfield 25, 3) := by decide +kernel
theorem dX6_add_11 : decode cX6_add 11 = .ok (.bipush 6, 2) := by decide +kernel
theorem dX6_add_13 : decode cX6_add 13 = .ok (.if_icmp .lt 5, 3) := by decide +kernel
theorem dX6_add_16 : decode cX6_add 16 = .ok (.iconst 0, 1) := by decide +kernel
theorem dX6_add_17 : decode cX6_add 17 = .ok (.ireturn, 1) := by decide +kernel
theorem dX6_add_18 : decode cX6_add 18 = .ok (.aload_n 0, 1) := by decide +kernel
theorem dX6_add_19 : decode cX6_add 19 = .ok (.getfield 9, 3) := by decide +kernel
theorem dX6_add_22 : decode cX6_add 22 = .ok (.aload_n 0, 1) := by decide +kernel
theorem dX6_add_23 : decode cX6_add 23 = .ok (.getfield 25, 3) := by decide +kernel
theorem dX6_add_26 : decode cX6_add 26 = .ok (.iload_n 1, 1) := by decide +kernel
theorem dX6_add_27 : decode cX6_add 27 = .ok (.iastore, 1) := by decide +kernel
theorem dX6_add_28 : decode cX6_add 28 = .ok (.aload_n 0, 1) := by decide +kernel
theorem dX6_add_29 : decode cX6_add 29 = .ok (.getfield 15, 3) := by decide +kernel
theorem dX6_add_32 : decode cX6_add 32 = .ok (.aload_n 0, 1) := by decide +kernel
theorem dX6_add_33 : decode cX6_add 33 = .ok (.getfield 25, 3) := by decide +kernel
theorem dX6_add_36 : decode cX6_add 36 = .ok (.iload_n 2, 1) := by decide +kernel
theorem dX6_add_37 : decode cX6_add 37 = .ok (.iastore, 1) := by decide +kernel
theorem dX6_add_38 : decode cX6_add 38 = .ok (.aload_n 0, 1) := by decide +kernel
theorem dX6_add_39 : decode cX6_add 39 = .ok (.getfield 18, 3) := by decide +kernel
theorem dX6_add_42 : decode cX6_add 42 = .ok (.aload_n 0, 1) := by decide +kernel
theorem dX6_add_43 : decode cX6_add 43 = .ok (.getfield 25, 3) := by decide +kernel
theorem dX6_add_46 : decode cX6_add 46 = .ok (.iload_n 3, 1) := by decide +kernel
theorem dX6_add_47 : decode cX6_add 47 = .ok (.iastore, 1) := by decide +kernel
theorem dX6_add_48 : decode cX6_add 48 = .ok (.aload_n 0, 1) := by decide +kernel
theorem dX6_add_49 : decode cX6_add 49 = .ok (.getfield 21, 3) := by decide +kernel
theorem dX6_add_52 : decode cX6_add 52 = .ok (.aload_n 0, 1) := by decide +kernel
theorem dX6_add_53 : decode cX6_add 53 = .ok (.getfield 25, 3) := by decide +kernel
theorem dX6_add_56 : decode cX6_add 56 = .ok (.iload 4, 2) := by decide +kernel
theorem dX6_add_58 : decode cX6_add 58 = .ok (.bastore, 1) := by decide +kernel
theorem dX6_add_59 : decode cX6_add 59 = .ok (.aload_n 0, 1) := by decide +kernel
theorem dX6_add_60 : decode cX6_add 60 = .ok (.dup, 1) := by decide +kernel
theorem dX6_add_61 : decode cX6_add 61 = .ok (.getfield 25, 3) := by decide +kernel
theorem dX6_add_64 : decode cX6_add 64 = .ok (.iconst 1, 1) := by decide +kernel
theorem dX6_add_65 : decode cX6_add 65 = .ok (.iadd, 1) := by decide +kernel
theorem dX6_add_66 : decode cX6_add 66 = .ok (.putfield 25, 3) := by decide +kernel
theorem dX6_add_69 : decode cX6_add 69 = .ok (.iconst 1, 1) := by decide +kernel
theorem dX6_add_70 : decode cX6_add 70 = .ok (.ireturn, 1) := by decide +kernel
set_option maxRecDepth 20000 in
theorem ggX6_areSo_X1_mateOf : GoodIn wsX6_areSo wsX1_mateOf := goodIn_r _ [10, 11, 12, 13, 14, 15, 16, 17, 9, 18, 19, 20, 21, 22, 23, 24, 25, 26, 27, 28, 29, 35, 36, 37, 38, 39, 40, 41, 42, 43, 44, 45, 46] rfl (by decide +kernel)
set_option maxRecDepth 20000 in
theorem gX6_areSo_X1_mateOf : GoodIn wsX6_areSo (wsV RX6 29 RX1 yX1_mateOf wsX1_mateOf) := goodIn_app (goodIn_of _ (by decide +kernel)) ggX6_areSo_X1_mateOf
theorem dX6_areSo_0 : decode cX6_areSo 0 = .ok (.iconst 0, 1) := by decide +kernel
theorem dX6_areSo_1 : decode cX6_areSo 1 = .ok (.istore_n 2, 1) := by decide +kernel
theorem dX6_areSo_2 : decode cX6_areSo 2 = .ok (.iload_n 2, 1) := by decide +kernel
theorem dX6_areSo_3 : decode cX6_areSo 3 = .ok (.bipush 6, 2) := by decide +kernel
theorem dX6_areSo_5 : decode cX6_areSo 5 = .ok (.if_icmp .ge 58, 3) := by decide +kernel
theorem dX6_areSo_8 : decode cX6_areSo 8 = .ok (.iload_n 2, 1) := by decide +kernel
theorem dX6_areSo_9 : decode cX6_areSo 9 = .ok (.aload_n 0, 1) := by decide +kernel
theorem dX6_areSo_10 : decode cX6_areSo 10 = .ok (.getfield 25, 3) := by decide +kernel
theorem dX6_areSo_13 : decode cX6_areSo 13 = .ok (.if_icmp .ge 50, 3) := by decide +kernel
theorem dX6_areSo_16 : decode cX6_areSo 16 = .ok (.aload_n 1, 1) := by decide +kernel
theorem dX6_areSo_17 : decode cX6_areSo 17 = .ok (.aload_n 0, 1) := by decide +kernel
theorem dX6_areSo_18 : decode cX6_areSo 18 = .ok (.getfield 9, 3) := by decide +kernel
theorem dX6_areSo_21 : decode cX6_areSo 21 = .ok (.iload_n 2, 1) := by decide +kernel
theorem dX6_areSo_22 : decode cX6_areSo 22 = .ok (.iaload, 1) := by decide +kernel
theorem dX6_areSo_23 : decode cX6_areSo 23 = .ok (.aload_n 0, 1) := by decide +kernel
theorem dX6_areSo_24 : decode cX6_areSo 24 = .ok (.getfield 18, 3) := by decide +kernel
theorem dX6_areSo_27 : decode cX6_areSo 27 = .ok (.iload_n 2, 1) := by decide +kernel
theorem dX6_areSo_28 : decode cX6_areSo 28 = .ok (.iaload, 1) := by decide +kernel
theorem dX6_areSo_29 : decode cX6_areSo 29 = .ok (.invokevirtual 29, 3) := by decide +kernel
theorem dX6_areSo_32 : decode cX6_areSo 32 = .ok (.aload_n 0, 1) := by decide +kernel
theorem dX6_areSo_33 : decode cX6_areSo 33 = .ok (.getfield 15, 3) := by decide +kernel
theorem dX6_areSo_36 : decode cX6_areSo 36 = .ok (.iload_n 2, 1) := by decide +kernel
theorem dX6_areSo_37 : decode cX6_areSo 37 = .ok (.iaload, 1) := by decide +kernel
theorem dX6_areSo_38 : decode cX6_areSo 38 = .ok (.if_icmp .ne 7, 3) := by decide +kernel
theorem dX6_areSo_41 : decode cX6_areSo 41 = .ok (.iconst 1, 1) := by decide +kernel
theorem dX6_areSo_42 : decode cX6_areSo 42 = .ok (.goto 4, 3) := by decide +kernel
theorem dX6_areSo_45 : decode cX6_areSo 45 = .ok (.iconst 0, 1) := by decide +kernel
theorem dX6_areSo_46 : decode cX6_areSo 46 = .ok (.aload_n 0, 1) := by decide +kernel
theorem dX6_areSo_47 : decode cX6_areSo 47 = .ok (.getfield 21, 3) := by decide +kernel
theorem dX6_areSo_50 : decode cX6_areSo 50 = .ok (.iload_n 2, 1) := by decide +kernel
theorem dX6_areSo_51 : decode cX6_areSo 51 = .ok (.baload, 1) := by decide +kernel
theorem dX6_areSo_52 : decode cX6_areSo 52 = .ok (.if_icmp .eq 5, 3) := by decide +kernel
theorem dX6_areSo_55 : decode cX6_areSo 55 = .ok (.iconst 0, 1) := by decide +kernel
theorem dX6_areSo_56 : decode cX6_areSo 56 = .ok (.ireturn, 1) := by decide +kernel
theorem dX6_areSo_57 : decode cX6_areSo 57 = .ok (.iinc 2 1, 3) := by decide +kernel
theorem dX6_areSo_60 : decode cX6_areSo 60 = .ok (.goto (-58), 3) := by decide +kernel
theorem dX6_areSo_63 : decode cX6_areSo 63 = .ok (.iconst 1, 1) := by decide +kernel
theorem dX6_areSo_64 : decode cX6_areSo 64 = .ok (.ireturn, 1) := by decide +kernel
set_option maxRecDepth 20000 in
theorem ggX7_init_X4_init : GoodIn wsX7_init wsX4_init := goodIn_r _ [29, 30, 2, 3, 31, 32, 200, 201] rfl (by decide +kernel)
set_option maxRecDepth 20000 in
theorem gX7_init_X4_init_n11 : GoodIn wsX7_init (wsX4_init) := ggX7_init_X4_init
set_option maxRecDepth 20000 in
theorem ggX7_init_X3_init : GoodIn wsX7_init wsX3_init := goodIn_r _ [34, 35, 2, 3, 36, 37, 38, 39, 40, 41, 42, 43, 44, 210, 211, 212, 213, 214, 215, 216, 217, 218, 219] rfl (by decide +kernel)
set_option maxRecDepth 20000 in
theorem gX7_init_X3_init_n18 : GoodIn wsX7_init (wsX3_init) := ggX7_init_X3_init
set_option maxRecDepth 20000 in
theorem ggX7_init_X2_init : GoodIn wsX7_init wsX2_init := goodIn_r _ [47, 48, 2, 3, 49, 50, 51, 52, 53, 54, 55, 56, 38, 57, 58, 59, 60, 61, 62, 63, 64, 65, 66, 67, 68, 69, 70, 71, 72, 73, 74, 75, 76, 231, 232, 233, 234, 235, 236, 237, 238, 239, 220, 221, 222, 223, 240, 241, 242] rfl (by decide +kernel)
set_option maxRecDepth 20000 in
theorem gX7_init_X2_init : GoodIn wsX7_init (wsX2_init) := ggX7_init_X2_init
set_option maxRecDepth 20000 in
theorem ggX7_init_X6_init : GoodIn wsX7_init wsX6_init := goodIn_r _ [78, 79, 2, 3, 38, 80, 81, 82, 36, 83, 224, 225, 226, 227, 228] rfl (by decide +kernel)
set_option maxRecDepth 20000 in
theorem gX7_init_X6_init_n40 : GoodIn wsX7_init (wsX6_init) := ggX7_init_X6_init
set_option maxRecDepth 20000 in
theorem ggX7_init_X5_init : GoodIn wsX7_init wsX5_init := goodIn_r _ [86, 87, 2, 3, 88, 89, 50, 51, 59, 60, 61, 38, 62, 63, 64, 65, 66, 67, 68, 69, 229, 230, 231, 232, 233, 234, 235, 236, 237, 238, 239] rfl (by decide +kernel)
set_option maxRecDepth 20000 in
theorem gX7_init_X5_init : GoodIn wsX7_init (wsX5_init) := ggX7_init_X5_init
set_option maxRecDepth 20000 in
theorem ggX7_init_J0_length_8abf5 : GoodIn wsX7_init wsJ0_length_8abf5 := goodIn_r _ [94, 95, 96, 97, 98, 93, 99, 100, 101] rfl (by decide +kernel)
set_option maxRecDepth 20000 in
theorem gX7_init_J0_length_8abf5 : GoodIn wsX7_init (wsV RX7 59 RJ0 yJ0_length_8abf5 wsJ0_length_8abf5) := goodIn_app (goodIn_of _ (by decide +kernel)) ggX7_init_J0_length_8abf5
set_option maxRecDepth 20000 in
theorem ggX7_init_J0_charAt_5068e : GoodIn wsX7_init wsJ0_charAt_5068e := goodIn_r _ [105, 95, 106, 107, 108, 93, 109, 100, 101, 110, 111, 112, 113, 114, 115, 116, 117, 118, 119, 120, 121, 122, 123, 124, 125, 126, 127, 128, 129, 130, 131, 132, 133, 134, 135, 136, 137, 138] rfl (by decide +kernel)
set_option maxRecDepth 20000 in
theorem gX7_init_J0_charAt_5068e : GoodIn wsX7_init (wsV RX7 65 RJ0 yJ0_charAt_5068e wsJ0_charAt_5068e) := goodIn_app (goodIn_of _ (by decide +kernel)) ggX7_init_J0_charAt_5068e
set_option maxRecDepth 20000 in
theorem ggX7_init_X4_add : GoodIn wsX7_init wsX4_add := goodIn_r _ [142, 143, 32, 200, 201] rfl (by decide +kernel)
set_option maxRecDepth 20000 in
theorem gX7_init_X4_add : GoodIn wsX7_init (wsV RX7 69 RX4 yX4_add wsX4_add) := goodIn_app (goodIn_of _ (by decide +kernel)) ggX7_init_X4_add
set_option maxRecDepth 20000 in
theorem ggX7_init_X3_readFrom : GoodIn wsX7_init wsX3_readFrom := goodIn_r _ [147, 148, 149, 150, 151, 152, 153, 154, 10, 155, 156, 157, 158, 6, 159, 143, 32, 160, 161, 162, 163, 164, 165, 166, 44, 167, 168, 169, 170, 171, 172, 173, 174, 175, 176, 177, 37, 39, 40, 41, 178, 179, 180, 181, 42, 43, 182, 183, 184, 185, 210, 211, 212, 213, 214, 215, 216, 217, 218, 219, 200, 201] rfl (by decide +kernel)
set_option maxRecDepth 20000 in
theorem gX7_init_X3_readFrom : GoodIn wsX7_init (wsV RX7 73 RX3 yX3_readFrom wsX3_readFrom) := goodIn_app (goodIn_of _ (by decide +kernel)) ggX7_init_X3_readFrom
set_option maxRecDepth 20000 in
theorem ggX7_init_X2_open : GoodIn wsX7_init wsX2_open := goodIn_r _ [189, 52, 58, 190, 191, 192, 51, 193, 194, 62, 195, 63, 64, 196, 197, 198, 10, 199, 148, 220, 221, 222, 223, 231, 232, 233, 234, 235, 236, 237, 238, 239, 210, 211, 212, 213, 214, 215, 216, 217, 218, 219] rfl (by decide +kernel)
set_option maxRecDepth 20000 in
theorem gX7_init_X2_open : GoodIn wsX7_init (wsV RX7 77 RX2 yX2_open wsX2_open) := goodIn_app (goodIn_of _ (by decide +kernel)) ggX7_init_X2_open
theorem dX7_init_0 : decode cX7_init 0 = .ok (.aload_n 0, 1) := by decide +kernel
theorem dX7_init_1 : decode cX7_init 1 = .ok (.invokespecial 3, 3) := by decide +kernel
theorem dX7_init_4 : decode cX7_init 4 = .ok (.aload_n 0, 1) := by decide +kernel
theorem dX7_init_5 : decode cX7_init 5 = .ok (.new 9, 3) := by decide +kernel
theorem dX7_init_8 : decode cX7_init 8 = .ok (.dup, 1) := by decide +kernel
theorem dX7_init_9 : decode cX7_init 9 = .ok (.invokespecial 11, 3) := by decide +kernel
theorem dX7_init_12 : decode cX7_init 12 = .ok (.putfield 12, 3) := by decide +kernel
theorem dX7_init_15 : decode cX7_init 15 = .ok (.aload_n 0, 1) := by decide +kernel
theorem dX7_init_16 : decode cX7_init 16 = .ok (.new 16, 3) := by decide +kernel
theorem dX7_init_19 : decode cX7_init 19 = .ok (.dup, 1) := by decide +kernel
theorem dX7_init_20 : decode cX7_init 20 = .ok (.invokespecial 18, 3) := by decide +kernel
theorem dX7_init_23 : decode cX7_init 23 = .ok (.putfield 19, 3) := by decide +kernel
theorem dX7_init_26 : decode cX7_init 26 = .ok (.aload_n 0, 1) := by decide +kernel
theorem dX7_init_27 : decode cX7_init 27 = .ok (.new 16, 3) := by decide +kernel
theorem dX7_init_30 : decode cX7_init 30 = .ok (.dup, 1) := by decide +kernel
theorem dX7_init_31 : decode cX7_init 31 = .ok (.invokespecial 18, 3) := by decide +kernel
theorem dX7_init_34 : decode cX7_init 34 = .ok (.putfield 23, 3) := by decide +kernel
theorem dX7_init_37 : decode cX7_init 37 = .ok (.aload_n 0, 1) := by decide +kernel
theorem dX7_init_38 : decode cX7_init 38 = .ok (.new 26, 3) := by decide +kernel
theorem dX7_init_41 : decode cX7_init 41 = .ok (.dup, 1) := by decide +kernel
theorem dX7_init_42 : decode cX7_init 42 = .ok (.aload_n 0, 1) := by decide +kernel
theorem dX7_init_43 : decode cX7_init 43 = .ok (.getfield 19, 3) := by decide +kernel
theorem dX7_init_46 : decode cX7_init 46 = .ok (.invokespecial 28, 3) := by decide +kernel
theorem dX7_init_49 : decode cX7_init 49 = .ok (.putfield 31, 3) := by decide +kernel
theorem dX7_init_52 : decode cX7_init 52 = .ok (.aload_n 0, 1) := by decide +kernel
theorem dX7_init_53 : decode cX7_init 53 = .ok (.new 26, 3) := by decide +kernel
theorem dX7_init_56 : decode cX7_init 56 = .ok (.dup, 1) := by decide +kernel
theorem dX7_init_57 : decode cX7_init 57 = .ok (.aload_n 0, 1) := by decide +kernel
theorem dX7_init_58 : decode cX7_init 58 = .ok (.getfield 19, 3) := by decide +kernel
theorem dX7_init_61 : decode cX7_init 61 = .ok (.invokespecial 28, 3) := by decide +kernel
theorem dX7_init_64 : decode cX7_init 64 = .ok (.putfield 35, 3) := by decide +kernel
theorem dX7_init_67 : decode cX7_init 67 = .ok (.aload_n 0, 1) := by decide +kernel
theorem dX7_init_68 : decode cX7_init 68 = .ok (.new 38, 3) := by decide +kernel
theorem dX7_init_71 : decode cX7_init 71 = .ok (.dup, 1) := by decide +kernel
theorem dX7_init_72 : decode cX7_init 72 = .ok (.invokespecial 40, 3) := by decide +kernel
theorem dX7_init_75 : decode cX7_init 75 = .ok (.putfield 41, 3) := by decide +kernel
theorem dX7_init_78 : decode cX7_init 78 = .ok (.aload_n 0, 1) := by decide +kernel
theorem dX7_init_79 : decode cX7_init 79 = .ok (.new 45, 3) := by decide +kernel
theorem dX7_init_82 : decode cX7_init 82 = .ok (.dup, 1) := by decide +kernel
theorem dX7_init_83 : decode cX7_init 83 = .ok (.bipush 8, 2) := by decide +kernel
theorem dX7_init_85 : decode cX7_init 85 = .ok (.invokespecial 47, 3) := by decide +kernel
theorem dX7_init_88 : decode cX7_init 88 = .ok (.putfield 50, 3) := by decide +kernel
theorem dX7_init_91 : decode cX7_init 91 = .ok (.aload_n 0, 1) := by decide +kernel
theorem dX7_init_92 : decode cX7_init 92 = .ok (.new 45, 3) := by decide +kernel
theorem dX7_init_95 : decode cX7_init 95 = .ok (.dup, 1) := by decide +kernel
theorem dX7_init_96 : decode cX7_init 96 = .ok (.iconst 2, 1) := by decide +kernel
theorem dX7_init_97 : decode cX7_init 97 = .ok (.invokespecial 47, 3) := by decide +kernel
theorem dX7_init_100 : decode cX7_init 100 = .ok (.putfield 54, 3) := by decide +kernel
theorem dX7_init_103 : decode cX7_init 103 = .ok (.iconst 0, 1) := by decide +kernel
theorem dX7_init_104 : decode cX7_init 104 = .ok (.istore_n 1, 1) := by decide +kernel
theorem dX7_init_105 : decode cX7_init 105 = .ok (.iload_n 1, 1) := by decide +kernel
theorem dX7_init_106 : decode cX7_init 106 = .ok (.ldc 57, 2) := by decide +kernel
theorem dX7_init_108 : decode cX7_init 108 = .ok (.invokevirtual 59, 3) := by decide +kernel
theorem dX7_init_111 : decode cX7_init 111 = .ok (.if_icmp .ge 23, 3) := by decide +kernel
theorem dX7_init_114 : decode cX7_init 114 = .ok (.aload_n 0, 1) := by decide +kernel
theorem dX7_init_115 : decode cX7_init 115 = .ok (.getfield 12, 3) := by decide +kernel
theorem dX7_init_118 : decode cX7_init 118 = .ok (.ldc 57, 2) := by decide +kernel
theorem dX7_init_120 : decode cX7_init 120 = .ok (.iload_n 1, 1) := by decide +kernel
theorem dX7_init_121 : decode cX7_init 121 = .ok (.invokevirtual 65, 3) := by decide +kernel
theorem dX7_init_124 : decode cX7_init 124 = .ok (.invokevirtual 69, 3) := by decide +kernel
theorem dX7_init_127 : decode cX7_init 127 = .ok (.pop, 1) := by decide +kernel
theorem dX7_init_128 : decode cX7_init 128 = .ok (.iinc 1 1, 3) := by decide +kernel
theorem dX7_init_131 : decode cX7_init 131 = .ok (.goto (-26), 3) := by decide +kernel
theorem dX7_init_134 : decode cX7_init 134 = .ok (.aload_n 0, 1) := by decide +kernel
theorem dX7_init_135 : decode cX7_init 135 = .ok (.getfield 19, 3) := by decide +kernel
theorem dX7_init_138 : decode cX7_init 138 = .ok (.aload_n 0, 1) := by decide +kernel
theorem dX7_init_139 : decode cX7_init 139 = .ok (.getfield 12, 3) := by decide +kernel
theorem dX7_init_142 : decode cX7_init 142 = .ok (.invokevirtual 73, 3) := by decide +kernel
theorem dX7_init_145 : decode cX7_init 145 = .ok (.pop, 1) := by decide +kernel
theorem dX7_init_146 : decode cX7_init 146 = .ok (.aload_n 0, 1) := by decide +kernel
theorem dX7_init_147 : decode cX7_init 147 = .ok (.getfield 31, 3) := by decide +kernel
theorem dX7_init_150 : decode cX7_init 150 = .ok (.invokevirtual 77, 3) := by decide +kernel
theorem dX7_init_153 : decode cX7_init 153 = .ok (.aload_n 0, 1) := by decide +kernel
theorem dX7_init_154 : decode cX7_init 154 = .ok (.getfield 12, 3) := by decide +kernel
theorem dX7_init_157 : decode cX7_init 157 = .ok (.iconst 0, 1) := by decide +kernel
theorem dX7_init_158 : decode cX7_init 158 = .ok (.putfield 80, 3) := by decide +kernel
theorem dX7_init_161 : decode cX7_init 161 = .ok (.return_, 1) := by decide +kernel
set_option maxRecDepth 20000 in
theorem ggX7_write_X4_add : GoodIn wsX7_write wsX4_add := goodIn_r _ [7, 8, 9, 18, 19] rfl (by decide +kernel)
set_option maxRecDepth 20000 in
theorem gX7_write_X4_add : GoodIn wsX7_write (wsV RX7 69 RX4 yX4_add wsX4_add) := goodIn_app (goodIn_of _ (by decide +kernel)) ggX7_write_X4_add
theorem dX7_write_0 : decode cX7_write 0 = .ok (.iload_n 1, 1) := by decide +kernel
theorem dX7_write_1 : decode cX7_write 1 = .ok (.bipush 32, 2) := by decide +kernel
theorem dX7_write_3 : decode cX7_write 3 = .ok (.if_icmp .lt 9, 3) := by decide +kernel
theorem dX7_write_6 : decode cX7_write 6 = .ok (.iload_n 1, 1) := by decide +kernel
theorem dX7_write_7 : decode cX7_write 7 = .ok (.bipush 126, 2) := by decide +kernel
theorem dX7_write_9 : decode cX7_write 9 = .ok (.if_icmp .le 5, 3) := by decide +kernel
theorem dX7_write_12 : decode cX7_write 12 = .ok (.iconst (-1), 1) := by decide +kernel
theorem dX7_write_13 : decode cX7_write 13 = .ok (.ireturn, 1) := by decide +kernel
theorem dX7_write_14 : decode cX7_write 14 = .ok (.aload_n 0, 1) := by decide +kernel
theorem dX7_write_15 : decode cX7_write 15 = .ok (.getfield 12, 3) := by decide +kernel
theorem dX7_write_18 : decode cX7_write 18 = .ok (.iload_n 1, 1) := by decide +kernel
theorem dX7_write_19 : decode cX7_write 19 = .ok (.i2c, 1) := by decide +kernel
theorem dX7_write_20 : decode cX7_write 20 = .ok (.invokevirtual 69, 3) := by decide +kernel
theorem dX7_write_23 : decode cX7_write 23 = .ok (.ifCond .eq 13, 3) := by decide +kernel
theorem dX7_write_26 : decode cX7_write 26 = .ok (.aload_n 0, 1) := by decide +kernel
theorem dX7_write_27 : decode cX7_write 27 = .ok (.getfield 12, 3) := by decide +kernel
theorem dX7_write_30 : decode cX7_write 30 = .ok (.getfield 80, 3) := by decide +kernel
theorem dX7_write_33 : decode cX7_write 33 = .ok (.goto 5, 3) := by decide +kernel
theorem dX7_write_36 : decode cX7_write 36 = .ok (.bipush (-3), 2) := by decide +kernel
theorem dX7_write_38 : decode cX7_write 38 = .ok (.ireturn, 1) := by decide +kernel
theorem dX7_wipe_0 : decode cX7_wipe 0 = .ok (.aload_n 0, 1) := by decide +kernel
theorem dX7_wipe_1 : decode cX7_wipe 1 = .ok (.getfield 12, 3) := by decide +kernel
theorem dX7_wipe_4 : decode cX7_wipe 4 = .ok (.getfield 80, 3) := by decide +kernel
theorem dX7_wipe_7 : decode cX7_wipe 7 = .ok (.istore_n 1, 1) := by decide +kernel
theorem dX7_wipe_8 : decode cX7_wipe 8 = .ok (.aload_n 0, 1) := by decide +kernel
theorem dX7_wipe_9 : decode cX7_wipe 9 = .ok (.getfield 12, 3) := by decide +kernel
theorem dX7_wipe_12 : decode cX7_wipe 12 = .ok (.iconst 0, 1) := by decide +kernel
theorem dX7_wipe_13 : decode cX7_wipe 13 = .ok (.putfield 80, 3) := by decide +kernel
theorem dX7_wipe_16 : decode cX7_wipe 16 = .ok (.iload_n 1, 1) := by decide +kernel
theorem dX7_wipe_17 : decode cX7_wipe 17 = .ok (.ireturn, 1) := by decide +kernel
set_option maxRecDepth 20000 in
theorem ggX7_fault_X3_readFrom : GoodIn wsX7_fault wsX3_readFrom := goodIn_r _ [7, 8, 9, 10, 11, 12, 13, 14, 6, 15, 16, 17, 18, 19, 20, 21, 22, 23, 24, 25, 26, 27, 28, 29, 30, 31, 32, 33, 34, 35, 36, 37, 38, 39, 40, 41, 42, 43, 44, 45, 46, 47, 48, 49, 50, 51, 52, 53, 54, 55, 64, 65, 66, 67, 68, 69, 70, 71, 72, 73, 74, 75] rfl (by decide +kernel)
set_option maxRecDepth 20000 in
theorem gX7_fault_X3_readFrom : GoodIn wsX7_fault (wsV RX7 73 RX3 yX3_readFrom wsX3_readFrom) := goodIn_app (goodIn_of _ (by decide +kernel)) ggX7_fault_X3_readFrom
theorem dX7_fault_0 : decode cX7_fault 0 = .ok (.aload_n 0, 1) := by decide +kernel
theorem dX7_fault_1 : decode cX7_fault 1 = .ok (.getfield 23, 3) := by decide +kernel
theorem dX7_fault_4 : decode cX7_fault 4 = .ok (.aload_n 0, 1) := by decide +kernel
theorem dX7_fault_5 : decode cX7_fault 5 = .ok (.getfield 12, 3) := by decide +kernel
theorem dX7_fault_8 : decode cX7_fault 8 = .ok (.invokevirtual 73, 3) := by decide +kernel
theorem dX7_fault_11 : decode cX7_fault 11 = .ok (.ireturn, 1) := by decide +kernel
set_option maxRecDepth 20000 in
theorem ggX7_lay_X3_readFrom : GoodIn wsX7_lay wsX3_readFrom := goodIn_r _ [16, 17, 18, 19, 20, 21, 22, 23, 15, 24, 25, 26, 27, 28, 29, 30, 31, 32, 33, 34, 35, 36, 37, 38, 39, 40, 41, 42, 43, 44, 45, 46, 47, 48, 49, 50, 51, 52, 53, 54, 55, 56, 57, 58, 59, 60, 61, 62, 63, 64, 94, 95, 96, 97, 98, 99, 100, 101, 102, 103, 111, 112] rfl (by decide +kernel)
set_option maxRecDepth 20000 in
theorem gX7_lay_X3_readFrom : GoodIn wsX7_lay (wsV RX7 73 RX3 yX3_readFrom wsX3_readFrom) := goodIn_app (goodIn_of _ (by decide +kernel)) ggX7_lay_X3_readFrom
set_option maxRecDepth 20000 in
theorem ggX7_lay_X2_open : GoodIn wsX7_lay wsX2_open := goodIn_r _ [69, 70, 71, 72, 73, 74, 75, 76, 77, 78, 79, 80, 81, 82, 83, 84, 15, 85, 17, 113, 114, 115, 116, 117, 118, 119, 120, 121, 122, 123, 124, 125, 94, 95, 96, 97, 98, 99, 100, 101, 102, 103] rfl (by decide +kernel)
set_option maxRecDepth 20000 in
theorem gX7_lay_X2_open : GoodIn wsX7_lay (wsV RX7 77 RX2 yX2_open wsX2_open) := goodIn_app (goodIn_of _ (by decide +kernel)) ggX7_lay_X2_open
theorem dX7_lay_0 : decode cX7_lay 0 = .ok (.aload_n 0, 1) := by decide +kernel
theorem dX7_lay_1 : decode cX7_lay 1 = .ok (.getfield 23, 3) := by decide +kernel
theorem dX7_lay_4 : decode cX7_lay 4 = .ok (.aload_n 0, 1) := by decide +kernel
theorem dX7_lay_5 : decode cX7_lay 5 = .ok (.getfield 12, 3) := by decide +kernel
theorem dX7_lay_8 : decode cX7_lay 8 = .ok (.invokevirtual 73, 3) := by decide +kernel
theorem dX7_lay_11 : decode cX7_lay 11 = .ok (.bipush (-4), 2) := by decide +kernel
theorem dX7_lay_13 : decode cX7_lay 13 = .ok (.if_icmp .ne 25, 3) := by decide +kernel
theorem dX7_lay_16 : decode cX7_lay 16 = .ok (.aload_n 0, 1) := by decide +kernel
theorem dX7_lay_17 : decode cX7_lay 17 = .ok (.getfield 23, 3) := by decide +kernel
theorem dX7_lay_20 : decode cX7_lay 20 = .ok (.getfield 83, 3) := by decide +kernel
theorem dX7_lay_23 : decode cX7_lay 23 = .ok (.iconst 1, 1) := by decide +kernel
theorem dX7_lay_24 : decode cX7_lay 24 = .ok (.if_icmp .lt 14, 3) := by decide +kernel
theorem dX7_lay_27 : decode cX7_lay 27 = .ok (.aload_n 0, 1) := by decide +kernel
theorem dX7_lay_28 : decode cX7_lay 28 = .ok (.getfield 23, 3) := by decide +kernel
theorem dX7_lay_31 : decode cX7_lay 31 = .ok (.getfield 86, 3) := by decide +kernel
theorem dX7_lay_34 : decode cX7_lay 34 = .ok (.iconst 1, 1) := by decide +kernel
theorem dX7_lay_35 : decode cX7_lay 35 = .ok (.if_icmp .ge 6, 3) := by decide +kernel
theorem dX7_lay_38 : decode cX7_lay 38 = .ok (.bipush (-2), 2) := by decide +kernel
theorem dX7_lay_40 : decode cX7_lay 40 = .ok (.ireturn, 1) := by decide +kernel
theorem dX7_lay_41 : decode cX7_lay 41 = .ok (.aload_n 0, 1) := by decide +kernel
theorem dX7_lay_42 : decode cX7_lay 42 = .ok (.getfield 19, 3) := by decide +kernel
theorem dX7_lay_45 : decode cX7_lay 45 = .ok (.aload_n 0, 1) := by decide +kernel
theorem dX7_lay_46 : decode cX7_lay 46 = .ok (.getfield 12, 3) := by decide +kernel
theorem dX7_lay_49 : decode cX7_lay 49 = .ok (.invokevirtual 73, 3) := by decide +kernel
theorem dX7_lay_52 : decode cX7_lay 52 = .ok (.pop, 1) := by decide +kernel
theorem dX7_lay_53 : decode cX7_lay 53 = .ok (.aload_n 0, 1) := by decide +kernel
theorem dX7_lay_54 : decode cX7_lay 54 = .ok (.getfield 31, 3) := by decide +kernel
theorem dX7_lay_57 : decode cX7_lay 57 = .ok (.invokevirtual 77, 3) := by decide +kernel
theorem dX7_lay_60 : decode cX7_lay 60 = .ok (.aload_n 0, 1) := by decide +kernel
theorem dX7_lay_61 : decode cX7_lay 61 = .ok (.getfield 41, 3) := by decide +kernel
theorem dX7_lay_64 : decode cX7_lay 64 = .ok (.iconst 0, 1) := by decide +kernel
theorem dX7_lay_65 : decode cX7_lay 65 = .ok (.putfield 89, 3) := by decide +kernel
theorem dX7_lay_68 : decode cX7_lay 68 = .ok (.aload_n 0, 1) := by decide +kernel
theorem dX7_lay_69 : decode cX7_lay 69 = .ok (.getfield 50, 3) := by decide +kernel
theorem dX7_lay_72 : decode cX7_lay 72 = .ok (.iconst 0, 1) := by decide +kernel
theorem dX7_lay_73 : decode cX7_lay 73 = .ok (.putfield 92, 3) := by decide +kernel
theorem dX7_lay_76 : decode cX7_lay 76 = .ok (.aload_n 0, 1) := by decide +kernel
theorem dX7_lay_77 : decode cX7_lay 77 = .ok (.getfield 54, 3) := by decide +kernel
theorem dX7_lay_80 : decode cX7_lay 80 = .ok (.iconst 0, 1) := by decide +kernel
theorem dX7_lay_81 : decode cX7_lay 81 = .ok (.putfield 92, 3) := by decide +kernel
theorem dX7_lay_84 : decode cX7_lay 84 = .ok (.aload_n 0, 1) := by decide +kernel
theorem dX7_lay_85 : decode cX7_lay 85 = .ok (.getfield 19, 3) := by decide +kernel
theorem dX7_lay_88 : decode cX7_lay 88 = .ok (.getfield 83, 3) := by decide +kernel
theorem dX7_lay_91 : decode cX7_lay 91 = .ok (.ireturn, 1) := by decide +kernel
set_option maxRecDepth 20000 in
theorem ggX7_person_X3_isPerson : GoodIn wsX7_person wsX3_isPerson := goodIn_r _ [12, 13, 96, 97, 98, 99, 100, 101, 102, 103, 104, 105] rfl (by decide +kernel)
set_option maxRecDepth 20000 in
theorem gX7_person_X3_isPerson : GoodIn wsX7_person (wsV RX7 93 RX3 yX3_isPerson wsX3_isPerson) := goodIn_app (goodIn_of _ (by decide +kernel)) ggX7_person_X3_isPerson
set_option maxRecDepth 20000 in
theorem ggX7_person_X2_mateToday : GoodIn wsX7_person wsX2_mateToday := goodIn_r _ [18, 19, 20, 21, 22, 23, 17, 24, 25, 26, 27, 28, 29, 30, 31, 32, 33, 34, 35, 36, 37, 38, 39, 40, 41, 42, 43, 44, 45, 46, 47, 48, 49, 50, 51, 52, 53, 54, 55, 56, 57, 58, 59, 60, 61, 62, 63, 64, 65, 66, 67, 68, 69, 70, 106, 107, 108, 109, 110, 111, 112, 113, 114, 115, 116, 117, 118, 119, 120, 121] rfl (by decide +kernel)
set_option maxRecDepth 20000 in
theorem gX7_person_X2_mateToday : GoodIn wsX7_person (wsV RX7 117 RX2 yX2_mateToday wsX2_mateToday) := goodIn_app (goodIn_of _ (by decide +kernel)) ggX7_person_X2_mateToday
set_option maxRecDepth 20000 in
theorem ggX7_person_X2_owedBy : GoodIn wsX7_person wsX2_owedBy := goodIn_r _ [74, 75, 76, 77, 78, 79, 9, 10, 11, 12, 13, 80, 15, 16, 17, 18, 19, 20, 21, 22, 23, 24, 25, 26, 27, 28, 29, 30, 31, 32, 33, 34, 35, 36, 37, 38, 39, 40, 41, 42, 43, 44, 45, 46, 47, 48, 49, 50, 51, 52, 53, 54, 55, 56, 57, 58, 59, 60, 61, 62, 63, 64, 65, 66, 67, 68, 69, 70, 106, 107, 108, 109, 96, 97, 98, 99, 100, 101, 102, 103, 104, 105, 110, 111, 112, 113, 114, 115, 116, 117, 118, 119, 120, 121] rfl (by decide +kernel)
set_option maxRecDepth 20000 in
theorem gX7_person_X2_owedBy : GoodIn wsX7_person (wsV RX7 121 RX2 yX2_owedBy wsX2_owedBy) := goodIn_app (goodIn_of _ (by decide +kernel)) ggX7_person_X2_owedBy
set_option maxRecDepth 20000 in
theorem ggX7_person_X0_linesWith : GoodIn wsX7_person wsX0_linesWith := goodIn_r _ [84, 85, 86, 87, 52, 53, 48, 54, 55, 56, 57, 58, 59, 50, 110, 111, 112, 113, 114, 115, 116, 117, 118] rfl (by decide +kernel)
set_option maxRecDepth 20000 in
theorem gX7_person_X0_linesWith : GoodIn wsX7_person (wsV RX7 124 RX0 yX0_linesWith wsX0_linesWith) := goodIn_app (goodIn_of _ (by decide +kernel)) ggX7_person_X0_linesWith
theorem dX7_person_0 : decode cX7_person 0 = .ok (.aload_n 0, 1) := by decide +kernel
theorem dX7_person_1 : decode cX7_person 1 = .ok (.getfield 19, 3) := by decide +kernel
theorem dX7_person_4 : decode cX7_person 4 = .ok (.iload_n 1, 1) := by decide +kernel
theorem dX7_person_5 : decode cX7_person 5 = .ok (.invokevirtual 93, 3) := by decide +kernel
theorem dX7_person_8 : decode cX7_person 8 = .ok (.ifCond .ne 5, 3) := by decide +kernel
theorem dX7_person_11 : decode cX7_person 11 = .ok (.iconst (-1), 1) := by decide +kernel
theorem dX7_person_12 : decode cX7_person 12 = .ok (.ireturn, 1) := by decide +kernel
theorem dX7_person_13 : decode cX7_person 13 = .ok (.iload_n 2, 1) := by decide +kernel
theorem dX7_person_14 : decode cX7_person 14 = .ok (.tableswitch 123 0 6 #[42, 60, 70, 80, 93, 102, 111], 42) := by decide +kernel
theorem dX7_person_56 : decode cX7_person 56 = .ok (.aload_n 0, 1) := by decide +kernel
theorem dX7_person_57 : decode cX7_person 57 = .ok (.getfield 19, 3) := by decide +kernel
theorem dX7_person_60 : decode cX7_person 60 = .ok (.getfield 97, 3) := by decide +kernel
theorem dX7_person_63 : decode cX7_person 63 = .ok (.iload_n 1, 1) := by decide +kernel
theorem dX7_person_64 : decode cX7_person 64 = .ok (.baload, 1) := by decide +kernel
theorem dX7_person_65 : decode cX7_person 65 = .ok (.ifCond .eq 7, 3) := by decide +kernel
theorem dX7_person_68 : decode cX7_person 68 = .ok (.iconst 1, 1) := by decide +kernel
theorem dX7_person_69 : decode cX7_person 69 = .ok (.goto 4, 3) := by decide +kernel
theorem dX7_person_72 : decode cX7_person 72 = .ok (.iconst 0, 1) := by decide +kernel
theorem dX7_person_73 : decode cX7_person 73 = .ok (.ireturn, 1) := by decide +kernel
theorem dX7_person_74 : decode cX7_person 74 = .ok (.aload_n 0, 1) := by decide +kernel
theorem dX7_person_75 : decode cX7_person 75 = .ok (.getfield 19, 3) := by decide +kernel
theorem dX7_person_78 : decode cX7_person 78 = .ok (.getfield 101, 3) := by decide +kernel
theorem dX7_person_81 : decode cX7_person 81 = .ok (.iload_n 1, 1) := by decide +kernel
theorem dX7_person_82 : decode cX7_person 82 = .ok (.iaload, 1) := by decide +kernel
theorem dX7_person_83 : decode cX7_person 83 = .ok (.ireturn, 1) := by decide +kernel
theorem dX7_person_84 : decode cX7_person 84 = .ok (.aload_n 0, 1) := by decide +kernel
theorem dX7_person_85 : decode cX7_person 85 = .ok (.getfield 19, 3) := by decide +kernel
theorem dX7_person_88 : decode cX7_person 88 = .ok (.getfield 105, 3) := by decide +kernel
theorem dX7_person_91 : decode cX7_person 91 = .ok (.iload_n 1, 1) := by decide +kernel
theorem dX7_person_92 : decode cX7_person 92 = .ok (.iaload, 1) := by decide +kernel
theorem dX7_person_93 : decode cX7_person 93 = .ok (.ireturn, 1) := by decide +kernel
theorem dX7_person_94 : decode cX7_person 94 = .ok (.aload_n 0, 1) := by decide +kernel
theorem dX7_person_95 : decode cX7_person 95 = .ok (.getfield 31, 3) := by decide +kernel
theorem dX7_person_98 : decode cX7_person 98 = .ok (.getfield 108, 3) := by decide +kernel
theorem dX7_person_101 : decode cX7_person 101 = .ok (.getfield 112, 3) := by decide +kernel
theorem dX7_person_104 : decode cX7_person 104 = .ok (.iload_n 1, 1) := by decide +kernel
theorem dX7_person_105 : decode cX7_person 105 = .ok (.iaload, 1) := by decide +kernel
theorem dX7_person_106 : decode cX7_person 106 = .ok (.ireturn, 1) := by decide +kernel
theorem dX7_person_107 : decode cX7_person 107 = .ok (.aload_n 0, 1) := by decide +kernel
theorem dX7_person_108 : decode cX7_person 108 = .ok (.getfield 31, 3) := by decide +kernel
theorem dX7_person_111 : decode cX7_person 111 = .ok (.iload_n 1, 1) := by decide +kernel
theorem dX7_person_112 : decode cX7_person 112 = .ok (.invokevirtual 117, 3) := by decide +kernel
theorem dX7_person_115 : decode cX7_person 115 = .ok (.ireturn, 1) := by decide +kernel
theorem dX7_person_116 : decode cX7_person 116 = .ok (.aload_n 0, 1) := by decide +kernel
theorem dX7_person_117 : decode cX7_person 117 = .ok (.getfield 31, 3) := by decide +kernel
theorem dX7_person_120 : decode cX7_person 120 = .ok (.iload_n 1, 1) := by decide +kernel
theorem dX7_person_121 : decode cX7_person 121 = .ok (.invokevirtual 121, 3) := by decide +kernel
theorem dX7_person_124 : decode cX7_person 124 = .ok (.ireturn, 1) := by decide +kernel
theorem dX7_person_125 : decode cX7_person 125 = .ok (.aload_n 0, 1) := by decide +kernel
theorem dX7_person_126 : decode cX7_person 126 = .ok (.getfield 31, 3) := by decide +kernel
theorem dX7_person_129 : decode cX7_person 129 = .ok (.getfield 108, 3) := by decide +kernel
theorem dX7_person_132 : decode cX7_person 132 = .ok (.iload_n 1, 1) := by decide +kernel
theorem dX7_person_133 : decode cX7_person 133 = .ok (.invokevirtual 124, 3) := by decide +kernel
theorem dX7_person_136 : decode cX7_person 136 = .ok (.ireturn, 1) := by decide +kernel
theorem dX7_person_137 : decode cX7_person 137 = .ok (.iconst (-1), 1) := by decide +kernel
theorem dX7_person_138 : decode cX7_person 138 = .ok (.ireturn, 1) := by decide +kernel
set_option maxRecDepth 20000 in
theorem ggX7_parson_X3_isParson : GoodIn wsX7_parson wsX3_isParson := goodIn_r _ [12, 13, 33, 34, 35, 36, 37, 38, 39, 40, 41, 42] rfl (by decide +kernel)
set_option maxRecDepth 20000 in
theorem gX7_parson_X3_isParson : GoodIn wsX7_parson (wsV RX7 127 RX3 yX3_isParson wsX3_isParson) := goodIn_app (goodIn_of _ (by decide +kernel)) ggX7_parson_X3_isParson
set_option maxRecDepth 20000 in
theorem ggX7_parson_X0_blanksOf : GoodIn wsX7_parson wsX0_blanksOf := goodIn_r _ [18, 19, 20, 21, 22, 17, 23, 24, 47, 48, 49, 50, 51, 52, 53, 54, 55] rfl (by decide +kernel)
set_option maxRecDepth 20000 in
theorem gX7_parson_X0_blanksOf : GoodIn wsX7_parson (wsV RX7 139 RX0 yX0_blanksOf wsX0_blanksOf) := goodIn_app (goodIn_of _ (by decide +kernel)) ggX7_parson_X0_blanksOf
theorem dX7_parson_0 : decode cX7_parson 0 = .ok (.aload_n 0, 1) := by decide +kernel
theorem dX7_parson_1 : decode cX7_parson 1 = .ok (.getfield 19, 3) := by decide +kernel
theorem dX7_parson_4 : decode cX7_parson 4 = .ok (.iload_n 1, 1) := by decide +kernel
theorem dX7_parson_5 : decode cX7_parson 5 = .ok (.invokevirtual 127, 3) := by decide +kernel
theorem dX7_parson_8 : decode cX7_parson 8 = .ok (.ifCond .ne 5, 3) := by decide +kernel
theorem dX7_parson_11 : decode cX7_parson 11 = .ok (.iconst (-1), 1) := by decide +kernel
theorem dX7_parson_12 : decode cX7_parson 12 = .ok (.ireturn, 1) := by decide +kernel
theorem dX7_parson_13 : decode cX7_parson 13 = .ok (.iload_n 2, 1) := by decide +kernel
theorem dX7_parson_14 : decode cX7_parson 14 = .ok (.tableswitch 92 0 4 #[34, 44, 54, 67, 79], 34) := by decide +kernel
theorem dX7_parson_48 : decode cX7_parson 48 = .ok (.aload_n 0, 1) := by decide +kernel
theorem dX7_parson_49 : decode cX7_parson 49 = .ok (.getfield 19, 3) := by decide +kernel
theorem dX7_parson_52 : decode cX7_parson 52 = .ok (.getfield 130, 3) := by decide +kernel
theorem dX7_parson_55 : decode cX7_parson 55 = .ok (.iload_n 1, 1) := by decide +kernel
theorem dX7_parson_56 : decode cX7_parson 56 = .ok (.iaload, 1) := by decide +kernel
theorem dX7_parson_57 : decode cX7_parson 57 = .ok (.ireturn, 1) := by decide +kernel
theorem dX7_parson_58 : decode cX7_parson 58 = .ok (.aload_n 0, 1) := by decide +kernel
theorem dX7_parson_59 : decode cX7_parson 59 = .ok (.getfield 19, 3) := by decide +kernel
theorem dX7_parson_62 : decode cX7_parson 62 = .ok (.getfield 133, 3) := by decide +kernel
theorem dX7_parson_65 : decode cX7_parson 65 = .ok (.iload_n 1, 1) := by decide +kernel
theorem dX7_parson_66 : decode cX7_parson 66 = .ok (.iaload, 1) := by decide +kernel
theorem dX7_parson_67 : decode cX7_parson 67 = .ok (.ireturn, 1) := by decide +kernel
theorem dX7_parson_68 : decode cX7_parson 68 = .ok (.aload_n 0, 1) := by decide +kernel
theorem dX7_parson_69 : decode cX7_parson 69 = .ok (.getfield 31, 3) := by decide +kernel
theorem dX7_parson_72 : decode cX7_parson 72 = .ok (.getfield 108, 3) := by decide +kernel
theorem dX7_parson_75 : decode cX7_parson 75 = .ok (.getfield 136, 3) := by decide +kernel
theorem dX7_parson_78 : decode cX7_parson 78 = .ok (.iload_n 1, 1) := by decide +kernel
theorem dX7_parson_79 : decode cX7_parson 79 = .ok (.iaload, 1) := by decide +kernel
theorem dX7_parson_80 : decode cX7_parson 80 = .ok (.ireturn, 1) := by decide +kernel
theorem dX7_parson_81 : decode cX7_parson 81 = .ok (.aload_n 0, 1) := by decide +kernel
theorem dX7_parson_82 : decode cX7_parson 82 = .ok (.getfield 31, 3) := by decide +kernel
theorem dX7_parson_85 : decode cX7_parson 85 = .ok (.getfield 108, 3) := by decide +kernel
theorem dX7_parson_88 : decode cX7_parson 88 = .ok (.iload_n 1, 1) := by decide +kernel
theorem dX7_parson_89 : decode cX7_parson 89 = .ok (.invokevirtual 139, 3) := by decide +kernel
theorem dX7_parson_92 : decode cX7_parson 92 = .ok (.ireturn, 1) := by decide +kernel
theorem dX7_parson_93 : decode cX7_parson 93 = .ok (.aload_n 0, 1) := by decide +kernel
theorem dX7_parson_94 : decode cX7_parson 94 = .ok (.getfield 31, 3) := by decide +kernel
theorem dX7_parson_97 : decode cX7_parson 97 = .ok (.getfield 108, 3) := by decide +kernel
theorem dX7_parson_100 : decode cX7_parson 100 = .ok (.getfield 142, 3) := by decide +kernel
theorem dX7_parson_103 : decode cX7_parson 103 = .ok (.iload_n 1, 1) := by decide +kernel
theorem dX7_parson_104 : decode cX7_parson 104 = .ok (.iaload, 1) := by decide +kernel
theorem dX7_parson_105 : decode cX7_parson 105 = .ok (.ireturn, 1) := by decide +kernel
theorem dX7_parson_106 : decode cX7_parson 106 = .ok (.iconst (-1), 1) := by decide +kernel
theorem dX7_parson_107 : decode cX7_parson 107 = .ok (.ireturn, 1) := by decide +kernel
set_option maxRecDepth 20000 in
theorem ggX7_line_X0_slotOf : GoodIn wsX7_line wsX0_slotOf := goodIn_r _ [12, 13, 72, 73, 74, 75, 76, 77, 78, 79, 80] rfl (by decide +kernel)
set_option maxRecDepth 20000 in
theorem gX7_line_X0_slotOf : GoodIn wsX7_line (wsV RX7 145 RX0 yX0_slotOf wsX0_slotOf) := goodIn_app (goodIn_of _ (by decide +kernel)) ggX7_line_X0_slotOf
set_option maxRecDepth 20000 in
theorem ggX7_line_X2_isHeld : GoodIn wsX7_line wsX2_isHeld := goodIn_r _ [18, 19, 20, 21, 22, 17, 23, 24, 25, 26, 27, 28, 29, 30, 31, 32, 33, 34, 35, 36, 37, 38, 39, 9, 10, 11, 12, 13, 40, 41, 42, 43, 44, 45, 46, 47, 48, 49, 50, 51, 52, 53, 54, 55, 56, 57, 58, 59, 68, 69, 70, 71, 81, 82, 83, 72, 73, 74, 75, 76, 77, 78, 79, 80] rfl (by decide +kernel)
set_option maxRecDepth 20000 in
theorem gX7_line_X2_isHeld : GoodIn wsX7_line (wsV RX7 161 RX2 yX2_isHeld wsX2_isHeld) := goodIn_app (goodIn_of _ (by decide +kernel)) ggX7_line_X2_isHeld
theorem dX7_line_0 : decode cX7_line 0 = .ok (.aload_n 0, 1) := by decide +kernel
theorem dX7_line_1 : decode cX7_line 1 = .ok (.getfield 31, 3) := by decide +kernel
theorem dX7_line_4 : decode cX7_line 4 = .ok (.getfield 108, 3) := by decide +kernel
theorem dX7_line_7 : decode cX7_line 7 = .ok (.iload_n 1, 1) := by decide +kernel
theorem dX7_line_8 : decode cX7_line 8 = .ok (.iload_n 2, 1) := by decide +kernel
theorem dX7_line_9 : decode cX7_line 9 = .ok (.invokevirtual 145, 3) := by decide +kernel
theorem dX7_line_12 : decode cX7_line 12 = .ok (.istore 4, 2) := by decide +kernel
theorem dX7_line_14 : decode cX7_line 14 = .ok (.iload 4, 2) := by decide +kernel
theorem dX7_line_16 : decode cX7_line 16 = .ok (.iconst (-1), 1) := by decide +kernel
theorem dX7_line_17 : decode cX7_line 17 = .ok (.if_icmp .ne 5, 3) := by decide +kernel
theorem dX7_line_20 : decode cX7_line 20 = .ok (.iconst (-1), 1) := by decide +kernel
theorem dX7_line_21 : decode cX7_line 21 = .ok (.ireturn, 1) := by decide +kernel
theorem dX7_line_22 : decode cX7_line 22 = .ok (.aload_n 0, 1) := by decide +kernel
theorem dX7_line_23 : decode cX7_line 23 = .ok (.getfield 31, 3) := by decide +kernel
theorem dX7_line_26 : decode cX7_line 26 = .ok (.getfield 108, 3) := by decide +kernel
theorem dX7_line_29 : decode cX7_line 29 = .ok (.getfield 149, 3) := by decide +kernel
theorem dX7_line_32 : decode cX7_line 32 = .ok (.iload 4, 2) := by decide +kernel
theorem dX7_line_34 : decode cX7_line 34 = .ok (.iaload, 1) := by decide +kernel
theorem dX7_line_35 : decode cX7_line 35 = .ok (.iconst 1, 1) := by decide +kernel
theorem dX7_line_36 : decode cX7_line 36 = .ok (.if_icmp .ne 7, 3) := by decide +kernel
theorem dX7_line_39 : decode cX7_line 39 = .ok (.iconst 1, 1) := by decide +kernel
theorem dX7_line_40 : decode cX7_line 40 = .ok (.goto 4, 3) := by decide +kernel
theorem dX7_line_43 : decode cX7_line 43 = .ok (.iconst 0, 1) := by decide +kernel
theorem dX7_line_44 : decode cX7_line 44 = .ok (.istore 5, 2) := by decide +kernel
theorem dX7_line_46 : decode cX7_line 46 = .ok (.iload_n 3, 1) := by decide +kernel
theorem dX7_line_47 : decode cX7_line 47 = .ok (.tableswitch 163 0 5 #[37, 51, 75, 99, 121, 139], 37) := by decide +kernel
theorem dX7_line_84 : decode cX7_line 84 = .ok (.aload_n 0, 1) := by decide +kernel
theorem dX7_line_85 : decode cX7_line 85 = .ok (.getfield 31, 3) := by decide +kernel
theorem dX7_line_88 : decode cX7_line 88 = .ok (.getfield 108, 3) := by decide +kernel
theorem dX7_line_91 : decode cX7_line 91 = .ok (.getfield 152, 3) := by decide +kernel
theorem dX7_line_94 : decode cX7_line 94 = .ok (.iload 4, 2) := by decide +kernel
theorem dX7_line_96 : decode cX7_line 96 = .ok (.iaload, 1) := by decide +kernel
theorem dX7_line_97 : decode cX7_line 97 = .ok (.ireturn, 1) := by decide +kernel
theorem dX7_line_98 : decode cX7_line 98 = .ok (.iload 5, 2) := by decide +kernel
theorem dX7_line_100 : decode cX7_line 100 = .ok (.ifCond .eq 19, 3) := by decide +kernel
theorem dX7_line_103 : decode cX7_line 103 = .ok (.aload_n 0, 1) := by decide +kernel
theorem dX7_line_104 : decode cX7_line 104 = .ok (.getfield 31, 3) := by decide +kernel
theorem dX7_line_107 : decode cX7_line 107 = .ok (.getfield 108, 3) := by decide +kernel
theorem dX7_line_110 : decode cX7_line 110 = .ok (.getfield 155, 3) := by decide +kernel
theorem dX7_line_113 : decode cX7_line 113 = .ok (.iload 4, 2) := by decide +kernel
theorem dX7_line_115 : decode cX7_line 115 = .ok (.iaload, 1) := by decide +kernel
theorem dX7_line_116 : decode cX7_line 116 = .ok (.goto 5, 3) := by decide +kernel
theorem dX7_line_119 : decode cX7_line 119 = .ok (.bipush (-4), 2) := by decide +kernel
theorem dX7_line_121 : decode cX7_line 121 = .ok (.ireturn, 1) := by decide +kernel
theorem dX7_line_122 : decode cX7_line 122 = .ok (.iload 5, 2) := by decide +kernel
theorem dX7_line_124 : decode cX7_line 124 = .ok (.ifCond .eq 19, 3) := by decide +kernel
theorem dX7_line_127 : decode cX7_line 127 = .ok (.aload_n 0, 1) := by decide +kernel
theorem dX7_line_128 : decode cX7_line 128 = .ok (.getfield 31, 3) := by decide +kernel
theorem dX7_line_131 : decode cX7_line 131 = .ok (.getfield 108, 3) := by decide +kernel
theorem dX7_line_134 : decode cX7_line 134 = .ok (.getfield 158, 3) := by decide +kernel
theorem dX7_line_137 : decode cX7_line 137 = .ok (.iload 4, 2) := by decide +kernel
theorem dX7_line_139 : decode cX7_line 139 = .ok (.iaload, 1) := by decide +kernel
theorem dX7_line_140 : decode cX7_line 140 = .ok (.goto 5, 3) := by decide +kernel
theorem dX7_line_143 : decode cX7_line 143 = .ok (.bipush (-4), 2) := by decide +kernel
theorem dX7_line_145 : decode cX7_line 145 = .ok (.ireturn, 1) := by decide +kernel
theorem dX7_line_146 : decode cX7_line 146 = .ok (.aload_n 0, 1) := by decide +kernel
theorem dX7_line_147 : decode cX7_line 147 = .ok (.getfield 31, 3) := by decide +kernel
theorem dX7_line_150 : decode cX7_line 150 = .ok (.getfield 108, 3) := by decide +kernel
theorem dX7_line_153 : decode cX7_line 153 = .ok (.getfield 149, 3) := by decide +kernel
theorem dX7_line_156 : decode cX7_line 156 = .ok (.iload 4, 2) := by decide +kernel
theorem dX7_line_158 : decode cX7_line 158 = .ok (.iaload, 1) := by decide +kernel
theorem dX7_line_159 : decode cX7_line 159 = .ok (.ifCond .ne 7, 3) := by decide +kernel
theorem dX7_line_162 : decode cX7_line 162 = .ok (.iconst 1, 1) := by decide +kernel
theorem dX7_line_163 : decode cX7_line 163 = .ok (.goto 4, 3) := by decide +kernel
theorem dX7_line_166 : decode cX7_line 166 = .ok (.iconst 0, 1) := by decide +kernel
theorem dX7_line_167 : decode cX7_line 167 = .ok (.ireturn, 1) := by decide +kernel
theorem dX7_line_168 : decode cX7_line 168 = .ok (.aload_n 0, 1) := by decide +kernel
theorem dX7_line_169 : decode cX7_line 169 = .ok (.getfield 31, 3) := by decide +kernel
theorem dX7_line_172 : decode cX7_line 172 = .ok (.iload 4, 2) := by decide +kernel
theorem dX7_line_174 : decode cX7_line 174 = .ok (.invokevirtual 161, 3) := by decide +kernel
theorem dX7_line_177 : decode cX7_line 177 = .ok (.ifCond .eq 7, 3) := by decide +kernel
theorem dX7_line_180 : decode cX7_line 180 = .ok (.iconst 1, 1) := by decide +kernel
theorem dX7_line_181 : decode cX7_line 181 = .ok (.goto 4, 3) := by decide +kernel
theorem dX7_line_184 : decode cX7_line 184 = .ok (.iconst 0, 1) := by decide +kernel
theorem dX7_line_185 : decode cX7_line 185 = .ok (.ireturn, 1) := by decide +kernel
theorem dX7_line_186 : decode cX7_line 186 = .ok (.iload 5, 2) := by decide +kernel
theorem dX7_line_188 : decode cX7_line 188 = .ok (.ifCond .eq 19, 3) := by decide +kernel
theorem dX7_line_191 : decode cX7_line 191 = .ok (.aload_n 0, 1) := by decide +kernel
theorem dX7_line_192 : decode cX7_line 192 = .ok (.getfield 31, 3) := by decide +kernel
theorem dX7_line_195 : decode cX7_line 195 = .ok (.getfield 108, 3) := by decide +kernel
theorem dX7_line_198 : decode cX7_line 198 = .ok (.getfield 164, 3) := by decide +kernel
theorem dX7_line_201 : decode cX7_line 201 = .ok (.iload 4, 2) := by decide +kernel
theorem dX7_line_203 : decode cX7_line 203 = .ok (.iaload, 1) := by decide +kernel
theorem dX7_line_204 : decode cX7_line 204 = .ok (.goto 5, 3) := by decide +kernel
theorem dX7_line_207 : decode cX7_line 207 = .ok (.bipush (-4), 2) := by decide +kernel
theorem dX7_line_209 : decode cX7_line 209 = .ok (.ireturn, 1) := by decide +kernel
theorem dX7_line_210 : decode cX7_line 210 = .ok (.iconst (-1), 1) := by decide +kernel
theorem dX7_line_211 : decode cX7_line 211 = .ok (.ireturn, 1) := by decide +kernel
set_option maxRecDepth 20000 in
theorem ggX7_wed_X3_isParson : GoodIn wsX7_wed wsX3_isParson := goodIn_r _ [9, 10, 125, 126, 127, 128, 129, 130, 131, 132, 133, 134] rfl (by decide +kernel)
set_option maxRecDepth 20000 in
theorem gX7_wed_X3_isParson : GoodIn wsX7_wed (wsV RX7 127 RX3 yX3_isParson wsX3_isParson) := goodIn_app (goodIn_of _ (by decide +kernel)) ggX7_wed_X3_isParson
set_option maxRecDepth 20000 in
theorem ggX7_wed_X3_areTwo : GoodIn wsX7_wed wsX3_areTwo := goodIn_r _ [14, 15, 125, 126, 127, 128, 129, 130, 131, 132, 133, 134] rfl (by decide +kernel)
set_option maxRecDepth 20000 in
theorem gX7_wed_X3_areTwo : GoodIn wsX7_wed (wsV RX7 167 RX3 yX3_areTwo wsX3_areTwo) := goodIn_app (goodIn_of _ (by decide +kernel)) ggX7_wed_X3_areTwo
set_option maxRecDepth 20000 in
theorem ggX7_wed_X2_refuseWedding : GoodIn wsX7_wed wsX2_refuseWedding := goodIn_r _ [20, 21, 22, 23, 24, 6, 7, 8, 9, 10, 25, 26, 27, 28, 29, 30, 31, 12, 13, 14, 15, 32, 33, 34, 19, 35, 36, 37, 38, 39, 40, 41, 42, 43, 44, 45, 46, 47, 48, 49, 50, 51, 52, 121, 122, 123, 124, 125, 126, 127, 128, 129, 130, 131, 132, 133, 134, 135, 136, 137, 138, 139, 140, 141, 142, 143] rfl (by decide +kernel)
set_option maxRecDepth 20000 in
theorem gX7_wed_X2_refuseWedding : GoodIn wsX7_wed (wsV RX7 171 RX2 yX2_refuseWedding wsX2_refuseWedding) := goodIn_app (goodIn_of _ (by decide +kernel)) ggX7_wed_X2_refuseWedding
set_option maxRecDepth 20000 in
theorem ggX7_wed_X5_put : GoodIn wsX7_wed wsX5_put := goodIn_r _ [57, 58, 59, 60, 61, 62, 56, 63, 64, 65, 66, 50, 67, 68, 69, 70, 71, 72, 73, 74, 52, 75, 76, 77, 78, 79, 144, 145, 135, 136, 137, 138, 139, 140, 141, 142, 143] rfl (by decide +kernel)
set_option maxRecDepth 20000 in
theorem gX7_wed_X5_put : GoodIn wsX7_wed (wsV RX7 175 RX5 yX5_put wsX5_put) := goodIn_app (goodIn_of _ (by decide +kernel)) ggX7_wed_X5_put
set_option maxRecDepth 20000 in
theorem ggX7_wed_X2_writeWedding : GoodIn wsX7_wed wsX2_writeWedding := goodIn_r _ [83, 23, 21, 22, 84, 85, 86, 50, 87, 52, 75, 76, 68, 88, 48, 49, 51, 89, 90, 91, 92, 93, 94, 95, 96, 19, 97, 98, 42, 99, 100, 101, 102, 103, 104, 105, 106, 107, 36, 24, 6, 7, 8, 9, 10, 108, 109, 110, 111, 112, 12, 13, 14, 15, 121, 122, 123, 124, 125, 126, 127, 128, 129, 130, 131, 132, 133, 134, 135, 136, 137, 138, 139, 140, 141, 142, 143] rfl (by decide +kernel)
set_option maxRecDepth 20000 in
theorem gX7_wed_X2_writeWedding : GoodIn wsX7_wed (wsV RX7 179 RX2 yX2_writeWedding wsX2_writeWedding) := goodIn_app (goodIn_of _ (by decide +kernel)) ggX7_wed_X2_writeWedding
theorem dX7_wed_0 : decode cX7_wed 0 = .ok (.aload_n 0, 1) := by decide +kernel
theorem dX7_wed_1 : decode cX7_wed 1 = .ok (.getfield 19, 3) := by decide +kernel
theorem dX7_wed_4 : decode cX7_wed 4 = .ok (.iload_n 1, 1) := by decide +kernel
theorem dX7_wed_5 : decode cX7_wed 5 = .ok (.invokevirtual 127, 3) := by decide +kernel
theorem dX7_wed_8 : decode cX7_wed 8 = .ok (.ifCond .eq 15, 3) := by decide +kernel
theorem dX7_wed_11 : decode cX7_wed 11 = .ok (.aload_n 0, 1) := by decide +kernel
theorem dX7_wed_12 : decode cX7_wed 12 = .ok (.getfield 19, 3) := by decide +kernel
theorem dX7_wed_15 : decode cX7_wed 15 = .ok (.iload_n 2, 1) := by decide +kernel
theorem dX7_wed_16 : decode cX7_wed 16 = .ok (.iload_n 3, 1) := by decide +kernel
theorem dX7_wed_17 : decode cX7_wed 17 = .ok (.invokevirtual 167, 3) := by decide +kernel
theorem dX7_wed_20 : decode cX7_wed 20 = .ok (.ifCond .ne 5, 3) := by decide +kernel
theorem dX7_wed_23 : decode cX7_wed 23 = .ok (.iconst (-1), 1) := by decide +kernel
theorem dX7_wed_24 : decode cX7_wed 24 = .ok (.ireturn, 1) := by decide +kernel
theorem dX7_wed_25 : decode cX7_wed 25 = .ok (.aload_n 0, 1) := by decide +kernel
theorem dX7_wed_26 : decode cX7_wed 26 = .ok (.getfield 31, 3) := by decide +kernel
theorem dX7_wed_29 : decode cX7_wed 29 = .ok (.iload_n 1, 1) := by decide +kernel
theorem dX7_wed_30 : decode cX7_wed 30 = .ok (.iload_n 2, 1) := by decide +kernel
theorem dX7_wed_31 : decode cX7_wed 31 = .ok (.iload_n 3, 1) := by decide +kernel
theorem dX7_wed_32 : decode cX7_wed 32 = .ok (.invokevirtual 171, 3) := by decide +kernel
theorem dX7_wed_35 : decode cX7_wed 35 = .ok (.istore 4, 2) := by decide +kernel
theorem dX7_wed_37 : decode cX7_wed 37 = .ok (.iload 4, 2) := by decide +kernel
theorem dX7_wed_39 : decode cX7_wed 39 = .ok (.ifCond .eq 6, 3) := by decide +kernel
theorem dX7_wed_42 : decode cX7_wed 42 = .ok (.iload 4, 2) := by decide +kernel
theorem dX7_wed_44 : decode cX7_wed 44 = .ok (.ireturn, 1) := by decide +kernel
theorem dX7_wed_45 : decode cX7_wed 45 = .ok (.aload_n 0, 1) := by decide +kernel
theorem dX7_wed_46 : decode cX7_wed 46 = .ok (.getfield 50, 3) := by decide +kernel
theorem dX7_wed_49 : decode cX7_wed 49 = .ok (.aload_n 0, 1) := by decide +kernel
theorem dX7_wed_50 : decode cX7_wed 50 = .ok (.getfield 31, 3) := by decide +kernel
theorem dX7_wed_53 : decode cX7_wed 53 = .ok (.getfield 108, 3) := by decide +kernel
theorem dX7_wed_56 : decode cX7_wed 56 = .ok (.invokevirtual 175, 3) := by decide +kernel
theorem dX7_wed_59 : decode cX7_wed 59 = .ok (.aload_n 0, 1) := by decide +kernel
theorem dX7_wed_60 : decode cX7_wed 60 = .ok (.getfield 31, 3) := by decide +kernel
theorem dX7_wed_63 : decode cX7_wed 63 = .ok (.iload_n 1, 1) := by decide +kernel
theorem dX7_wed_64 : decode cX7_wed 64 = .ok (.iload_n 2, 1) := by decide +kernel
theorem dX7_wed_65 : decode cX7_wed 65 = .ok (.iload_n 3, 1) := by decide +kernel
theorem dX7_wed_66 : decode cX7_wed 66 = .ok (.invokevirtual 179, 3) := by decide +kernel
theorem dX7_wed_69 : decode cX7_wed 69 = .ok (.ireturn, 1) := by decide +kernel
set_option maxRecDepth 20000 in
theorem ggX7_leave_X3_isParson : GoodIn wsX7_leave wsX3_isParson := goodIn_r _ [9, 10, 84, 85, 86, 87, 88, 89, 90, 91, 92, 93] rfl (by decide +kernel)
set_option maxRecDepth 20000 in
theorem gX7_leave_X3_isParson : GoodIn wsX7_leave (wsV RX7 127 RX3 yX3_isParson wsX3_isParson) := goodIn_app (goodIn_of _ (by decide +kernel)) ggX7_leave_X3_isParson
set_option maxRecDepth 20000 in
theorem ggX7_leave_X2_refuseBlank : GoodIn wsX7_leave wsX2_refuseBlank := goodIn_r _ [15, 16, 17, 18, 19, 6, 7, 8, 9, 10, 20, 21, 22, 14, 23, 24, 25, 26, 27, 28, 29, 30, 31, 32, 33, 34, 35, 36, 37, 38, 39, 40, 80, 81, 82, 83, 84, 85, 86, 87, 88, 89, 90, 91, 92, 93, 94, 95, 96, 97, 98, 99, 100, 101, 102] rfl (by decide +kernel)
set_option maxRecDepth 20000 in
theorem gX7_leave_X2_refuseBlank : GoodIn wsX7_leave (wsV RX7 182 RX2 yX2_refuseBlank wsX2_refuseBlank) := goodIn_app (goodIn_of _ (by decide +kernel)) ggX7_leave_X2_refuseBlank
set_option maxRecDepth 20000 in
theorem ggX7_leave_X5_put : GoodIn wsX7_leave wsX5_put := goodIn_r _ [45, 46, 47, 48, 49, 50, 44, 51, 52, 53, 54, 29, 55, 56, 57, 58, 59, 60, 61, 62, 36, 31, 63, 64, 65, 66, 103, 104, 94, 95, 96, 97, 98, 99, 100, 101, 102] rfl (by decide +kernel)
set_option maxRecDepth 20000 in
theorem gX7_leave_X5_put : GoodIn wsX7_leave (wsV RX7 175 RX5 yX5_put wsX5_put) := goodIn_app (goodIn_of _ (by decide +kernel)) ggX7_leave_X5_put
set_option maxRecDepth 20000 in
theorem ggX7_leave_X0_begin : GoodIn wsX7_leave wsX0_begin := goodIn_r _ [70, 36, 31, 63, 56, 71, 38, 39, 29, 40, 32, 33, 34, 35, 94, 95, 96, 97, 98, 99, 100, 101, 102] rfl (by decide +kernel)
set_option maxRecDepth 20000 in
theorem gX7_leave_X0_begin : GoodIn wsX7_leave (wsV RX7 185 RX0 yX0_begin wsX0_begin) := goodIn_app (goodIn_of _ (by decide +kernel)) ggX7_leave_X0_begin
theorem dX7_leave_0 : decode cX7_leave 0 = .ok (.aload_n 0, 1) := by decide +kernel
theorem dX7_leave_1 : decode cX7_leave 1 = .ok (.getfield 19, 3) := by decide +kernel
theorem dX7_leave_4 : decode cX7_leave 4 = .ok (.iload_n 1, 1) := by decide +kernel
theorem dX7_leave_5 : decode cX7_leave 5 = .ok (.invokevirtual 127, 3) := by decide +kernel
theorem dX7_leave_8 : decode cX7_leave 8 = .ok (.ifCond .ne 5, 3) := by decide +kernel
theorem dX7_leave_11 : decode cX7_leave 11 = .ok (.iconst (-1), 1) := by decide +kernel
theorem dX7_leave_12 : decode cX7_leave 12 = .ok (.ireturn, 1) := by decide +kernel
theorem dX7_leave_13 : decode cX7_leave 13 = .ok (.aload_n 0, 1) := by decide +kernel
theorem dX7_leave_14 : decode cX7_leave 14 = .ok (.getfield 31, 3) := by decide +kernel
theorem dX7_leave_17 : decode cX7_leave 17 = .ok (.iload_n 1, 1) := by decide +kernel
theorem dX7_leave_18 : decode cX7_leave 18 = .ok (.invokevirtual 182, 3) := by decide +kernel
theorem dX7_leave_21 : decode cX7_leave 21 = .ok (.istore_n 2, 1) := by decide +kernel
theorem dX7_leave_22 : decode cX7_leave 22 = .ok (.iload_n 2, 1) := by decide +kernel
theorem dX7_leave_23 : decode cX7_leave 23 = .ok (.ifCond .eq 5, 3) := by decide +kernel
theorem dX7_leave_26 : decode cX7_leave 26 = .ok (.iload_n 2, 1) := by decide +kernel
theorem dX7_leave_27 : decode cX7_leave 27 = .ok (.ireturn, 1) := by decide +kernel
theorem dX7_leave_28 : decode cX7_leave 28 = .ok (.aload_n 0, 1) := by decide +kernel
theorem dX7_leave_29 : decode cX7_leave 29 = .ok (.getfield 50, 3) := by decide +kernel
theorem dX7_leave_32 : decode cX7_leave 32 = .ok (.aload_n 0, 1) := by decide +kernel
theorem dX7_leave_33 : decode cX7_leave 33 = .ok (.getfield 31, 3) := by decide +kernel
theorem dX7_leave_36 : decode cX7_leave 36 = .ok (.getfield 108, 3) := by decide +kernel
theorem dX7_leave_39 : decode cX7_leave 39 = .ok (.invokevirtual 175, 3) := by decide +kernel
theorem dX7_leave_42 : decode cX7_leave 42 = .ok (.aload_n 0, 1) := by decide +kernel
theorem dX7_leave_43 : decode cX7_leave 43 = .ok (.getfield 31, 3) := by decide +kernel
theorem dX7_leave_46 : decode cX7_leave 46 = .ok (.getfield 108, 3) := by decide +kernel
theorem dX7_leave_49 : decode cX7_leave 49 = .ok (.iload_n 1, 1) := by decide +kernel
theorem dX7_leave_50 : decode cX7_leave 50 = .ok (.invokevirtual 185, 3) := by decide +kernel
theorem dX7_leave_53 : decode cX7_leave 53 = .ok (.ireturn, 1) := by decide +kernel
set_option maxRecDepth 20000 in
theorem ggX7_fill_X0_slotOf : GoodIn wsX7_fill wsX0_slotOf := goodIn_r _ [10, 11, 108, 109, 110, 111, 112, 113, 114, 115, 116] rfl (by decide +kernel)
set_option maxRecDepth 20000 in
theorem gX7_fill_X0_slotOf : GoodIn wsX7_fill (wsV RX7 145 RX0 yX0_slotOf wsX0_slotOf) := goodIn_app (goodIn_of _ (by decide +kernel)) ggX7_fill_X0_slotOf
set_option maxRecDepth 20000 in
theorem ggX7_fill_X3_areTwo : GoodIn wsX7_fill wsX3_areTwo := goodIn_r _ [16, 17, 117, 118, 119, 120, 121, 122, 123, 124, 125, 126] rfl (by decide +kernel)
set_option maxRecDepth 20000 in
theorem gX7_fill_X3_areTwo : GoodIn wsX7_fill (wsV RX7 167 RX3 yX3_areTwo wsX3_areTwo) := goodIn_app (goodIn_of _ (by decide +kernel)) ggX7_fill_X3_areTwo
set_option maxRecDepth 20000 in
theorem ggX7_fill_X3_canPair : GoodIn wsX7_fill wsX3_canPair := goodIn_r _ [21, 22, 23, 24, 13, 14, 15, 16, 17, 117, 118, 119, 120, 121, 122, 123, 124, 125, 126] rfl (by decide +kernel)
set_option maxRecDepth 20000 in
theorem gX7_fill_X3_canPair : GoodIn wsX7_fill (wsV RX7 188 RX3 yX3_canPair wsX3_canPair) := goodIn_app (goodIn_of _ (by decide +kernel)) ggX7_fill_X3_canPair
set_option maxRecDepth 20000 in
theorem ggX7_fill_X2_costToFill : GoodIn wsX7_fill wsX2_costToFill := goodIn_r _ [29, 30, 31, 32, 33, 34, 35, 36, 37, 38, 15, 39, 40, 41, 42, 43, 9, 44, 11, 104, 105, 106, 107, 108, 109, 110, 111, 112, 113, 114, 115, 116, 117, 118, 119, 120, 121, 122, 123, 124, 125, 126] rfl (by decide +kernel)
set_option maxRecDepth 20000 in
theorem gX7_fill_X2_costToFill : GoodIn wsX7_fill (wsV RX7 191 RX2 yX2_costToFill wsX2_costToFill) := goodIn_app (goodIn_of _ (by decide +kernel)) ggX7_fill_X2_costToFill
set_option maxRecDepth 20000 in
theorem ggX7_fill_X2_canPay : GoodIn wsX7_fill wsX2_canPay := goodIn_r _ [48, 30, 31, 49, 50, 51, 52, 15, 53, 17, 104, 105, 106, 107, 108, 109, 110, 111, 112, 113, 114, 115, 116, 117, 118, 119, 120, 121, 122, 123, 124, 125, 126] rfl (by decide +kernel)
set_option maxRecDepth 20000 in
theorem gX7_fill_X2_canPay : GoodIn wsX7_fill (wsV RX7 194 RX2 yX2_canPay wsX2_canPay) := goodIn_app (goodIn_of _ (by decide +kernel)) ggX7_fill_X2_canPay
set_option maxRecDepth 20000 in
theorem ggX7_fill_X5_put : GoodIn wsX7_fill wsX5_put := goodIn_r _ [58, 59, 60, 61, 62, 63, 57, 64, 65, 66, 67, 9, 68, 69, 70, 71, 72, 73, 74, 75, 11, 76, 77, 78, 79, 80, 127, 128, 108, 109, 110, 111, 112, 113, 114, 115, 116] rfl (by decide +kernel)
set_option maxRecDepth 20000 in
theorem gX7_fill_X5_put : GoodIn wsX7_fill (wsV RX7 175 RX5 yX5_put wsX5_put) := goodIn_app (goodIn_of _ (by decide +kernel)) ggX7_fill_X5_put
set_option maxRecDepth 20000 in
theorem ggX7_fill_X2_writeTwo : GoodIn wsX7_fill wsX2_writeTwo := goodIn_r _ [84, 30, 31, 85, 49, 86, 87, 88, 89, 90, 91, 92, 93, 94, 32, 36, 37, 38, 15, 39, 40, 41, 42, 43, 9, 44, 11, 95, 13, 14, 16, 17, 104, 105, 106, 107, 117, 118, 119, 120, 121, 122, 123, 124, 125, 126, 108, 109, 110, 111, 112, 113, 114, 115, 116] rfl (by decide +kernel)
set_option maxRecDepth 20000 in
theorem gX7_fill_X2_writeTwo : GoodIn wsX7_fill (wsV RX7 198 RX2 yX2_writeTwo wsX2_writeTwo) := goodIn_app (goodIn_of _ (by decide +kernel)) ggX7_fill_X2_writeTwo
theorem dX7_fill_0 : decode cX7_fill 0 = .ok (.aload_n 0, 1) := by decide +kernel
theorem dX7_fill_1 : decode cX7_fill 1 = .ok (.getfield 31, 3) := by decide +kernel
theorem dX7_fill_4 : decode cX7_fill 4 = .ok (.getfield 108, 3) := by decide +kernel
theorem dX7_fill_7 : decode cX7_fill 7 = .ok (.iload_n 1, 1) := by decide +kernel
theorem dX7_fill_8 : decode cX7_fill 8 = .ok (.iload_n 2, 1) := by decide +kernel
theorem dX7_fill_9 : decode cX7_fill 9 = .ok (.invokevirtual 145, 3) := by decide +kernel
theorem dX7_fill_12 : decode cX7_fill 12 = .ok (.istore 5, 2) := by decide +kernel
theorem dX7_fill_14 : decode cX7_fill 14 = .ok (.iload 5, 2) := by decide +kernel
theorem dX7_fill_16 : decode cX7_fill 16 = .ok (.iconst (-1), 1) := by decide +kernel
theorem dX7_fill_17 : decode cX7_fill 17 = .ok (.if_icmp .eq 16, 3) := by decide +kernel
theorem dX7_fill_20 : decode cX7_fill 20 = .ok (.aload_n 0, 1) := by decide +kernel
theorem dX7_fill_21 : decode cX7_fill 21 = .ok (.getfield 19, 3) := by decide +kernel
theorem dX7_fill_24 : decode cX7_fill 24 = .ok (.iload_n 3, 1) := by decide +kernel
theorem dX7_fill_25 : decode cX7_fill 25 = .ok (.iload 4, 2) := by decide +kernel
theorem dX7_fill_27 : decode cX7_fill 27 = .ok (.invokevirtual 167, 3) := by decide +kernel
theorem dX7_fill_30 : decode cX7_fill 30 = .ok (.ifCond .ne 5, 3) := by decide +kernel
theorem dX7_fill_33 : decode cX7_fill 33 = .ok (.iconst (-1), 1) := by decide +kernel
theorem dX7_fill_34 : decode cX7_fill 34 = .ok (.ireturn, 1) := by decide +kernel
theorem dX7_fill_35 : decode cX7_fill 35 = .ok (.aload_n 0, 1) := by decide +kernel
theorem dX7_fill_36 : decode cX7_fill 36 = .ok (.getfield 31, 3) := by decide +kernel
theorem dX7_fill_39 : decode cX7_fill 39 = .ok (.getfield 108, 3) := by decide +kernel
theorem dX7_fill_42 : decode cX7_fill 42 = .ok (.getfield 149, 3) := by decide +kernel
theorem dX7_fill_45 : decode cX7_fill 45 = .ok (.iload 5, 2) := by decide +kernel
theorem dX7_fill_47 : decode cX7_fill 47 = .ok (.iaload, 1) := by decide +kernel
theorem dX7_fill_48 : decode cX7_fill 48 = .ok (.ifCond .ne 16, 3) := by decide +kernel
theorem dX7_fill_51 : decode cX7_fill 51 = .ok (.aload_n 0, 1) := by decide +kernel
theorem dX7_fill_52 : decode cX7_fill 52 = .ok (.getfield 19, 3) := by decide +kernel
theorem dX7_fill_55 : decode cX7_fill 55 = .ok (.iload_n 3, 1) := by decide +kernel
theorem dX7_fill_56 : decode cX7_fill 56 = .ok (.iload 4, 2) := by decide +kernel
theorem dX7_fill_58 : decode cX7_fill 58 = .ok (.invokevirtual 188, 3) := by decide +kernel
theorem dX7_fill_61 : decode cX7_fill 61 = .ok (.ifCond .ne 6, 3) := by decide +kernel
theorem dX7_fill_64 : decode cX7_fill 64 = .ok (.bipush (-2), 2) := by decide +kernel
theorem dX7_fill_66 : decode cX7_fill 66 = .ok (.ireturn, 1) := by decide +kernel
theorem dX7_fill_67 : decode cX7_fill 67 = .ok (.aload_n 0, 1) := by decide +kernel
theorem dX7_fill_68 : decode cX7_fill 68 = .ok (.getfield 31, 3) := by decide +kernel
theorem dX7_fill_71 : decode cX7_fill 71 = .ok (.iload_n 1, 1) := by decide +kernel
theorem dX7_fill_72 : decode cX7_fill 72 = .ok (.iload 5, 2) := by decide +kernel
theorem dX7_fill_74 : decode cX7_fill 74 = .ok (.invokevirtual 191, 3) := by decide +kernel
theorem dX7_fill_77 : decode cX7_fill 77 = .ok (.istore 6, 2) := by decide +kernel
theorem dX7_fill_79 : decode cX7_fill 79 = .ok (.aload_n 0, 1) := by decide +kernel
theorem dX7_fill_80 : decode cX7_fill 80 = .ok (.getfield 31, 3) := by decide +kernel
theorem dX7_fill_83 : decode cX7_fill 83 = .ok (.iload_n 3, 1) := by decide +kernel
theorem dX7_fill_84 : decode cX7_fill 84 = .ok (.iload 4, 2) := by decide +kernel
theorem dX7_fill_86 : decode cX7_fill 86 = .ok (.iload 6, 2) := by decide +kernel
theorem dX7_fill_88 : decode cX7_fill 88 = .ok (.invokevirtual 194, 3) := by decide +kernel
theorem dX7_fill_91 : decode cX7_fill 91 = .ok (.ifCond .ne 6, 3) := by decide +kernel
theorem dX7_fill_94 : decode cX7_fill 94 = .ok (.bipush (-2), 2) := by decide +kernel
theorem dX7_fill_96 : decode cX7_fill 96 = .ok (.ireturn, 1) := by decide +kernel
theorem dX7_fill_97 : decode cX7_fill 97 = .ok (.aload_n 0, 1) := by decide +kernel
theorem dX7_fill_98 : decode cX7_fill 98 = .ok (.getfield 50, 3) := by decide +kernel
theorem dX7_fill_101 : decode cX7_fill 101 = .ok (.aload_n 0, 1) := by decide +kernel
theorem dX7_fill_102 : decode cX7_fill 102 = .ok (.getfield 31, 3) := by decide +kernel
theorem dX7_fill_105 : decode cX7_fill 105 = .ok (.getfield 108, 3) := by decide +kernel
theorem dX7_fill_108 : decode cX7_fill 108 = .ok (.invokevirtual 175, 3) := by decide +kernel
theorem dX7_fill_111 : decode cX7_fill 111 = .ok (.aload_n 0, 1) := by decide +kernel
theorem dX7_fill_112 : decode cX7_fill 112 = .ok (.getfield 31, 3) := by decide +kernel
theorem dX7_fill_115 : decode cX7_fill 115 = .ok (.iload_n 1, 1) := by decide +kernel
theorem dX7_fill_116 : decode cX7_fill 116 = .ok (.iload 5, 2) := by decide +kernel
theorem dX7_fill_118 : decode cX7_fill 118 = .ok (.iload_n 3, 1) := by decide +kernel
theorem dX7_fill_119 : decode cX7_fill 119 = .ok (.iload 4, 2) := by decide +kernel
theorem dX7_fill_121 : decode cX7_fill 121 = .ok (.iload 6, 2) := by decide +kernel
theorem dX7_fill_123 : decode cX7_fill 123 = .ok (.invokevirtual 198, 3) := by decide +kernel
theorem dX7_fill_126 : decode cX7_fill 126 = .ok (.iload 6, 2) := by decide +kernel
theorem dX7_fill_128 : decode cX7_fill 128 = .ok (.ireturn, 1) := by decide +kernel
set_option maxRecDepth 20000 in
theorem ggX7_strike_X0_slotOf : GoodIn wsX7_strike wsX0_slotOf := goodIn_r _ [9, 10, 95, 96, 97, 98, 99, 100, 101, 102, 103] rfl (by decide +kernel)
set_option maxRecDepth 20000 in
theorem gX7_strike_X0_slotOf : GoodIn wsX7_strike (wsV RX7 145 RX0 yX0_slotOf wsX0_slotOf) := goodIn_app (goodIn_of _ (by decide +kernel)) ggX7_strike_X0_slotOf
set_option maxRecDepth 20000 in
theorem ggX7_strike_X5_put : GoodIn wsX7_strike wsX5_put := goodIn_r _ [15, 16, 17, 18, 19, 20, 14, 21, 22, 23, 24, 8, 25, 26, 27, 28, 29, 30, 31, 32, 10, 33, 34, 35, 36, 37, 104, 105, 95, 96, 97, 98, 99, 100, 101, 102, 103] rfl (by decide +kernel)
set_option maxRecDepth 20000 in
theorem gX7_strike_X5_put : GoodIn wsX7_strike (wsV RX7 175 RX5 yX5_put wsX5_put) := goodIn_app (goodIn_of _ (by decide +kernel)) ggX7_strike_X5_put
set_option maxRecDepth 20000 in
theorem ggX7_strike_X2_countHeld : GoodIn wsX7_strike wsX2_countHeld := goodIn_r _ [42, 43, 44, 45, 46, 41, 47, 48, 49, 50, 51, 52, 53, 54, 55, 56, 57, 58, 59, 60, 61, 62, 63, 6, 7, 8, 9, 10, 64, 65, 66, 67, 33, 68, 69, 70, 71, 72, 73, 74, 75, 76, 77, 78, 79, 80, 81, 82, 91, 92, 93, 94, 106, 107, 108, 95, 96, 97, 98, 99, 100, 101, 102, 103] rfl (by decide +kernel)
set_option maxRecDepth 20000 in
theorem gX7_strike_X2_countHeld : GoodIn wsX7_strike (wsV RX7 202 RX2 yX2_countHeld wsX2_countHeld) := goodIn_app (goodIn_of _ (by decide +kernel)) ggX7_strike_X2_countHeld
theorem dX7_strike_0 : decode cX7_strike 0 = .ok (.aload_n 0, 1) := by decide +kernel
theorem dX7_strike_1 : decode cX7_strike 1 = .ok (.getfield 31, 3) := by decide +kernel
theorem dX7_strike_4 : decode cX7_strike 4 = .ok (.getfield 108, 3) := by decide +kernel
theorem dX7_strike_7 : decode cX7_strike 7 = .ok (.iload_n 1, 1) := by decide +kernel
theorem dX7_strike_8 : decode cX7_strike 8 = .ok (.iload_n 2, 1) := by decide +kernel
theorem dX7_strike_9 : decode cX7_strike 9 = .ok (.invokevirtual 145, 3) := by decide +kernel
theorem dX7_strike_12 : decode cX7_strike 12 = .ok (.istore_n 3, 1) := by decide +kernel
theorem dX7_strike_13 : decode cX7_strike 13 = .ok (.iload_n 3, 1) := by decide +kernel
theorem dX7_strike_14 : decode cX7_strike 14 = .ok (.iconst (-1), 1) := by decide +kernel
theorem dX7_strike_15 : decode cX7_strike 15 = .ok (.if_icmp .ne 5, 3) := by decide +kernel
theorem dX7_strike_18 : decode cX7_strike 18 = .ok (.iconst (-1), 1) := by decide +kernel
theorem dX7_strike_19 : decode cX7_strike 19 = .ok (.ireturn, 1) := by decide +kernel
theorem dX7_strike_20 : decode cX7_strike 20 = .ok (.aload_n 0, 1) := by decide +kernel
theorem dX7_strike_21 : decode cX7_strike 21 = .ok (.getfield 31, 3) := by decide +kernel
theorem dX7_strike_24 : decode cX7_strike 24 = .ok (.getfield 108, 3) := by decide +kernel
theorem dX7_strike_27 : decode cX7_strike 27 = .ok (.getfield 149, 3) := by decide +kernel
theorem dX7_strike_30 : decode cX7_strike 30 = .ok (.iload_n 3, 1) := by decide +kernel
theorem dX7_strike_31 : decode cX7_strike 31 = .ok (.iaload, 1) := by decide +kernel
theorem dX7_strike_32 : decode cX7_strike 32 = .ok (.iconst 1, 1) := by decide +kernel
theorem dX7_strike_33 : decode cX7_strike 33 = .ok (.if_icmp .eq 6, 3) := by decide +kernel
theorem dX7_strike_36 : decode cX7_strike 36 = .ok (.bipush (-2), 2) := by decide +kernel
theorem dX7_strike_38 : decode cX7_strike 38 = .ok (.ireturn, 1) := by decide +kernel
theorem dX7_strike_39 : decode cX7_strike 39 = .ok (.aload_n 0, 1) := by decide +kernel
theorem dX7_strike_40 : decode cX7_strike 40 = .ok (.getfield 50, 3) := by decide +kernel
theorem dX7_strike_43 : decode cX7_strike 43 = .ok (.aload_n 0, 1) := by decide +kernel
theorem dX7_strike_44 : decode cX7_strike 44 = .ok (.getfield 31, 3) := by decide +kernel
theorem dX7_strike_47 : decode cX7_strike 47 = .ok (.getfield 108, 3) := by decide +kernel
theorem dX7_strike_50 : decode cX7_strike 50 = .ok (.invokevirtual 175, 3) := by decide +kernel
theorem dX7_strike_53 : decode cX7_strike 53 = .ok (.aload_n 0, 1) := by decide +kernel
theorem dX7_strike_54 : decode cX7_strike 54 = .ok (.getfield 31, 3) := by decide +kernel
theorem dX7_strike_57 : decode cX7_strike 57 = .ok (.getfield 108, 3) := by decide +kernel
theorem dX7_strike_60 : decode cX7_strike 60 = .ok (.getfield 149, 3) := by decide +kernel
theorem dX7_strike_63 : decode cX7_strike 63 = .ok (.iload_n 3, 1) := by decide +kernel
theorem dX7_strike_64 : decode cX7_strike 64 = .ok (.iconst 2, 1) := by decide +kernel
theorem dX7_strike_65 : decode cX7_strike 65 = .ok (.iastore, 1) := by decide +kernel
theorem dX7_strike_66 : decode cX7_strike 66 = .ok (.aload_n 0, 1) := by decide +kernel
theorem dX7_strike_67 : decode cX7_strike 67 = .ok (.getfield 31, 3) := by decide +kernel
theorem dX7_strike_70 : decode cX7_strike 70 = .ok (.invokevirtual 202, 3) := by decide +kernel
theorem dX7_strike_73 : decode cX7_strike 73 = .ok (.ireturn, 1) := by decide +kernel
set_option maxRecDepth 20000 in
theorem ggX7_pass_X5_put : GoodIn wsX7_pass wsX5_put := goodIn_r _ [9, 10, 11, 12, 13, 14, 8, 15, 16, 17, 18, 19, 20, 21, 22, 23, 24, 25, 26, 27, 28, 29, 30, 31, 32, 33, 55, 56, 46, 47, 48, 49, 50, 51, 52, 53, 54] rfl (by decide +kernel)
set_option maxRecDepth 20000 in
theorem gX7_pass_X5_put : GoodIn wsX7_pass (wsV RX7 175 RX5 yX5_put wsX5_put) := goodIn_app (goodIn_of _ (by decide +kernel)) ggX7_pass_X5_put
theorem dX7_pass_0 : decode cX7_pass 0 = .ok (.iload_n 1, 1) := by decide +kernel
theorem dX7_pass_1 : decode cX7_pass 1 = .ok (.iconst 1, 1) := by decide +kernel
theorem dX7_pass_2 : decode cX7_pass 2 = .ok (.if_icmp .lt 9, 3) := by decide +kernel
theorem dX7_pass_5 : decode cX7_pass 5 = .ok (.iload_n 1, 1) := by decide +kernel
theorem dX7_pass_6 : decode cX7_pass 6 = .ok (.bipush 30, 2) := by decide +kernel
theorem dX7_pass_8 : decode cX7_pass 8 = .ok (.if_icmp .le 5, 3) := by decide +kernel
theorem dX7_pass_11 : decode cX7_pass 11 = .ok (.iconst (-1), 1) := by decide +kernel
theorem dX7_pass_12 : decode cX7_pass 12 = .ok (.ireturn, 1) := by decide +kernel
theorem dX7_pass_13 : decode cX7_pass 13 = .ok (.aload_n 0, 1) := by decide +kernel
theorem dX7_pass_14 : decode cX7_pass 14 = .ok (.getfield 50, 3) := by decide +kernel
theorem dX7_pass_17 : decode cX7_pass 17 = .ok (.aload_n 0, 1) := by decide +kernel
theorem dX7_pass_18 : decode cX7_pass 18 = .ok (.getfield 31, 3) := by decide +kernel
theorem dX7_pass_21 : decode cX7_pass 21 = .ok (.getfield 108, 3) := by decide +kernel
theorem dX7_pass_24 : decode cX7_pass 24 = .ok (.invokevirtual 175, 3) := by decide +kernel
theorem dX7_pass_27 : decode cX7_pass 27 = .ok (.aload_n 0, 1) := by decide +kernel
theorem dX7_pass_28 : decode cX7_pass 28 = .ok (.getfield 31, 3) := by decide +kernel
theorem dX7_pass_31 : decode cX7_pass 31 = .ok (.getfield 108, 3) := by decide +kernel
theorem dX7_pass_34 : decode cX7_pass 34 = .ok (.dup, 1) := by decide +kernel
theorem dX7_pass_35 : decode cX7_pass 35 = .ok (.getfield 205, 3) := by decide +kernel
theorem dX7_pass_38 : decode cX7_pass 38 = .ok (.iload_n 1, 1) := by decide +kernel
theorem dX7_pass_39 : decode cX7_pass 39 = .ok (.iadd, 1) := by decide +kernel
theorem dX7_pass_40 : decode cX7_pass 40 = .ok (.putfield 205, 3) := by decide +kernel
theorem dX7_pass_43 : decode cX7_pass 43 = .ok (.aload_n 0, 1) := by decide +kernel
theorem dX7_pass_44 : decode cX7_pass 44 = .ok (.getfield 31, 3) := by decide +kernel
theorem dX7_pass_47 : decode cX7_pass 47 = .ok (.getfield 108, 3) := by decide +kernel
theorem dX7_pass_50 : decode cX7_pass 50 = .ok (.getfield 205, 3) := by decide +kernel
theorem dX7_pass_53 : decode cX7_pass 53 = .ok (.ireturn, 1) := by decide +kernel
set_option maxRecDepth 20000 in
theorem ggX7_undo_X5_takeInto : GoodIn wsX7_undo wsX5_takeInto := goodIn_r _ [9, 10, 11, 12, 13, 14, 15, 16, 17, 18, 19, 20, 21, 22, 23, 24, 25, 26, 27, 28, 29, 42, 43, 44, 45, 46, 47, 48, 49, 50, 51, 52] rfl (by decide +kernel)
set_option maxRecDepth 20000 in
theorem gX7_undo_X5_takeInto : GoodIn wsX7_undo (wsV RX7 208 RX5 yX5_takeInto wsX5_takeInto) := goodIn_app (goodIn_of _ (by decide +kernel)) ggX7_undo_X5_takeInto
theorem dX7_undo_0 : decode cX7_undo 0 = .ok (.aload_n 0, 1) := by decide +kernel
theorem dX7_undo_1 : decode cX7_undo 1 = .ok (.getfield 50, 3) := by decide +kernel
theorem dX7_undo_4 : decode cX7_undo 4 = .ok (.aload_n 0, 1) := by decide +kernel
theorem dX7_undo_5 : decode cX7_undo 5 = .ok (.getfield 31, 3) := by decide +kernel
theorem dX7_undo_8 : decode cX7_undo 8 = .ok (.getfield 108, 3) := by decide +kernel
theorem dX7_undo_11 : decode cX7_undo 11 = .ok (.invokevirtual 208, 3) := by decide +kernel
theorem dX7_undo_14 : decode cX7_undo 14 = .ok (.ifCond .eq 13, 3) := by decide +kernel
theorem dX7_undo_17 : decode cX7_undo 17 = .ok (.aload_n 0, 1) := by decide +kernel
theorem dX7_undo_18 : decode cX7_undo 18 = .ok (.getfield 50, 3) := by decide +kernel
theorem dX7_undo_21 : decode cX7_undo 21 = .ok (.getfield 92, 3) := by decide +kernel
theorem dX7_undo_24 : decode cX7_undo 24 = .ok (.goto 5, 3) := by decide +kernel
theorem dX7_undo_27 : decode cX7_undo 27 = .ok (.bipush (-2), 2) := by decide +kernel
theorem dX7_undo_29 : decode cX7_undo 29 = .ok (.ireturn, 1) := by decide +kernel
set_option maxRecDepth 20000 in
theorem ggX7_mate_X3_isPerson : GoodIn wsX7_mate wsX3_isPerson := goodIn_r _ [7, 8, 72, 73, 74, 75, 76, 77, 78, 79, 80, 81] rfl (by decide +kernel)
set_option maxRecDepth 20000 in
theorem gX7_mate_X3_isPerson : GoodIn wsX7_mate (wsV RX7 93 RX3 yX3_isPerson wsX3_isPerson) := goodIn_app (goodIn_of _ (by decide +kernel)) ggX7_mate_X3_isPerson
set_option maxRecDepth 20000 in
theorem ggX7_mate_X7_isDay : GoodIn wsX7_mate wsX7_isDay := goodIn_r _ [12] rfl (by decide +kernel)
set_option maxRecDepth 20000 in
theorem gX7_mate_X7_isDay : GoodIn wsX7_mate (va_wsS RX7 212 yX7_isDay wsX7_isDay) := goodIn_app (goodIn_of _ (by decide +kernel)) ggX7_mate_X7_isDay
set_option maxRecDepth 20000 in
theorem ggX7_mate_X2_mateBy : GoodIn wsX7_mate wsX2_mateBy := goodIn_r _ [17, 18, 19, 20, 21, 16, 22, 23, 24, 25, 26, 27, 28, 29, 30, 31, 32, 33, 34, 35, 36, 37, 38, 39, 40, 41, 42, 43, 44, 45, 46, 47, 48, 49, 50, 51, 52, 53, 54, 55, 56, 57, 58, 59, 60, 61, 62, 63, 82, 83, 84, 85, 86, 87, 88, 89, 90, 91, 92, 93, 94, 95, 96, 97] rfl (by decide +kernel)
set_option maxRecDepth 20000 in
theorem gX7_mate_X2_mateBy : GoodIn wsX7_mate (wsV RX7 215 RX2 yX2_mateBy wsX2_mateBy) := goodIn_app (goodIn_of _ (by decide +kernel)) ggX7_mate_X2_mateBy
theorem dX7_mate_0 : decode cX7_mate 0 = .ok (.aload_n 0, 1) := by decide +kernel
theorem dX7_mate_1 : decode cX7_mate 1 = .ok (.getfield 19, 3) := by decide +kernel
theorem dX7_mate_4 : decode cX7_mate 4 = .ok (.iload_n 1, 1) := by decide +kernel
theorem dX7_mate_5 : decode cX7_mate 5 = .ok (.invokevirtual 93, 3) := by decide +kernel
theorem dX7_mate_8 : decode cX7_mate 8 = .ok (.ifCond .eq 10, 3) := by decide +kernel
theorem dX7_mate_11 : decode cX7_mate 11 = .ok (.iload_n 2, 1) := by decide +kernel
theorem dX7_mate_12 : decode cX7_mate 12 = .ok (.invokestatic 212, 3) := by decide +kernel
theorem dX7_mate_15 : decode cX7_mate 15 = .ok (.ifCond .ne 5, 3) := by decide +kernel
theorem dX7_mate_18 : decode cX7_mate 18 = .ok (.iconst (-1), 1) := by decide +kernel
theorem dX7_mate_19 : decode cX7_mate 19 = .ok (.ireturn, 1) := by decide +kernel
theorem dX7_mate_20 : decode cX7_mate 20 = .ok (.aload_n 0, 1) := by decide +kernel
theorem dX7_mate_21 : decode cX7_mate 21 = .ok (.getfield 31, 3) := by decide +kernel
theorem dX7_mate_24 : decode cX7_mate 24 = .ok (.iload_n 1, 1) := by decide +kernel
theorem dX7_mate_25 : decode cX7_mate 25 = .ok (.iload_n 2, 1) := by decide +kernel
theorem dX7_mate_26 : decode cX7_mate 26 = .ok (.invokevirtual 215, 3) := by decide +kernel
theorem dX7_mate_29 : decode cX7_mate 29 = .ok (.ireturn, 1) := by decide +kernel
set_option maxRecDepth 20000 in
theorem ggX7_twice_X0_linesWith : GoodIn wsX7_twice wsX0_linesWith := goodIn_r _ [9, 10, 11, 12, 13, 14, 8, 15, 16, 17, 18, 19, 20, 21, 44, 45, 46, 47, 48, 49, 50, 51, 52] rfl (by decide +kernel)
set_option maxRecDepth 20000 in
theorem gX7_twice_X0_linesWith : GoodIn wsX7_twice (wsV RX7 124 RX0 yX0_linesWith wsX0_linesWith) := goodIn_app (goodIn_of _ (by decide +kernel)) ggX7_twice_X0_linesWith
theorem dX7_twice_0 : decode cX7_twice 0 = .ok (.iconst 0, 1) := by decide +kernel
theorem dX7_twice_1 : decode cX7_twice 1 = .ok (.istore_n 1, 1) := by decide +kernel
theorem dX7_twice_2 : decode cX7_twice 2 = .ok (.iconst 0, 1) := by decide +kernel
theorem dX7_twice_3 : decode cX7_twice 3 = .ok (.istore_n 2, 1) := by decide +kernel
theorem dX7_twice_4 : decode cX7_twice 4 = .ok (.iload_n 2, 1) := by decide +kernel
theorem dX7_twice_5 : decode cX7_twice 5 = .ok (.aload_n 0, 1) := by decide +kernel
theorem dX7_twice_6 : decode cX7_twice 6 = .ok (.getfield 19, 3) := by decide +kernel
theorem dX7_twice_9 : decode cX7_twice 9 = .ok (.getfield 83, 3) := by decide +kernel
theorem dX7_twice_12 : decode cX7_twice 12 = .ok (.if_icmp .ge 30, 3) := by decide +kernel
theorem dX7_twice_15 : decode cX7_twice 15 = .ok (.aload_n 0, 1) := by decide +kernel
theorem dX7_twice_16 : decode cX7_twice 16 = .ok (.getfield 31, 3) := by decide +kernel
theorem dX7_twice_19 : decode cX7_twice 19 = .ok (.getfield 108, 3) := by decide +kernel
theorem dX7_twice_22 : decode cX7_twice 22 = .ok (.iload_n 2, 1) := by decide +kernel
theorem dX7_twice_23 : decode cX7_twice 23 = .ok (.invokevirtual 124, 3) := by decide +kernel
theorem dX7_twice_26 : decode cX7_twice 26 = .ok (.iconst 2, 1) := by decide +kernel
theorem dX7_twice_27 : decode cX7_twice 27 = .ok (.if_icmp .lt 9, 3) := by decide +kernel
theorem dX7_twice_30 : decode cX7_twice 30 = .ok (.iload_n 1, 1) := by decide +kernel
theorem dX7_twice_31 : decode cX7_twice 31 = .ok (.iconst 1, 1) := by decide +kernel
theorem dX7_twice_32 : decode cX7_twice 32 = .ok (.iload_n 2, 1) := by decide +kernel
theorem dX7_twice_33 : decode cX7_twice 33 = .ok (.ishl, 1) := by decide +kernel
theorem dX7_twice_34 : decode cX7_twice 34 = .ok (.ior, 1) := by decide +kernel
theorem dX7_twice_35 : decode cX7_twice 35 = .ok (.istore_n 1, 1) := by decide +kernel
theorem dX7_twice_36 : decode cX7_twice 36 = .ok (.iinc 2 1, 3) := by decide +kernel
theorem dX7_twice_39 : decode cX7_twice 39 = .ok (.goto (-35), 3) := by decide +kernel
theorem dX7_twice_42 : decode cX7_twice 42 = .ok (.iload_n 1, 1) := by decide +kernel
theorem dX7_twice_43 : decode cX7_twice 43 = .ok (.ireturn, 1) := by decide +kernel
set_option maxRecDepth 20000 in
theorem ggX7_falseOnes_X0_countOf : GoodIn wsX7_falseOnes wsX0_countOf := goodIn_r _ [7, 8, 9, 10, 11, 6, 12, 13, 61, 62, 63, 64, 65, 66, 67, 68, 69] rfl (by decide +kernel)
set_option maxRecDepth 20000 in
theorem gX7_falseOnes_X0_countOf : GoodIn wsX7_falseOnes (wsV RX7 218 RX0 yX0_countOf wsX0_countOf) := goodIn_app (goodIn_of _ (by decide +kernel)) ggX7_falseOnes_X0_countOf
set_option maxRecDepth 20000 in
theorem ggX7_falseOnes_X2_mostLinesApart : GoodIn wsX7_falseOnes wsX2_mostLinesApart := goodIn_r _ [18, 19, 20, 21, 17, 22, 23, 24, 25, 26, 27, 28, 29, 30, 6, 31, 8, 9, 10, 11, 12, 13, 32, 33, 34, 35, 36, 37, 38, 39, 40, 41, 42, 43, 44, 45, 46, 47, 48, 57, 58, 59, 60, 61, 62, 63, 64, 65, 66, 67, 68, 69, 70, 71, 72, 73, 74, 75, 76, 77, 78, 79] rfl (by decide +kernel)
set_option maxRecDepth 20000 in
theorem gX7_falseOnes_X2_mostLinesApart : GoodIn wsX7_falseOnes (wsV RX7 221 RX2 yX2_mostLinesApart wsX2_mostLinesApart) := goodIn_app (goodIn_of _ (by decide +kernel)) ggX7_falseOnes_X2_mostLinesApart
theorem dX7_falseOnes_0 : decode cX7_falseOnes 0 = .ok (.aload_n 0, 1) := by decide +kernel
theorem dX7_falseOnes_1 : decode cX7_falseOnes 1 = .ok (.getfield 31, 3) := by decide +kernel
theorem dX7_falseOnes_4 : decode cX7_falseOnes 4 = .ok (.getfield 108, 3) := by decide +kernel
theorem dX7_falseOnes_7 : decode cX7_falseOnes 7 = .ok (.iconst 1, 1) := by decide +kernel
theorem dX7_falseOnes_8 : decode cX7_falseOnes 8 = .ok (.invokevirtual 218, 3) := by decide +kernel
theorem dX7_falseOnes_11 : decode cX7_falseOnes 11 = .ok (.aload_n 0, 1) := by decide +kernel
theorem dX7_falseOnes_12 : decode cX7_falseOnes 12 = .ok (.getfield 31, 3) := by decide +kernel
theorem dX7_falseOnes_15 : decode cX7_falseOnes 15 = .ok (.invokevirtual 221, 3) := by decide +kernel
theorem dX7_falseOnes_18 : decode cX7_falseOnes 18 = .ok (.isub, 1) := by decide +kernel
theorem dX7_falseOnes_19 : decode cX7_falseOnes 19 = .ok (.ireturn, 1) := by decide +kernel
set_option maxRecDepth 20000 in
theorem ggX7_date_X3_isParson : GoodIn wsX7_date wsX3_isParson := goodIn_r _ [7, 8, 65, 66, 67, 68, 69, 70, 71, 72, 73, 74] rfl (by decide +kernel)
set_option maxRecDepth 20000 in
theorem gX7_date_X3_isParson : GoodIn wsX7_date (wsV RX7 127 RX3 yX3_isParson wsX3_isParson) := goodIn_app (goodIn_of _ (by decide +kernel)) ggX7_date_X3_isParson
set_option maxRecDepth 20000 in
theorem ggX7_date_X7_isDay : GoodIn wsX7_date wsX7_isDay := goodIn_r _ [12] rfl (by decide +kernel)
set_option maxRecDepth 20000 in
theorem gX7_date_X7_isDay : GoodIn wsX7_date (va_wsS RX7 212 yX7_isDay wsX7_isDay) := goodIn_app (goodIn_of _ (by decide +kernel)) ggX7_date_X7_isDay
set_option maxRecDepth 20000 in
theorem ggX7_date_X7_isPart : GoodIn wsX7_date wsX7_isPart := goodIn_r _ [15] rfl (by decide +kernel)
set_option maxRecDepth 20000 in
theorem gX7_date_X7_isPart : GoodIn wsX7_date (va_wsS RX7 224 yX7_isPart wsX7_isPart) := goodIn_app (goodIn_of _ (by decide +kernel)) ggX7_date_X7_isPart
set_option maxRecDepth 20000 in
theorem ggX7_date_X2_cheapestLine : GoodIn wsX7_date wsX2_cheapestLine := goodIn_r _ [20, 21, 22, 23, 24, 25, 26, 27, 28, 29, 30, 31, 32, 33, 19, 34, 35, 36, 37, 38, 39, 40, 41, 42, 4, 5, 6, 7, 8, 43, 44, 45, 46, 47, 48, 49, 50, 51, 52, 53, 54, 55, 75, 76, 77, 78, 79, 80, 81, 82, 83, 84, 85, 86, 87, 65, 66, 67, 68, 69, 70, 71, 72, 73, 74] rfl (by decide +kernel)
set_option maxRecDepth 20000 in
theorem gX7_date_X2_cheapestLine : GoodIn wsX7_date (wsV RX7 227 RX2 yX2_cheapestLine wsX2_cheapestLine) := goodIn_app (goodIn_of _ (by decide +kernel)) ggX7_date_X2_cheapestLine
set_option maxRecDepth 20000 in
theorem ggX7_date_X2_costOfLine : GoodIn wsX7_date wsX2_costOfLine := goodIn_r _ [34, 21, 35, 36, 25, 26, 27, 28, 29, 30, 37, 38, 39, 19, 40, 24, 23, 41, 42, 4, 5, 6, 7, 8, 43, 44, 45, 46, 75, 76, 77, 78, 65, 66, 67, 68, 69, 70, 71, 72, 73, 74, 79, 80, 81, 82, 83, 84, 85, 86, 87] rfl (by decide +kernel)
set_option maxRecDepth 20000 in
theorem gX7_date_X2_costOfLine : GoodIn wsX7_date (wsV RX7 230 RX2 yX2_costOfLine wsX2_costOfLine) := goodIn_app (goodIn_of _ (by decide +kernel)) ggX7_date_X2_costOfLine
theorem dX7_date_0 : decode cX7_date 0 = .ok (.aload_n 0, 1) := by decide +kernel
theorem dX7_date_1 : decode cX7_date 1 = .ok (.getfield 19, 3) := by decide +kernel
theorem dX7_date_4 : decode cX7_date 4 = .ok (.iload_n 1, 1) := by decide +kernel
theorem dX7_date_5 : decode cX7_date 5 = .ok (.invokevirtual 127, 3) := by decide +kernel
theorem dX7_date_8 : decode cX7_date 8 = .ok (.ifCond .eq 17, 3) := by decide +kernel
theorem dX7_date_11 : decode cX7_date 11 = .ok (.iload_n 2, 1) := by decide +kernel
theorem dX7_date_12 : decode cX7_date 12 = .ok (.invokestatic 212, 3) := by decide +kernel
theorem dX7_date_15 : decode cX7_date 15 = .ok (.ifCond .eq 10, 3) := by decide +kernel
theorem dX7_date_18 : decode cX7_date 18 = .ok (.iload_n 3, 1) := by decide +kernel
theorem dX7_date_19 : decode cX7_date 19 = .ok (.invokestatic 224, 3) := by decide +kernel
theorem dX7_date_22 : decode cX7_date 22 = .ok (.ifCond .ne 5, 3) := by decide +kernel
theorem dX7_date_25 : decode cX7_date 25 = .ok (.iconst (-1), 1) := by decide +kernel
theorem dX7_date_26 : decode cX7_date 26 = .ok (.ireturn, 1) := by decide +kernel
theorem dX7_date_27 : decode cX7_date 27 = .ok (.aload_n 0, 1) := by decide +kernel
theorem dX7_date_28 : decode cX7_date 28 = .ok (.getfield 31, 3) := by decide +kernel
theorem dX7_date_31 : decode cX7_date 31 = .ok (.iload_n 1, 1) := by decide +kernel
theorem dX7_date_32 : decode cX7_date 32 = .ok (.iload_n 2, 1) := by decide +kernel
theorem dX7_date_33 : decode cX7_date 33 = .ok (.invokevirtual 227, 3) := by decide +kernel
theorem dX7_date_36 : decode cX7_date 36 = .ok (.istore 4, 2) := by decide +kernel
theorem dX7_date_38 : decode cX7_date 38 = .ok (.iload 4, 2) := by decide +kernel
theorem dX7_date_40 : decode cX7_date 40 = .ok (.bipush (-4), 2) := by decide +kernel
theorem dX7_date_42 : decode cX7_date 42 = .ok (.if_icmp .eq 8, 3) := by decide +kernel
theorem dX7_date_45 : decode cX7_date 45 = .ok (.iload_n 3, 1) := by decide +kernel
theorem dX7_date_46 : decode cX7_date 46 = .ok (.iconst 1, 1) := by decide +kernel
theorem dX7_date_47 : decode cX7_date 47 = .ok (.if_icmp .ne 6, 3) := by decide +kernel
theorem dX7_date_50 : decode cX7_date 50 = .ok (.iload 4, 2) := by decide +kernel
theorem dX7_date_52 : decode cX7_date 52 = .ok (.ireturn, 1) := by decide +kernel
theorem dX7_date_53 : decode cX7_date 53 = .ok (.aload_n 0, 1) := by decide +kernel
theorem dX7_date_54 : decode cX7_date 54 = .ok (.getfield 31, 3) := by decide +kernel
theorem dX7_date_57 : decode cX7_date 57 = .ok (.iload_n 1, 1) := by decide +kernel
theorem dX7_date_58 : decode cX7_date 58 = .ok (.iload 4, 2) := by decide +kernel
theorem dX7_date_60 : decode cX7_date 60 = .ok (.invokevirtual 230, 3) := by decide +kernel
theorem dX7_date_63 : decode cX7_date 63 = .ok (.ireturn, 1) := by decide +kernel
set_option maxRecDepth 20000 in
theorem ggX7_look_X7_isPart : GoodIn wsX7_look wsX7_isPart := goodIn_r _ [5] rfl (by decide +kernel)
set_option maxRecDepth 20000 in
theorem gX7_look_X7_isPart : GoodIn wsX7_look (va_wsS RX7 224 yX7_isPart wsX7_isPart) := goodIn_app (goodIn_of _ (by decide +kernel)) ggX7_look_X7_isPart
set_option maxRecDepth 20000 in
theorem ggX7_look_X2_booksThatHold : GoodIn wsX7_look wsX2_booksThatHold := goodIn_r _ [10, 11, 12, 13, 14, 9, 15, 16, 17, 18, 19, 20, 21, 22, 23, 24, 25, 26, 27, 28, 29, 30, 31, 32, 33, 34, 35, 36, 37, 38, 39, 40, 41, 42, 43, 44, 45, 46, 47, 48, 49, 50, 51, 52, 53, 54, 55, 56, 72, 73, 74, 75, 76, 77, 78, 79, 80, 81, 82, 83, 84, 85, 86, 87] rfl (by decide +kernel)
set_option maxRecDepth 20000 in
theorem gX7_look_X2_booksThatHold : GoodIn wsX7_look (wsV RX7 233 RX2 yX2_booksThatHold wsX2_booksThatHold) := goodIn_app (goodIn_of _ (by decide +kernel)) ggX7_look_X2_booksThatHold
set_option maxRecDepth 20000 in
theorem ggX7_look_J6_bitCount_0f7a4 : GoodIn wsX7_look wsJ6_bitCount_0f7a4 := goodIn_r _ [60, 61, 62, 63] rfl (by decide +kernel)
set_option maxRecDepth 20000 in
theorem gX7_look_J6_bitCount_0f7a4 : GoodIn wsX7_look (va_wsS RX7 236 yJ6_bitCount_0f7a4 wsJ6_bitCount_0f7a4) := goodIn_app (goodIn_of _ (by decide +kernel)) ggX7_look_J6_bitCount_0f7a4
theorem dX7_look_0 : decode cX7_look 0 = .ok (.iload_n 1, 1) := by decide +kernel
theorem dX7_look_1 : decode cX7_look 1 = .ok (.invokestatic 224, 3) := by decide +kernel
theorem dX7_look_4 : decode cX7_look 4 = .ok (.ifCond .ne 5, 3) := by decide +kernel
theorem dX7_look_7 : decode cX7_look 7 = .ok (.iconst (-1), 1) := by decide +kernel
theorem dX7_look_8 : decode cX7_look 8 = .ok (.ireturn, 1) := by decide +kernel
theorem dX7_look_9 : decode cX7_look 9 = .ok (.aload_n 0, 1) := by decide +kernel
theorem dX7_look_10 : decode cX7_look 10 = .ok (.getfield 31, 3) := by decide +kernel
theorem dX7_look_13 : decode cX7_look 13 = .ok (.invokevirtual 233, 3) := by decide +kernel
theorem dX7_look_16 : decode cX7_look 16 = .ok (.istore_n 2, 1) := by decide +kernel
theorem dX7_look_17 : decode cX7_look 17 = .ok (.iload_n 1, 1) := by decide +kernel
theorem dX7_look_18 : decode cX7_look 18 = .ok (.ifCond .ne 10, 3) := by decide +kernel
theorem dX7_look_21 : decode cX7_look 21 = .ok (.iload_n 2, 1) := by decide +kernel
theorem dX7_look_22 : decode cX7_look 22 = .ok (.invokestatic 236, 3) := by decide +kernel
theorem dX7_look_25 : decode cX7_look 25 = .ok (.goto 4, 3) := by decide +kernel
theorem dX7_look_28 : decode cX7_look 28 = .ok (.iload_n 2, 1) := by decide +kernel
theorem dX7_look_29 : decode cX7_look 29 = .ok (.ireturn, 1) := by decide +kernel
set_option maxRecDepth 20000 in
theorem ggX7_can_X3_isPerson : GoodIn wsX7_can wsX3_isPerson := goodIn_r _ [8, 9, 64, 65, 66, 67, 68, 69, 70, 71, 72, 73] rfl (by decide +kernel)
set_option maxRecDepth 20000 in
theorem gX7_can_X3_isPerson : GoodIn wsX7_can (wsV RX7 93 RX3 yX3_isPerson wsX3_isPerson) := goodIn_app (goodIn_of _ (by decide +kernel)) ggX7_can_X3_isPerson
set_option maxRecDepth 20000 in
theorem ggX7_can_X2_canWedSomewhere : GoodIn wsX7_can wsX2_canWedSomewhere := goodIn_r _ [14, 15, 16, 17, 18, 19, 13, 20, 21, 22, 23, 24, 25, 7, 26, 27, 28, 29, 30, 31, 32, 33, 34, 35, 36, 37, 9, 38, 39, 40, 41, 42, 43, 44, 45, 46, 47, 48, 49, 5, 6, 8, 50, 51, 52, 53, 54, 55, 74, 75, 76, 77, 64, 65, 66, 67, 68, 69, 70, 71, 72, 73, 78, 79, 80, 81, 82, 83, 84, 85, 86] rfl (by decide +kernel)
set_option maxRecDepth 20000 in
theorem gX7_can_X2_canWedSomewhere : GoodIn wsX7_can (wsV RX7 241 RX2 yX2_canWedSomewhere wsX2_canWedSomewhere) := goodIn_app (goodIn_of _ (by decide +kernel)) ggX7_can_X2_canWedSomewhere
theorem dX7_can_0 : decode cX7_can 0 = .ok (.aload_n 0, 1) := by decide +kernel
theorem dX7_can_1 : decode cX7_can 1 = .ok (.getfield 19, 3) := by decide +kernel
theorem dX7_can_4 : decode cX7_can 4 = .ok (.iload_n 1, 1) := by decide +kernel
theorem dX7_can_5 : decode cX7_can 5 = .ok (.invokevirtual 93, 3) := by decide +kernel
theorem dX7_can_8 : decode cX7_can 8 = .ok (.ifCond .ne 5, 3) := by decide +kernel
theorem dX7_can_11 : decode cX7_can 11 = .ok (.iconst (-1), 1) := by decide +kernel
theorem dX7_can_12 : decode cX7_can 12 = .ok (.ireturn, 1) := by decide +kernel
theorem dX7_can_13 : decode cX7_can 13 = .ok (.iconst 0, 1) := by decide +kernel
theorem dX7_can_14 : decode cX7_can 14 = .ok (.istore_n 2, 1) := by decide +kernel
theorem dX7_can_15 : decode cX7_can 15 = .ok (.iconst 0, 1) := by decide +kernel
theorem dX7_can_16 : decode cX7_can 16 = .ok (.istore_n 3, 1) := by decide +kernel
theorem dX7_can_17 : decode cX7_can 17 = .ok (.iload_n 3, 1) := by decide +kernel
theorem dX7_can_18 : decode cX7_can 18 = .ok (.aload_n 0, 1) := by decide +kernel
theorem dX7_can_19 : decode cX7_can 19 = .ok (.getfield 19, 3) := by decide +kernel
theorem dX7_can_22 : decode cX7_can 22 = .ok (.getfield 83, 3) := by decide +kernel
theorem dX7_can_25 : decode cX7_can 25 = .ok (.if_icmp .ge 27, 3) := by decide +kernel
theorem dX7_can_28 : decode cX7_can 28 = .ok (.aload_n 0, 1) := by decide +kernel
theorem dX7_can_29 : decode cX7_can 29 = .ok (.getfield 31, 3) := by decide +kernel
theorem dX7_can_32 : decode cX7_can 32 = .ok (.iload_n 1, 1) := by decide +kernel
theorem dX7_can_33 : decode cX7_can 33 = .ok (.iload_n 3, 1) := by decide +kernel
theorem dX7_can_34 : decode cX7_can 34 = .ok (.invokevirtual 241, 3) := by decide +kernel
theorem dX7_can_37 : decode cX7_can 37 = .ok (.ifCond .eq 9, 3) := by decide +kernel
theorem dX7_can_40 : decode cX7_can 40 = .ok (.iload_n 2, 1) := by decide +kernel
theorem dX7_can_41 : decode cX7_can 41 = .ok (.iconst 1, 1) := by decide +kernel
theorem dX7_can_42 : decode cX7_can 42 = .ok (.iload_n 3, 1) := by decide +kernel
theorem dX7_can_43 : decode cX7_can 43 = .ok (.ishl, 1) := by decide +kernel
theorem dX7_can_44 : decode cX7_can 44 = .ok (.ior, 1) := by decide +kernel
theorem dX7_can_45 : decode cX7_can 45 = .ok (.istore_n 2, 1) := by decide +kernel
theorem dX7_can_46 : decode cX7_can 46 = .ok (.iinc 3 1, 3) := by decide +kernel
theorem dX7_can_49 : decode cX7_can 49 = .ok (.goto (-32), 3) := by decide +kernel
theorem dX7_can_52 : decode cX7_can 52 = .ok (.iload_n 2, 1) := by decide +kernel
theorem dX7_can_53 : decode cX7_can 53 = .ok (.ireturn, 1) := by decide +kernel
set_option maxRecDepth 20000 in
theorem ggX7_see_X3_areTwo : GoodIn wsX7_see wsX3_areTwo := goodIn_r _ [8, 9, 33, 34, 35, 36, 37, 38, 39, 40, 41, 42] rfl (by decide +kernel)
set_option maxRecDepth 20000 in
theorem gX7_see_X3_areTwo : GoodIn wsX7_see (wsV RX7 167 RX3 yX3_areTwo wsX3_areTwo) := goodIn_app (goodIn_of _ (by decide +kernel)) ggX7_see_X3_areTwo
set_option maxRecDepth 20000 in
theorem ggX7_see_X6_add : GoodIn wsX7_see wsX6_add := goodIn_r _ [14, 15, 16, 17, 18, 19, 28, 29, 30, 31, 32] rfl (by decide +kernel)
set_option maxRecDepth 20000 in
theorem gX7_see_X6_add : GoodIn wsX7_see (wsV RX7 244 RX6 yX6_add wsX6_add) := goodIn_app (goodIn_of _ (by decide +kernel)) ggX7_see_X6_add
theorem dX7_see_0 : decode cX7_see 0 = .ok (.aload_n 0, 1) := by decide +kernel
theorem dX7_see_1 : decode cX7_see 1 = .ok (.getfield 19, 3) := by decide +kernel
theorem dX7_see_4 : decode cX7_see 4 = .ok (.iload_n 1, 1) := by decide +kernel
theorem dX7_see_5 : decode cX7_see 5 = .ok (.iload_n 2, 1) := by decide +kernel
theorem dX7_see_6 : decode cX7_see 6 = .ok (.invokevirtual 167, 3) := by decide +kernel
theorem dX7_see_9 : decode cX7_see 9 = .ok (.ifCond .eq 13, 3) := by decide +kernel
theorem dX7_see_12 : decode cX7_see 12 = .ok (.iload_n 3, 1) := by decide +kernel
theorem dX7_see_13 : decode cX7_see 13 = .ok (.ifCond .lt 9, 3) := by decide +kernel
theorem dX7_see_16 : decode cX7_see 16 = .ok (.iload_n 3, 1) := by decide +kernel
theorem dX7_see_17 : decode cX7_see 17 = .ok (.bipush 99, 2) := by decide +kernel
theorem dX7_see_19 : decode cX7_see 19 = .ok (.if_icmp .le 5, 3) := by decide +kernel
theorem dX7_see_22 : decode cX7_see 22 = .ok (.iconst (-1), 1) := by decide +kernel
theorem dX7_see_23 : decode cX7_see 23 = .ok (.ireturn, 1) := by decide +kernel
theorem dX7_see_24 : decode cX7_see 24 = .ok (.aload_n 0, 1) := by decide +kernel
theorem dX7_see_25 : decode cX7_see 25 = .ok (.getfield 41, 3) := by decide +kernel
theorem dX7_see_28 : decode cX7_see 28 = .ok (.iload_n 1, 1) := by decide +kernel
theorem dX7_see_29 : decode cX7_see 29 = .ok (.iload_n 2, 1) := by decide +kernel
theorem dX7_see_30 : decode cX7_see 30 = .ok (.iload_n 3, 1) := by decide +kernel
theorem dX7_see_31 : decode cX7_see 31 = .ok (.iload 4, 2) := by decide +kernel
theorem dX7_see_33 : decode cX7_see 33 = .ok (.invokevirtual 244, 3) := by decide +kernel
theorem dX7_see_36 : decode cX7_see 36 = .ok (.ifCond .eq 13, 3) := by decide +kernel
theorem dX7_see_39 : decode cX7_see 39 = .ok (.aload_n 0, 1) := by decide +kernel
theorem dX7_see_40 : decode cX7_see 40 = .ok (.getfield 41, 3) := by decide +kernel
theorem dX7_see_43 : decode cX7_see 43 = .ok (.getfield 89, 3) := by decide +kernel
theorem dX7_see_46 : decode cX7_see 46 = .ok (.goto 5, 3) := by decide +kernel
theorem dX7_see_49 : decode cX7_see 49 = .ok (.bipush (-3), 2) := by decide +kernel
theorem dX7_see_51 : decode cX7_see 51 = .ok (.ireturn, 1) := by decide +kernel
theorem dX7_forget_0 : decode cX7_forget 0 = .ok (.aload_n 0, 1) := by decide +kernel
theorem dX7_forget_1 : decode cX7_forget 1 = .ok (.getfield 41, 3) := by decide +kernel
theorem dX7_forget_4 : decode cX7_forget 4 = .ok (.getfield 89, 3) := by decide +kernel
theorem dX7_forget_7 : decode cX7_forget 7 = .ok (.istore_n 1, 1) := by decide +kernel
theorem dX7_forget_8 : decode cX7_forget 8 = .ok (.aload_n 0, 1) := by decide +kernel
theorem dX7_forget_9 : decode cX7_forget 9 = .ok (.getfield 41, 3) := by decide +kernel
theorem dX7_forget_12 : decode cX7_forget 12 = .ok (.iconst 0, 1) := by decide +kernel
theorem dX7_forget_13 : decode cX7_forget 13 = .ok (.putfield 89, 3) := by decide +kernel
theorem dX7_forget_16 : decode cX7_forget 16 = .ok (.iload_n 1, 1) := by decide +kernel
theorem dX7_forget_17 : decode cX7_forget 17 = .ok (.ireturn, 1) := by decide +kernel
set_option maxRecDepth 20000 in
theorem ggX7_trueBy_X7_isPart : GoodIn wsX7_trueBy wsX7_isPart := goodIn_r _ [6] rfl (by decide +kernel)
set_option maxRecDepth 20000 in
theorem gX7_trueBy_X7_isPart : GoodIn wsX7_trueBy (va_wsS RX7 224 yX7_isPart wsX7_isPart) := goodIn_app (goodIn_of _ (by decide +kernel)) ggX7_trueBy_X7_isPart
set_option maxRecDepth 20000 in
theorem ggX7_trueBy_X0_isOfTwo : GoodIn wsX7_trueBy wsX0_isOfTwo := goodIn_r _ [11, 12, 13, 14, 15, 10, 16, 17, 77, 78, 79, 80, 81, 82, 83, 84, 85] rfl (by decide +kernel)
set_option maxRecDepth 20000 in
theorem gX7_trueBy_X0_isOfTwo : GoodIn wsX7_trueBy (wsV RX7 247 RX0 yX0_isOfTwo wsX0_isOfTwo) := goodIn_app (goodIn_of _ (by decide +kernel)) ggX7_trueBy_X0_isOfTwo
set_option maxRecDepth 20000 in
theorem ggX7_trueBy_X7_isSeenWithout : GoodIn wsX7_trueBy wsX7_isSeenWithout := goodIn_r _ [21, 1, 22, 23, 24, 25, 26, 27, 28, 29, 30, 31, 32, 33, 34, 35, 36, 37, 38, 39, 40, 41, 10, 42, 17, 43, 8, 9, 11, 12, 13, 14, 15, 16, 44, 45, 46, 47, 48, 49, 50, 51, 52, 53, 54, 55, 56, 57, 58, 59, 60, 61, 62, 63, 64, 65, 66, 67, 68, 69, 70, 71, 72, 73, 74, 75, 76, 86, 87, 88, 77, 78, 79, 80, 81, 82, 83, 84, 85, 89, 90, 91, 92, 93] rfl (by decide +kernel)
set_option maxRecDepth 20000 in
theorem gX7_trueBy_X7_isSeenWithout : GoodIn wsX7_trueBy (wsV RX7 250 RX7 yX7_isSeenWithout wsX7_isSeenWithout) := goodIn_app (goodIn_of _ (by decide +kernel)) ggX7_trueBy_X7_isSeenWithout
theorem dX7_trueBy_0 : decode cX7_trueBy 0 = .ok (.iload_n 1, 1) := by decide +kernel
theorem dX7_trueBy_1 : decode cX7_trueBy 1 = .ok (.invokestatic 224, 3) := by decide +kernel
theorem dX7_trueBy_4 : decode cX7_trueBy 4 = .ok (.ifCond .ne 5, 3) := by decide +kernel
theorem dX7_trueBy_7 : decode cX7_trueBy 7 = .ok (.iconst (-1), 1) := by decide +kernel
theorem dX7_trueBy_8 : decode cX7_trueBy 8 = .ok (.ireturn, 1) := by decide +kernel
theorem dX7_trueBy_9 : decode cX7_trueBy 9 = .ok (.iconst 0, 1) := by decide +kernel
theorem dX7_trueBy_10 : decode cX7_trueBy 10 = .ok (.istore_n 2, 1) := by decide +kernel
theorem dX7_trueBy_11 : decode cX7_trueBy 11 = .ok (.bipush (-4), 2) := by decide +kernel
theorem dX7_trueBy_13 : decode cX7_trueBy 13 = .ok (.istore_n 3, 1) := by decide +kernel
theorem dX7_trueBy_14 : decode cX7_trueBy 14 = .ok (.iconst 0, 1) := by decide +kernel
theorem dX7_trueBy_15 : decode cX7_trueBy 15 = .ok (.istore 4, 2) := by decide +kernel
theorem dX7_trueBy_17 : decode cX7_trueBy 17 = .ok (.iload 4, 2) := by decide +kernel
theorem dX7_trueBy_19 : decode cX7_trueBy 19 = .ok (.bipush 24, 2) := by decide +kernel
theorem dX7_trueBy_21 : decode cX7_trueBy 21 = .ok (.if_icmp .ge 61, 3) := by decide +kernel
theorem dX7_trueBy_24 : decode cX7_trueBy 24 = .ok (.aload_n 0, 1) := by decide +kernel
theorem dX7_trueBy_25 : decode cX7_trueBy 25 = .ok (.getfield 31, 3) := by decide +kernel
theorem dX7_trueBy_28 : decode cX7_trueBy 28 = .ok (.getfield 108, 3) := by decide +kernel
theorem dX7_trueBy_31 : decode cX7_trueBy 31 = .ok (.iload 4, 2) := by decide +kernel
theorem dX7_trueBy_33 : decode cX7_trueBy 33 = .ok (.invokevirtual 247, 3) := by decide +kernel
theorem dX7_trueBy_36 : decode cX7_trueBy 36 = .ok (.ifCond .eq 40, 3) := by decide +kernel
theorem dX7_trueBy_39 : decode cX7_trueBy 39 = .ok (.aload_n 0, 1) := by decide +kernel
theorem dX7_trueBy_40 : decode cX7_trueBy 40 = .ok (.iload 4, 2) := by decide +kernel
theorem dX7_trueBy_42 : decode cX7_trueBy 42 = .ok (.invokevirtual 250, 3) := by decide +kernel
theorem dX7_trueBy_45 : decode cX7_trueBy 45 = .ok (.ifCond .eq 31, 3) := by decide +kernel
theorem dX7_trueBy_48 : decode cX7_trueBy 48 = .ok (.iinc 2 1, 3) := by decide +kernel
theorem dX7_trueBy_51 : decode cX7_trueBy 51 = .ok (.iload_n 3, 1) := by decide +kernel
theorem dX7_trueBy_52 : decode cX7_trueBy 52 = .ok (.bipush (-4), 2) := by decide +kernel
theorem dX7_trueBy_54 : decode cX7_trueBy 54 = .ok (.if_icmp .ne 20, 3) := by decide +kernel
theorem dX7_trueBy_57 : decode cX7_trueBy 57 = .ok (.bipush 10, 2) := by decide +kernel
theorem dX7_trueBy_59 : decode cX7_trueBy 59 = .ok (.iload 4, 2) := by decide +kernel
theorem dX7_trueBy_61 : decode cX7_trueBy 61 = .ok (.bipush 8, 2) := by decide +kernel
theorem dX7_trueBy_63 : decode cX7_trueBy 63 = .ok (.idiv, 1) := by decide +kernel
theorem dX7_trueBy_64 : decode cX7_trueBy 64 = .ok (.imul, 1) := by decide +kernel
theorem dX7_trueBy_65 : decode cX7_trueBy 65 = .ok (.iload 4, 2) := by decide +kernel
theorem dX7_trueBy_67 : decode cX7_trueBy 67 = .ok (.bipush 8, 2) := by decide +kernel
theorem dX7_trueBy_69 : decode cX7_trueBy 69 = .ok (.irem, 1) := by decide +kernel
theorem dX7_trueBy_70 : decode cX7_trueBy 70 = .ok (.iadd, 1) := by decide +kernel
theorem dX7_trueBy_71 : decode cX7_trueBy 71 = .ok (.goto 4, 3) := by decide +kernel
theorem dX7_trueBy_74 : decode cX7_trueBy 74 = .ok (.iload_n 3, 1) := by decide +kernel
theorem dX7_trueBy_75 : decode cX7_trueBy 75 = .ok (.istore_n 3, 1) := by decide +kernel
theorem dX7_trueBy_76 : decode cX7_trueBy 76 = .ok (.iinc 4 1, 3) := by decide +kernel
theorem dX7_trueBy_79 : decode cX7_trueBy 79 = .ok (.goto (-62), 3) := by decide +kernel
theorem dX7_trueBy_82 : decode cX7_trueBy 82 = .ok (.iload_n 1, 1) := by decide +kernel
theorem dX7_trueBy_83 : decode cX7_trueBy 83 = .ok (.iconst 1, 1) := by decide +kernel
theorem dX7_trueBy_84 : decode cX7_trueBy 84 = .ok (.if_icmp .ne 5, 3) := by decide +kernel
theorem dX7_trueBy_87 : decode cX7_trueBy 87 = .ok (.iload_n 3, 1) := by decide +kernel
theorem dX7_trueBy_88 : decode cX7_trueBy 88 = .ok (.ireturn, 1) := by decide +kernel
theorem dX7_trueBy_89 : decode cX7_trueBy 89 = .ok (.aload_n 0, 1) := by decide +kernel
theorem dX7_trueBy_90 : decode cX7_trueBy 90 = .ok (.iconst (-1), 1) := by decide +kernel
theorem dX7_trueBy_91 : decode cX7_trueBy 91 = .ok (.invokevirtual 250, 3) := by decide +kernel
theorem dX7_trueBy_94 : decode cX7_trueBy 94 = .ok (.ifCond .eq 11, 3) := by decide +kernel
theorem dX7_trueBy_97 : decode cX7_trueBy 97 = .ok (.iload_n 2, 1) := by decide +kernel
theorem dX7_trueBy_98 : decode cX7_trueBy 98 = .ok (.sipush 256, 3) := by decide +kernel
theorem dX7_trueBy_101 : decode cX7_trueBy 101 = .ok (.iadd, 1) := by decide +kernel
theorem dX7_trueBy_102 : decode cX7_trueBy 102 = .ok (.goto 4, 3) := by decide +kernel
theorem dX7_trueBy_105 : decode cX7_trueBy 105 = .ok (.iload_n 2, 1) := by decide +kernel
theorem dX7_trueBy_106 : decode cX7_trueBy 106 = .ok (.ireturn, 1) := by decide +kernel
set_option maxRecDepth 20000 in
theorem ggX7_isSeenWithout_X1_settle : GoodIn wsX7_isSeenWithout wsX1_settle := goodIn_r _ [8, 9, 10, 11, 12, 13, 14, 15, 16, 7, 17, 18, 19, 20, 21, 22, 23, 24, 25, 26, 27, 28, 29, 30, 31, 32, 33, 34, 35, 36, 37, 38, 39, 40, 67, 68, 69, 70, 71, 72, 73, 74, 75, 76, 77, 78] rfl (by decide +kernel)
set_option maxRecDepth 20000 in
theorem gX7_isSeenWithout_X1_settle : GoodIn wsX7_isSeenWithout (wsV RX7 257 RX1 yX1_settle wsX1_settle) := goodIn_app (goodIn_of _ (by decide +kernel)) ggX7_isSeenWithout_X1_settle
set_option maxRecDepth 20000 in
theorem ggX7_isSeenWithout_X6_areSo : GoodIn wsX7_isSeenWithout wsX6_areSo := goodIn_r _ [45, 46, 47, 48, 49, 50, 51, 52, 53, 7, 54, 9, 11, 18, 12, 13, 38, 39, 40, 25, 26, 27, 22, 28, 29, 30, 31, 32, 33, 24, 79, 80, 81, 82, 83, 67, 68, 69, 70, 71, 72, 73, 74, 75, 76, 77, 78] rfl (by decide +kernel)
set_option maxRecDepth 20000 in
theorem gX7_isSeenWithout_X6_areSo : GoodIn wsX7_isSeenWithout (wsV RX7 262 RX6 yX6_areSo wsX6_areSo) := goodIn_app (goodIn_of _ (by decide +kernel)) ggX7_isSeenWithout_X6_areSo
theorem dX7_isSeenWithout_0 : decode cX7_isSeenWithout 0 = .ok (.aload_n 0, 1) := by decide +kernel
theorem dX7_isSeenWithout_1 : decode cX7_isSeenWithout 1 = .ok (.getfield 31, 3) := by decide +kernel
theorem dX7_isSeenWithout_4 : decode cX7_isSeenWithout 4 = .ok (.getfield 253, 3) := by decide +kernel
theorem dX7_isSeenWithout_7 : decode cX7_isSeenWithout 7 = .ok (.iload_n 1, 1) := by decide +kernel
theorem dX7_isSeenWithout_8 : decode cX7_isSeenWithout 8 = .ok (.invokevirtual 257, 3) := by decide +kernel
theorem dX7_isSeenWithout_11 : decode cX7_isSeenWithout 11 = .ok (.aload_n 0, 1) := by decide +kernel
theorem dX7_isSeenWithout_12 : decode cX7_isSeenWithout 12 = .ok (.getfield 41, 3) := by decide +kernel
theorem dX7_isSeenWithout_15 : decode cX7_isSeenWithout 15 = .ok (.aload_n 0, 1) := by decide +kernel
theorem dX7_isSeenWithout_16 : decode cX7_isSeenWithout 16 = .ok (.getfield 31, 3) := by decide +kernel
theorem dX7_isSeenWithout_19 : decode cX7_isSeenWithout 19 = .ok (.getfield 253, 3) := by decide +kernel
theorem dX7_isSeenWithout_22 : decode cX7_isSeenWithout 22 = .ok (.invokevirtual 262, 3) := by decide +kernel
theorem dX7_isSeenWithout_25 : decode cX7_isSeenWithout 25 = .ok (.ireturn, 1) := by decide +kernel
set_option maxRecDepth 20000 in
theorem ggX7_hand_X0_slotOf : GoodIn wsX7_hand wsX0_slotOf := goodIn_r _ [10, 11, 24, 25, 26, 27, 28, 29, 30, 31, 32] rfl (by decide +kernel)
set_option maxRecDepth 20000 in
theorem gX7_hand_X0_slotOf : GoodIn wsX7_hand (wsV RX7 145 RX0 yX0_slotOf wsX0_slotOf) := goodIn_app (goodIn_of _ (by decide +kernel)) ggX7_hand_X0_slotOf
theorem dX7_hand_0 : decode cX7_hand 0 = .ok (.aload_n 0, 1) := by decide +kernel
theorem dX7_hand_1 : decode cX7_hand 1 = .ok (.getfield 31, 3) := by decide +kernel
theorem dX7_hand_4 : decode cX7_hand 4 = .ok (.getfield 108, 3) := by decide +kernel
theorem dX7_hand_7 : decode cX7_hand 7 = .ok (.iload_n 1, 1) := by decide +kernel
theorem dX7_hand_8 : decode cX7_hand 8 = .ok (.iload_n 2, 1) := by decide +kernel
theorem dX7_hand_9 : decode cX7_hand 9 = .ok (.invokevirtual 145, 3) := by decide +kernel
theorem dX7_hand_12 : decode cX7_hand 12 = .ok (.istore_n 3, 1) := by decide +kernel
theorem dX7_hand_13 : decode cX7_hand 13 = .ok (.iload_n 3, 1) := by decide +kernel
theorem dX7_hand_14 : decode cX7_hand 14 = .ok (.iconst (-1), 1) := by decide +kernel
theorem dX7_hand_15 : decode cX7_hand 15 = .ok (.if_icmp .ne 5, 3) := by decide +kernel
theorem dX7_hand_18 : decode cX7_hand 18 = .ok (.iconst (-1), 1) := by decide +kernel
theorem dX7_hand_19 : decode cX7_hand 19 = .ok (.ireturn, 1) := by decide +kernel
theorem dX7_hand_20 : decode cX7_hand 20 = .ok (.aload_n 0, 1) := by decide +kernel
theorem dX7_hand_21 : decode cX7_hand 21 = .ok (.getfield 31, 3) := by decide +kernel
theorem dX7_hand_24 : decode cX7_hand 24 = .ok (.getfield 108, 3) := by decide +kernel
theorem dX7_hand_27 : decode cX7_hand 27 = .ok (.getfield 149, 3) := by decide +kernel
theorem dX7_hand_30 : decode cX7_hand 30 = .ok (.iload_n 3, 1) := by decide +kernel
theorem dX7_hand_31 : decode cX7_hand 31 = .ok (.iaload, 1) := by decide +kernel
theorem dX7_hand_32 : decode cX7_hand 32 = .ok (.iconst 1, 1) := by decide +kernel
theorem dX7_hand_33 : decode cX7_hand 33 = .ok (.if_icmp .eq 6, 3) := by decide +kernel
theorem dX7_hand_36 : decode cX7_hand 36 = .ok (.bipush (-2), 2) := by decide +kernel
theorem dX7_hand_38 : decode cX7_hand 38 = .ok (.ireturn, 1) := by decide +kernel
theorem dX7_hand_39 : decode cX7_hand 39 = .ok (.aload_n 0, 1) := by decide +kernel
theorem dX7_hand_40 : decode cX7_hand 40 = .ok (.getfield 31, 3) := by decide +kernel
theorem dX7_hand_43 : decode cX7_hand 43 = .ok (.getfield 108, 3) := by decide +kernel
theorem dX7_hand_46 : decode cX7_hand 46 = .ok (.getfield 164, 3) := by decide +kernel
theorem dX7_hand_49 : decode cX7_hand 49 = .ok (.iload_n 3, 1) := by decide +kernel
theorem dX7_hand_50 : decode cX7_hand 50 = .ok (.iaload, 1) := by decide +kernel
theorem dX7_hand_51 : decode cX7_hand 51 = .ok (.aload_n 0, 1) := by decide +kernel
theorem dX7_hand_52 : decode cX7_hand 52 = .ok (.getfield 31, 3) := by decide +kernel
theorem dX7_hand_55 : decode cX7_hand 55 = .ok (.getfield 108, 3) := by decide +kernel
theorem dX7_hand_58 : decode cX7_hand 58 = .ok (.getfield 152, 3) := by decide +kernel
theorem dX7_hand_61 : decode cX7_hand 61 = .ok (.iload_n 3, 1) := by decide +kernel
theorem dX7_hand_62 : decode cX7_hand 62 = .ok (.iaload, 1) := by decide +kernel
theorem dX7_hand_63 : decode cX7_hand 63 = .ok (.if_icmp .ne 8, 3) := by decide +kernel
theorem dX7_hand_66 : decode cX7_hand 66 = .ok (.bipush 7, 2) := by decide +kernel
theorem dX7_hand_68 : decode cX7_hand 68 = .ok (.goto 5, 3) := by decide +kernel
theorem dX7_hand_71 : decode cX7_hand 71 = .ok (.bipush 6, 2) := by decide +kernel
theorem dX7_hand_73 : decode cX7_hand 73 = .ok (.ireturn, 1) := by decide +kernel
set_option maxRecDepth 20000 in
theorem ggX7_child_X3_isPerson : GoodIn wsX7_child wsX3_isPerson := goodIn_r _ [8, 9, 73, 74, 75, 76, 77, 78, 79, 80, 81, 82] rfl (by decide +kernel)
set_option maxRecDepth 20000 in
theorem gX7_child_X3_isPerson : GoodIn wsX7_child (wsV RX7 93 RX3 yX3_isPerson wsX3_isPerson) := goodIn_app (goodIn_of _ (by decide +kernel)) ggX7_child_X3_isPerson
set_option maxRecDepth 20000 in
theorem ggX7_child_X7_isDay : GoodIn wsX7_child wsX7_isDay := goodIn_r _ [13] rfl (by decide +kernel)
set_option maxRecDepth 20000 in
theorem gX7_child_X7_isDay : GoodIn wsX7_child (va_wsS RX7 212 yX7_isDay wsX7_isDay) := goodIn_app (goodIn_of _ (by decide +kernel)) ggX7_child_X7_isDay
set_option maxRecDepth 20000 in
theorem ggX7_child_X2_mateBy : GoodIn wsX7_child wsX2_mateBy := goodIn_r _ [18, 19, 20, 21, 22, 17, 23, 24, 25, 26, 27, 28, 29, 30, 31, 32, 33, 34, 35, 36, 37, 38, 39, 40, 41, 42, 43, 44, 45, 46, 47, 48, 49, 50, 51, 52, 53, 54, 55, 56, 57, 58, 59, 60, 61, 62, 63, 64, 83, 84, 85, 86, 87, 88, 89, 90, 91, 92, 93, 94, 95, 96, 97, 98] rfl (by decide +kernel)
set_option maxRecDepth 20000 in
theorem gX7_child_X2_mateBy : GoodIn wsX7_child (wsV RX7 215 RX2 yX2_mateBy wsX2_mateBy) := goodIn_app (goodIn_of _ (by decide +kernel)) ggX7_child_X2_mateBy
theorem dX7_child_0 : decode cX7_child 0 = .ok (.aload_n 0, 1) := by decide +kernel
theorem dX7_child_1 : decode cX7_child 1 = .ok (.getfield 19, 3) := by decide +kernel
theorem dX7_child_4 : decode cX7_child 4 = .ok (.iload_n 1, 1) := by decide +kernel
theorem dX7_child_5 : decode cX7_child 5 = .ok (.invokevirtual 93, 3) := by decide +kernel
theorem dX7_child_8 : decode cX7_child 8 = .ok (.ifCond .eq 22, 3) := by decide +kernel
theorem dX7_child_11 : decode cX7_child 11 = .ok (.aload_n 0, 1) := by decide +kernel
theorem dX7_child_12 : decode cX7_child 12 = .ok (.getfield 19, 3) := by decide +kernel
theorem dX7_child_15 : decode cX7_child 15 = .ok (.getfield 97, 3) := by decide +kernel
theorem dX7_child_18 : decode cX7_child 18 = .ok (.iload_n 1, 1) := by decide +kernel
theorem dX7_child_19 : decode cX7_child 19 = .ok (.baload, 1) := by decide +kernel
theorem dX7_child_20 : decode cX7_child 20 = .ok (.ifCond .eq 10, 3) := by decide +kernel
theorem dX7_child_23 : decode cX7_child 23 = .ok (.iload_n 2, 1) := by decide +kernel
theorem dX7_child_24 : decode cX7_child 24 = .ok (.invokestatic 212, 3) := by decide +kernel
theorem dX7_child_27 : decode cX7_child 27 = .ok (.ifCond .ne 5, 3) := by decide +kernel
theorem dX7_child_30 : decode cX7_child 30 = .ok (.iconst (-1), 1) := by decide +kernel
theorem dX7_child_31 : decode cX7_child 31 = .ok (.ireturn, 1) := by decide +kernel
theorem dX7_child_32 : decode cX7_child 32 = .ok (.aload_n 0, 1) := by decide +kernel
theorem dX7_child_33 : decode cX7_child 33 = .ok (.getfield 31, 3) := by decide +kernel
theorem dX7_child_36 : decode cX7_child 36 = .ok (.iload_n 1, 1) := by decide +kernel
theorem dX7_child_37 : decode cX7_child 37 = .ok (.iload_n 2, 1) := by decide +kernel
theorem dX7_child_38 : decode cX7_child 38 = .ok (.bipush 9, 2) := by decide +kernel
theorem dX7_child_40 : decode cX7_child 40 = .ok (.isub, 1) := by decide +kernel
theorem dX7_child_41 : decode cX7_child 41 = .ok (.invokevirtual 215, 3) := by decide +kernel
theorem dX7_child_44 : decode cX7_child 44 = .ok (.bipush (-4), 2) := by decide +kernel
theorem dX7_child_46 : decode cX7_child 46 = .ok (.if_icmp .ne 7, 3) := by decide +kernel
theorem dX7_child_49 : decode cX7_child 49 = .ok (.iconst 0, 1) := by decide +kernel
theorem dX7_child_50 : decode cX7_child 50 = .ok (.goto 4, 3) := by decide +kernel
theorem dX7_child_53 : decode cX7_child 53 = .ok (.iconst 1, 1) := by decide +kernel
theorem dX7_child_54 : decode cX7_child 54 = .ok (.ireturn, 1) := by decide +kernel
set_option maxRecDepth 20000 in
theorem ggX7_touts_X7_isPart : GoodIn wsX7_touts wsX7_isPart := goodIn_r _ [5] rfl (by decide +kernel)
set_option maxRecDepth 20000 in
theorem gX7_touts_X7_isPart : GoodIn wsX7_touts (va_wsS RX7 224 yX7_isPart wsX7_isPart) := goodIn_app (goodIn_of _ (by decide +kernel)) ggX7_touts_X7_isPart
set_option maxRecDepth 20000 in
theorem ggX7_touts_X2_singles : GoodIn wsX7_touts wsX2_singles := goodIn_r _ [10, 11, 12, 13, 14, 15, 16, 17, 18, 19, 9, 20, 21, 22, 23, 24, 25, 26, 27, 28, 29, 30, 31, 32, 33, 34, 35, 36, 37, 38, 39, 40, 41, 42, 43, 44, 45, 46, 47, 48, 49, 50, 51, 52, 53, 54, 55, 56, 57, 58, 59, 60, 61, 145, 146, 147, 148, 149, 150, 151, 152, 153, 154, 155, 156, 157, 158, 159, 160, 161, 162, 163, 164, 165, 166, 167, 168, 169, 170] rfl (by decide +kernel)
set_option maxRecDepth 20000 in
theorem gX7_touts_X2_singles : GoodIn wsX7_touts (wsV RX7 266 RX2 yX2_singles wsX2_singles) := goodIn_app (goodIn_of _ (by decide +kernel)) ggX7_touts_X2_singles
set_option maxRecDepth 20000 in
theorem ggX7_touts_J6_bitCount_0f7a4 : GoodIn wsX7_touts wsJ6_bitCount_0f7a4 := goodIn_r _ [65, 66, 67, 68] rfl (by decide +kernel)
set_option maxRecDepth 20000 in
theorem gX7_touts_J6_bitCount_0f7a4 : GoodIn wsX7_touts (va_wsS RX7 236 yJ6_bitCount_0f7a4 wsJ6_bitCount_0f7a4) := goodIn_app (goodIn_of _ (by decide +kernel)) ggX7_touts_J6_bitCount_0f7a4
set_option maxRecDepth 20000 in
theorem ggX7_touts_X2_waysToWed : GoodIn wsX7_touts wsX2_waysToWed := goodIn_r _ [72, 73, 7, 8, 9, 10, 11, 12, 13, 14, 15, 16, 17, 18, 19, 20, 21, 22, 23, 24, 25, 26, 27, 28, 29, 30, 31, 32, 33, 34, 35, 36, 37, 38, 39, 40, 41, 42, 43, 44, 45, 46, 47, 48, 49, 50, 51, 52, 53, 54, 55, 56, 57, 58, 59, 60, 61, 74, 75, 76, 77, 78, 79, 80, 81, 82, 83, 84, 85, 86, 87, 88, 89, 90, 91, 92, 93, 94, 95, 96, 97, 98, 99, 100, 101, 102, 103, 104, 105, 106, 107, 108, 109, 110, 111, 112, 113, 114, 115, 116, 117, 118, 119, 120, 121, 122, 123, 124, 125, 126, 127, 128, 129, 130, 131, 132, 133, 145, 146, 147, 148, 149, 150, 151, 152, 153, 154, 155, 156, 157, 158, 159, 160, 161, 162, 163, 164, 165, 166, 167, 168, 169, 170] rfl (by decide +kernel)
set_option maxRecDepth 20000 in
theorem gX7_touts_X2_waysToWed : GoodIn wsX7_touts (wsV RX7 270 RX2 yX2_waysToWed wsX2_waysToWed) := goodIn_app (goodIn_of _ (by decide +kernel)) ggX7_touts_X2_waysToWed
set_option maxRecDepth 20000 in
theorem ggX7_touts_X7_commonDivisor : GoodIn wsX7_touts wsX7_commonDivisor := goodIn_r _ [136] rfl (by decide +kernel)
set_option maxRecDepth 20000 in
theorem gX7_touts_X7_commonDivisor : GoodIn wsX7_touts (va_wsS RX7 273 yX7_commonDivisor wsX7_commonDivisor) := goodIn_app (goodIn_of _ (by decide +kernel)) ggX7_touts_X7_commonDivisor
theorem dX7_touts_0 : decode cX7_touts 0 = .ok (.iload_n 1, 1) := by decide +kernel
theorem dX7_touts_1 : decode cX7_touts 1 = .ok (.ifCond .lt 26, 3) := by decide +kernel
theorem dX7_touts_4 : decode cX7_touts 4 = .ok (.iload_n 1, 1) := by decide +kernel
theorem dX7_touts_5 : decode cX7_touts 5 = .ok (.bipush 8, 2) := by decide +kernel
theorem dX7_touts_7 : decode cX7_touts 7 = .ok (.if_icmp .gt 20, 3) := by decide +kernel
theorem dX7_touts_10 : decode cX7_touts 10 = .ok (.iload_n 2, 1) := by decide +kernel
theorem dX7_touts_11 : decode cX7_touts 11 = .ok (.ifCond .lt 16, 3) := by decide +kernel
theorem dX7_touts_14 : decode cX7_touts 14 = .ok (.iload_n 2, 1) := by decide +kernel
theorem dX7_touts_15 : decode cX7_touts 15 = .ok (.bipush 10, 2) := by decide +kernel
theorem dX7_touts_17 : decode cX7_touts 17 = .ok (.if_icmp .gt 10, 3) := by decide +kernel
theorem dX7_touts_20 : decode cX7_touts 20 = .ok (.iload_n 3, 1) := by decide +kernel
theorem dX7_touts_21 : decode cX7_touts 21 = .ok (.invokestatic 224, 3) := by decide +kernel
theorem dX7_touts_24 : decode cX7_touts 24 = .ok (.ifCond .ne 5, 3) := by decide +kernel
theorem dX7_touts_27 : decode cX7_touts 27 = .ok (.iconst (-1), 1) := by decide +kernel
theorem dX7_touts_28 : decode cX7_touts 28 = .ok (.ireturn, 1) := by decide +kernel
theorem dX7_touts_29 : decode cX7_touts 29 = .ok (.iconst 1, 1) := by decide +kernel
theorem dX7_touts_30 : decode cX7_touts 30 = .ok (.istore 4, 2) := by decide +kernel
theorem dX7_touts_32 : decode cX7_touts 32 = .ok (.aload_n 0, 1) := by decide +kernel
theorem dX7_touts_33 : decode cX7_touts 33 = .ok (.getfield 31, 3) := by decide +kernel
theorem dX7_touts_36 : decode cX7_touts 36 = .ok (.iconst 1, 1) := by decide +kernel
theorem dX7_touts_37 : decode cX7_touts 37 = .ok (.invokevirtual 266, 3) := by decide +kernel
theorem dX7_touts_40 : decode cX7_touts 40 = .ok (.invokestatic 236, 3) := by decide +kernel
theorem dX7_touts_43 : decode cX7_touts 43 = .ok (.istore 5, 2) := by decide +kernel
theorem dX7_touts_45 : decode cX7_touts 45 = .ok (.iload 5, 2) := by decide +kernel
theorem dX7_touts_47 : decode cX7_touts 47 = .ok (.ifCond .le 16, 3) := by decide +kernel
theorem dX7_touts_50 : decode cX7_touts 50 = .ok (.iload 4, 2) := by decide +kernel
theorem dX7_touts_52 : decode cX7_touts 52 = .ok (.bipush 10, 2) := by decide +kernel
theorem dX7_touts_54 : decode cX7_touts 54 = .ok (.imul, 1) := by decide +kernel
theorem dX7_touts_55 : decode cX7_touts 55 = .ok (.istore 4, 2) := by decide +kernel
theorem dX7_touts_57 : decode cX7_touts 57 = .ok (.iinc 5 (-1), 3) := by decide +kernel
theorem dX7_touts_60 : decode cX7_touts 60 = .ok (.goto (-15), 3) := by decide +kernel
theorem dX7_touts_63 : decode cX7_touts 63 = .ok (.aload_n 0, 1) := by decide +kernel
theorem dX7_touts_64 : decode cX7_touts 64 = .ok (.getfield 31, 3) := by decide +kernel
theorem dX7_touts_67 : decode cX7_touts 67 = .ok (.iload_n 1, 1) := by decide +kernel
theorem dX7_touts_68 : decode cX7_touts 68 = .ok (.iload_n 2, 1) := by decide +kernel
theorem dX7_touts_69 : decode cX7_touts 69 = .ok (.invokevirtual 270, 3) := by decide +kernel
theorem dX7_touts_72 : decode cX7_touts 72 = .ok (.istore 5, 2) := by decide +kernel
theorem dX7_touts_74 : decode cX7_touts 74 = .ok (.iload 5, 2) := by decide +kernel
theorem dX7_touts_76 : decode cX7_touts 76 = .ok (.iload 4, 2) := by decide +kernel
theorem dX7_touts_78 : decode cX7_touts 78 = .ok (.invokestatic 273, 3) := by decide +kernel
theorem dX7_touts_81 : decode cX7_touts 81 = .ok (.istore 6, 2) := by decide +kernel
theorem dX7_touts_83 : decode cX7_touts 83 = .ok (.iload 6, 2) := by decide +kernel
theorem dX7_touts_85 : decode cX7_touts 85 = .ok (.iconst 1, 1) := by decide +kernel
theorem dX7_touts_86 : decode cX7_touts 86 = .ok (.if_icmp .ge 6, 3) := by decide +kernel
theorem dX7_touts_89 : decode cX7_touts 89 = .ok (.bipush (-4), 2) := by decide +kernel
theorem dX7_touts_91 : decode cX7_touts 91 = .ok (.ireturn, 1) := by decide +kernel
theorem dX7_touts_92 : decode cX7_touts 92 = .ok (.iload_n 3, 1) := by decide +kernel
theorem dX7_touts_93 : decode cX7_touts 93 = .ok (.ifCond .ne 8, 3) := by decide +kernel
theorem dX7_touts_96 : decode cX7_touts 96 = .ok (.iload 5, 2) := by decide +kernel
theorem dX7_touts_98 : decode cX7_touts 98 = .ok (.goto 5, 3) := by decide +kernel
theorem dX7_touts_101 : decode cX7_touts 101 = .ok (.iload 4, 2) := by decide +kernel
theorem dX7_touts_103 : decode cX7_touts 103 = .ok (.iload 6, 2) := by decide +kernel
theorem dX7_touts_105 : decode cX7_touts 105 = .ok (.idiv, 1) := by decide +kernel
theorem dX7_touts_106 : decode cX7_touts 106 = .ok (.ireturn, 1) := by decide +kernel
set_option maxRecDepth 20000 in
theorem ggX7_gaol_X7_isPart : GoodIn wsX7_gaol wsX7_isPart := goodIn_r _ [7] rfl (by decide +kernel)
set_option maxRecDepth 20000 in
theorem gX7_gaol_X7_isPart : GoodIn wsX7_gaol (va_wsS RX7 224 yX7_isPart wsX7_isPart) := goodIn_app (goodIn_of _ (by decide +kernel)) ggX7_gaol_X7_isPart
set_option maxRecDepth 20000 in
theorem ggX7_gaol_X0_copyFrom : GoodIn wsX7_gaol wsX0_copyFrom := goodIn_r _ [12, 13, 14, 15, 16, 17, 18, 19, 20, 21, 22, 23, 24, 25, 181, 182, 183, 184, 185, 186, 187, 188, 189] rfl (by decide +kernel)
set_option maxRecDepth 20000 in
theorem gX7_gaol_X0_copyFrom : GoodIn wsX7_gaol (wsV RX7 276 RX0 yX0_copyFrom wsX0_copyFrom) := goodIn_app (goodIn_of _ (by decide +kernel)) ggX7_gaol_X0_copyFrom
set_option maxRecDepth 20000 in
theorem ggX7_gaol_X0_paidInAll : GoodIn wsX7_gaol wsX0_paidInAll := goodIn_r _ [29, 19, 181, 182, 183, 184, 185, 186, 187, 188, 189] rfl (by decide +kernel)
set_option maxRecDepth 20000 in
theorem gX7_gaol_X0_paidInAll : GoodIn wsX7_gaol (wsV RX7 279 RX0 yX0_paidInAll wsX0_paidInAll) := goodIn_app (goodIn_of _ (by decide +kernel)) ggX7_gaol_X0_paidInAll
set_option maxRecDepth 20000 in
theorem ggX7_gaol_X7_draw : GoodIn wsX7_gaol wsX7_draw := goodIn_r _ [32, 33, 34, 35] rfl (by decide +kernel)
set_option maxRecDepth 20000 in
theorem gX7_gaol_X7_draw : GoodIn wsX7_gaol (va_wsS RX7 282 yX7_draw wsX7_draw) := goodIn_app (goodIn_of _ (by decide +kernel)) ggX7_gaol_X7_draw
set_option maxRecDepth 20000 in
theorem ggX7_gaol_X2_liveDay : GoodIn wsX7_gaol wsX2_liveDay := goodIn_r _ [40, 41, 42, 43, 44, 45, 46, 47, 48, 39, 49, 50, 51, 52, 53, 54, 55, 56, 57, 58, 59, 60, 61, 62, 63, 64, 65, 66, 67, 68, 69, 70, 71, 72, 73, 74, 75, 76, 77, 78, 79, 80, 81, 82, 83, 84, 11, 85, 20, 86, 87, 88, 89, 90, 91, 92, 93, 21, 22, 13, 94, 95, 96, 97, 98, 99, 100, 101, 102, 103, 104, 105, 106, 107, 108, 109, 110, 111, 112, 113, 114, 115, 116, 117, 118, 119, 120, 121, 122, 123, 124, 125, 126, 127, 177, 178, 179, 180, 190, 191, 192, 193, 194, 195, 196, 197, 198, 199, 181, 182, 183, 184, 185, 186, 187, 188, 189] rfl (by decide +kernel)
set_option maxRecDepth 20000 in
theorem gX7_gaol_X2_liveDay : GoodIn wsX7_gaol (wsV RX7 285 RX2 yX2_liveDay wsX2_liveDay) := goodIn_app (goodIn_of _ (by decide +kernel)) ggX7_gaol_X2_liveDay
set_option maxRecDepth 20000 in
theorem ggX7_gaol_X2_countHeld : GoodIn wsX7_gaol wsX2_countHeld := goodIn_r _ [131, 132, 133, 134, 135, 39, 136, 137, 138, 139, 140, 141, 142, 143, 144, 145, 146, 147, 148, 149, 150, 151, 152, 96, 97, 11, 98, 20, 153, 154, 155, 156, 21, 157, 115, 116, 117, 158, 159, 160, 161, 162, 163, 164, 165, 166, 167, 168, 177, 178, 179, 180, 200, 201, 202, 181, 182, 183, 184, 185, 186, 187, 188, 189] rfl (by decide +kernel)
set_option maxRecDepth 20000 in
theorem gX7_gaol_X2_countHeld : GoodIn wsX7_gaol (wsV RX7 202 RX2 yX2_countHeld wsX2_countHeld) := goodIn_app (goodIn_of _ (by decide +kernel)) ggX7_gaol_X2_countHeld
theorem dX7_gaol_0 : decode cX7_gaol 0 = .ok (.iload_n 1, 1) := by decide +kernel
theorem dX7_gaol_1 : decode cX7_gaol 1 = .ok (.ifCond .lt 28, 3) := by decide +kernel
theorem dX7_gaol_4 : decode cX7_gaol 4 = .ok (.iload_n 1, 1) := by decide +kernel
theorem dX7_gaol_5 : decode cX7_gaol 5 = .ok (.sipush 9999, 3) := by decide +kernel
theorem dX7_gaol_8 : decode cX7_gaol 8 = .ok (.if_icmp .gt 21, 3) := by decide +kernel
theorem dX7_gaol_11 : decode cX7_gaol 11 = .ok (.iload_n 2, 1) := by decide +kernel
theorem dX7_gaol_12 : decode cX7_gaol 12 = .ok (.iconst 1, 1) := by decide +kernel
theorem dX7_gaol_13 : decode cX7_gaol 13 = .ok (.if_icmp .lt 16, 3) := by decide +kernel
theorem dX7_gaol_16 : decode cX7_gaol 16 = .ok (.iload_n 2, 1) := by decide +kernel
theorem dX7_gaol_17 : decode cX7_gaol 17 = .ok (.bipush 40, 2) := by decide +kernel
theorem dX7_gaol_19 : decode cX7_gaol 19 = .ok (.if_icmp .gt 10, 3) := by decide +kernel
theorem dX7_gaol_22 : decode cX7_gaol 22 = .ok (.iload_n 3, 1) := by decide +kernel
theorem dX7_gaol_23 : decode cX7_gaol 23 = .ok (.invokestatic 224, 3) := by decide +kernel
theorem dX7_gaol_26 : decode cX7_gaol 26 = .ok (.ifCond .ne 5, 3) := by decide +kernel
theorem dX7_gaol_29 : decode cX7_gaol 29 = .ok (.iconst (-1), 1) := by decide +kernel
theorem dX7_gaol_30 : decode cX7_gaol 30 = .ok (.ireturn, 1) := by decide +kernel
theorem dX7_gaol_31 : decode cX7_gaol 31 = .ok (.aload_n 0, 1) := by decide +kernel
theorem dX7_gaol_32 : decode cX7_gaol 32 = .ok (.getfield 35, 3) := by decide +kernel
theorem dX7_gaol_35 : decode cX7_gaol 35 = .ok (.getfield 108, 3) := by decide +kernel
theorem dX7_gaol_38 : decode cX7_gaol 38 = .ok (.aload_n 0, 1) := by decide +kernel
theorem dX7_gaol_39 : decode cX7_gaol 39 = .ok (.getfield 31, 3) := by decide +kernel
theorem dX7_gaol_42 : decode cX7_gaol 42 = .ok (.getfield 108, 3) := by decide +kernel
theorem dX7_gaol_45 : decode cX7_gaol 45 = .ok (.invokevirtual 276, 3) := by decide +kernel
theorem dX7_gaol_48 : decode cX7_gaol 48 = .ok (.aload_n 0, 1) := by decide +kernel
theorem dX7_gaol_49 : decode cX7_gaol 49 = .ok (.getfield 35, 3) := by decide +kernel
theorem dX7_gaol_52 : decode cX7_gaol 52 = .ok (.getfield 108, 3) := by decide +kernel
theorem dX7_gaol_55 : decode cX7_gaol 55 = .ok (.invokevirtual 279, 3) := by decide +kernel
theorem dX7_gaol_58 : decode cX7_gaol 58 = .ok (.istore 4, 2) := by decide +kernel
theorem dX7_gaol_60 : decode cX7_gaol 60 = .ok (.iconst 0, 1) := by decide +kernel
theorem dX7_gaol_61 : decode cX7_gaol 61 = .ok (.istore 5, 2) := by decide +kernel
theorem dX7_gaol_63 : decode cX7_gaol 63 = .ok (.iload 5, 2) := by decide +kernel
theorem dX7_gaol_65 : decode cX7_gaol 65 = .ok (.iload_n 2, 1) := by decide +kernel
theorem dX7_gaol_66 : decode cX7_gaol 66 = .ok (.if_icmp .ge 22, 3) := by decide +kernel
theorem dX7_gaol_69 : decode cX7_gaol 69 = .ok (.aload_n 0, 1) := by decide +kernel
theorem dX7_gaol_70 : decode cX7_gaol 70 = .ok (.getfield 35, 3) := by decide +kernel
theorem dX7_gaol_73 : decode cX7_gaol 73 = .ok (.iload_n 1, 1) := by decide +kernel
theorem dX7_gaol_74 : decode cX7_gaol 74 = .ok (.iload 5, 2) := by decide +kernel
theorem dX7_gaol_76 : decode cX7_gaol 76 = .ok (.invokestatic 282, 3) := by decide +kernel
theorem dX7_gaol_79 : decode cX7_gaol 79 = .ok (.invokevirtual 285, 3) := by decide +kernel
theorem dX7_gaol_82 : decode cX7_gaol 82 = .ok (.iinc 5 1, 3) := by decide +kernel
theorem dX7_gaol_85 : decode cX7_gaol 85 = .ok (.goto (-22), 3) := by decide +kernel
theorem dX7_gaol_88 : decode cX7_gaol 88 = .ok (.iload_n 3, 1) := by decide +kernel
theorem dX7_gaol_89 : decode cX7_gaol 89 = .ok (.ifCond .ne 13, 3) := by decide +kernel
theorem dX7_gaol_92 : decode cX7_gaol 92 = .ok (.aload_n 0, 1) := by decide +kernel
theorem dX7_gaol_93 : decode cX7_gaol 93 = .ok (.getfield 35, 3) := by decide +kernel
theorem dX7_gaol_96 : decode cX7_gaol 96 = .ok (.invokevirtual 202, 3) := by decide +kernel
theorem dX7_gaol_99 : decode cX7_gaol 99 = .ok (.goto 16, 3) := by decide +kernel
theorem dX7_gaol_102 : decode cX7_gaol 102 = .ok (.aload_n 0, 1) := by decide +kernel
theorem dX7_gaol_103 : decode cX7_gaol 103 = .ok (.getfield 35, 3) := by decide +kernel
theorem dX7_gaol_106 : decode cX7_gaol 106 = .ok (.getfield 108, 3) := by decide +kernel
theorem dX7_gaol_109 : decode cX7_gaol 109 = .ok (.invokevirtual 279, 3) := by decide +kernel
theorem dX7_gaol_112 : decode cX7_gaol 112 = .ok (.iload 4, 2) := by decide +kernel
theorem dX7_gaol_114 : decode cX7_gaol 114 = .ok (.isub, 1) := by decide +kernel
theorem dX7_gaol_115 : decode cX7_gaol 115 = .ok (.ireturn, 1) := by decide +kernel
set_option maxRecDepth 20000 in
theorem ggX7_keep_X5_put : GoodIn wsX7_keep wsX5_put := goodIn_r _ [9, 10, 11, 12, 13, 14, 8, 15, 16, 17, 18, 19, 20, 21, 22, 23, 24, 25, 26, 27, 28, 29, 30, 31, 32, 33, 42, 43, 48, 49, 50, 51, 52, 53, 54, 55, 56] rfl (by decide +kernel)
set_option maxRecDepth 20000 in
theorem gX7_keep_X5_put : GoodIn wsX7_keep (wsV RX7 175 RX5 yX5_put wsX5_put) := goodIn_app (goodIn_of _ (by decide +kernel)) ggX7_keep_X5_put
theorem dX7_keep_0 : decode cX7_keep 0 = .ok (.aload_n 0, 1) := by decide +kernel
theorem dX7_keep_1 : decode cX7_keep 1 = .ok (.getfield 54, 3) := by decide +kernel
theorem dX7_keep_4 : decode cX7_keep 4 = .ok (.getfield 92, 3) := by decide +kernel
theorem dX7_keep_7 : decode cX7_keep 7 = .ok (.iconst 2, 1) := by decide +kernel
theorem dX7_keep_8 : decode cX7_keep 8 = .ok (.if_icmp .lt 6, 3) := by decide +kernel
theorem dX7_keep_11 : decode cX7_keep 11 = .ok (.bipush (-3), 2) := by decide +kernel
theorem dX7_keep_13 : decode cX7_keep 13 = .ok (.ireturn, 1) := by decide +kernel
theorem dX7_keep_14 : decode cX7_keep 14 = .ok (.aload_n 0, 1) := by decide +kernel
theorem dX7_keep_15 : decode cX7_keep 15 = .ok (.getfield 54, 3) := by decide +kernel
theorem dX7_keep_18 : decode cX7_keep 18 = .ok (.aload_n 0, 1) := by decide +kernel
theorem dX7_keep_19 : decode cX7_keep 19 = .ok (.getfield 31, 3) := by decide +kernel
theorem dX7_keep_22 : decode cX7_keep 22 = .ok (.getfield 108, 3) := by decide +kernel
theorem dX7_keep_25 : decode cX7_keep 25 = .ok (.invokevirtual 175, 3) := by decide +kernel
theorem dX7_keep_28 : decode cX7_keep 28 = .ok (.aload_n 0, 1) := by decide +kernel
theorem dX7_keep_29 : decode cX7_keep 29 = .ok (.getfield 54, 3) := by decide +kernel
theorem dX7_keep_32 : decode cX7_keep 32 = .ok (.getfield 92, 3) := by decide +kernel
theorem dX7_keep_35 : decode cX7_keep 35 = .ok (.ireturn, 1) := by decide +kernel
set_option maxRecDepth 20000 in
theorem ggX7_back_X5_takeInto : GoodIn wsX7_back wsX5_takeInto := goodIn_r _ [10, 11, 12, 13, 14, 15, 16, 17, 18, 19, 20, 21, 22, 23, 24, 25, 26, 27, 28, 29, 30, 43, 44, 45, 46, 47, 48, 49, 50, 51, 52, 53] rfl (by decide +kernel)
set_option maxRecDepth 20000 in
theorem gX7_back_X5_takeInto : GoodIn wsX7_back (wsV RX7 208 RX5 yX5_takeInto wsX5_takeInto) := goodIn_app (goodIn_of _ (by decide +kernel)) ggX7_back_X5_takeInto
theorem dX7_back_0 : decode cX7_back 0 = .ok (.aload_n 0, 1) := by decide +kernel
theorem dX7_back_1 : decode cX7_back 1 = .ok (.getfield 54, 3) := by decide +kernel
theorem dX7_back_4 : decode cX7_back 4 = .ok (.aload_n 0, 1) := by decide +kernel
theorem dX7_back_5 : decode cX7_back 5 = .ok (.getfield 31, 3) := by decide +kernel
theorem dX7_back_8 : decode cX7_back 8 = .ok (.getfield 108, 3) := by decide +kernel
theorem dX7_back_11 : decode cX7_back 11 = .ok (.invokevirtual 208, 3) := by decide +kernel
theorem dX7_back_14 : decode cX7_back 14 = .ok (.ifCond .ne 6, 3) := by decide +kernel
theorem dX7_back_17 : decode cX7_back 17 = .ok (.bipush (-2), 2) := by decide +kernel
theorem dX7_back_19 : decode cX7_back 19 = .ok (.ireturn, 1) := by decide +kernel
theorem dX7_back_20 : decode cX7_back 20 = .ok (.aload_n 0, 1) := by decide +kernel
theorem dX7_back_21 : decode cX7_back 21 = .ok (.getfield 50, 3) := by decide +kernel
theorem dX7_back_24 : decode cX7_back 24 = .ok (.iconst 0, 1) := by decide +kernel
theorem dX7_back_25 : decode cX7_back 25 = .ok (.putfield 92, 3) := by decide +kernel
theorem dX7_back_28 : decode cX7_back 28 = .ok (.aload_n 0, 1) := by decide +kernel
theorem dX7_back_29 : decode cX7_back 29 = .ok (.getfield 54, 3) := by decide +kernel
theorem dX7_back_32 : decode cX7_back 32 = .ok (.getfield 92, 3) := by decide +kernel
theorem dX7_back_35 : decode cX7_back 35 = .ok (.ireturn, 1) := by decide +kernel
set_option maxRecDepth 20000 in
theorem ggX7_count_X0_countOf : GoodIn wsX7_count wsX0_countOf := goodIn_r _ [19, 20, 21, 22, 23, 18, 24, 25, 92, 93, 94, 95, 96, 97, 98, 99, 100] rfl (by decide +kernel)
set_option maxRecDepth 20000 in
theorem gX7_count_X0_countOf : GoodIn wsX7_count (wsV RX7 218 RX0 yX0_countOf wsX0_countOf) := goodIn_app (goodIn_of _ (by decide +kernel)) ggX7_count_X0_countOf
set_option maxRecDepth 20000 in
theorem ggX7_count_X2_countHeld : GoodIn wsX7_count wsX2_countHeld := goodIn_r _ [30, 31, 32, 33, 34, 29, 35, 36, 37, 38, 39, 40, 41, 42, 43, 44, 45, 46, 47, 48, 49, 50, 51, 52, 53, 18, 54, 25, 55, 56, 57, 58, 20, 21, 22, 23, 24, 59, 60, 61, 62, 63, 64, 65, 66, 67, 68, 69, 88, 89, 90, 91, 110, 111, 112, 92, 93, 94, 95, 96, 97, 98, 99, 100] rfl (by decide +kernel)
set_option maxRecDepth 20000 in
theorem gX7_count_X2_countHeld : GoodIn wsX7_count (wsV RX7 202 RX2 yX2_countHeld wsX2_countHeld) := goodIn_app (goodIn_of _ (by decide +kernel)) ggX7_count_X2_countHeld
theorem dX7_count_0 : decode cX7_count 0 = .ok (.iload_n 1, 1) := by decide +kernel
theorem dX7_count_1 : decode cX7_count 1 = .ok (.tableswitch 158 0 10 #[59, 67, 75, 86, 94, 106, 114, 126, 134, 142, 150], 59) := by decide +kernel
theorem dX7_count_60 : decode cX7_count 60 = .ok (.aload_n 0, 1) := by decide +kernel
theorem dX7_count_61 : decode cX7_count 61 = .ok (.getfield 19, 3) := by decide +kernel
theorem dX7_count_64 : decode cX7_count 64 = .ok (.getfield 83, 3) := by decide +kernel
theorem dX7_count_67 : decode cX7_count 67 = .ok (.ireturn, 1) := by decide +kernel
theorem dX7_count_68 : decode cX7_count 68 = .ok (.aload_n 0, 1) := by decide +kernel
theorem dX7_count_69 : decode cX7_count 69 = .ok (.getfield 19, 3) := by decide +kernel
theorem dX7_count_72 : decode cX7_count 72 = .ok (.getfield 86, 3) := by decide +kernel
theorem dX7_count_75 : decode cX7_count 75 = .ok (.ireturn, 1) := by decide +kernel
theorem dX7_count_76 : decode cX7_count 76 = .ok (.aload_n 0, 1) := by decide +kernel
theorem dX7_count_77 : decode cX7_count 77 = .ok (.getfield 31, 3) := by decide +kernel
theorem dX7_count_80 : decode cX7_count 80 = .ok (.getfield 108, 3) := by decide +kernel
theorem dX7_count_83 : decode cX7_count 83 = .ok (.getfield 205, 3) := by decide +kernel
theorem dX7_count_86 : decode cX7_count 86 = .ok (.ireturn, 1) := by decide +kernel
theorem dX7_count_87 : decode cX7_count 87 = .ok (.aload_n 0, 1) := by decide +kernel
theorem dX7_count_88 : decode cX7_count 88 = .ok (.getfield 19, 3) := by decide +kernel
theorem dX7_count_91 : decode cX7_count 91 = .ok (.getfield 288, 3) := by decide +kernel
theorem dX7_count_94 : decode cX7_count 94 = .ok (.ireturn, 1) := by decide +kernel
theorem dX7_count_95 : decode cX7_count 95 = .ok (.aload_n 0, 1) := by decide +kernel
theorem dX7_count_96 : decode cX7_count 96 = .ok (.getfield 31, 3) := by decide +kernel
theorem dX7_count_99 : decode cX7_count 99 = .ok (.getfield 108, 3) := by decide +kernel
theorem dX7_count_102 : decode cX7_count 102 = .ok (.iconst 1, 1) := by decide +kernel
theorem dX7_count_103 : decode cX7_count 103 = .ok (.invokevirtual 218, 3) := by decide +kernel
theorem dX7_count_106 : decode cX7_count 106 = .ok (.ireturn, 1) := by decide +kernel
theorem dX7_count_107 : decode cX7_count 107 = .ok (.aload_n 0, 1) := by decide +kernel
theorem dX7_count_108 : decode cX7_count 108 = .ok (.getfield 31, 3) := by decide +kernel
theorem dX7_count_111 : decode cX7_count 111 = .ok (.invokevirtual 202, 3) := by decide +kernel
theorem dX7_count_114 : decode cX7_count 114 = .ok (.ireturn, 1) := by decide +kernel
theorem dX7_count_115 : decode cX7_count 115 = .ok (.aload_n 0, 1) := by decide +kernel
theorem dX7_count_116 : decode cX7_count 116 = .ok (.getfield 31, 3) := by decide +kernel
theorem dX7_count_119 : decode cX7_count 119 = .ok (.getfield 108, 3) := by decide +kernel
theorem dX7_count_122 : decode cX7_count 122 = .ok (.iconst 0, 1) := by decide +kernel
theorem dX7_count_123 : decode cX7_count 123 = .ok (.invokevirtual 218, 3) := by decide +kernel
theorem dX7_count_126 : decode cX7_count 126 = .ok (.ireturn, 1) := by decide +kernel
theorem dX7_count_127 : decode cX7_count 127 = .ok (.aload_n 0, 1) := by decide +kernel
theorem dX7_count_128 : decode cX7_count 128 = .ok (.getfield 41, 3) := by decide +kernel
theorem dX7_count_131 : decode cX7_count 131 = .ok (.getfield 89, 3) := by decide +kernel
theorem dX7_count_134 : decode cX7_count 134 = .ok (.ireturn, 1) := by decide +kernel
theorem dX7_count_135 : decode cX7_count 135 = .ok (.aload_n 0, 1) := by decide +kernel
theorem dX7_count_136 : decode cX7_count 136 = .ok (.getfield 50, 3) := by decide +kernel
theorem dX7_count_139 : decode cX7_count 139 = .ok (.getfield 92, 3) := by decide +kernel
theorem dX7_count_142 : decode cX7_count 142 = .ok (.ireturn, 1) := by decide +kernel
theorem dX7_count_143 : decode cX7_count 143 = .ok (.aload_n 0, 1) := by decide +kernel
theorem dX7_count_144 : decode cX7_count 144 = .ok (.getfield 54, 3) := by decide +kernel
theorem dX7_count_147 : decode cX7_count 147 = .ok (.getfield 92, 3) := by decide +kernel
theorem dX7_count_150 : decode cX7_count 150 = .ok (.ireturn, 1) := by decide +kernel
theorem dX7_count_151 : decode cX7_count 151 = .ok (.aload_n 0, 1) := by decide +kernel
theorem dX7_count_152 : decode cX7_count 152 = .ok (.getfield 12, 3) := by decide +kernel
theorem dX7_count_155 : decode cX7_count 155 = .ok (.getfield 80, 3) := by decide +kernel
theorem dX7_count_158 : decode cX7_count 158 = .ok (.ireturn, 1) := by decide +kernel
theorem dX7_count_159 : decode cX7_count 159 = .ok (.iconst (-1), 1) := by decide +kernel
theorem dX7_count_160 : decode cX7_count 160 = .ok (.ireturn, 1) := by decide +kernel
theorem dX7_isDay_0 : decode cX7_isDay 0 = .ok (.iload_n 0, 1) := by decide +kernel
theorem dX7_isDay_1 : decode cX7_isDay 1 = .ok (.ifCond .lt 14, 3) := by decide +kernel
theorem dX7_isDay_4 : decode cX7_isDay 4 = .ok (.iload_n 0, 1) := by decide +kernel
theorem dX7_isDay_5 : decode cX7_isDay 5 = .ok (.sipush 999, 3) := by decide +kernel
theorem dX7_isDay_8 : decode cX7_isDay 8 = .ok (.if_icmp .gt 7, 3) := by decide +kernel
theorem dX7_isDay_11 : decode cX7_isDay 11 = .ok (.iconst 1, 1) := by decide +kernel
theorem dX7_isDay_12 : decode cX7_isDay 12 = .ok (.goto 4, 3) := by decide +kernel
theorem dX7_isDay_15 : decode cX7_isDay 15 = .ok (.iconst 0, 1) := by decide +kernel
theorem dX7_isDay_16 : decode cX7_isDay 16 = .ok (.ireturn, 1) := by decide +kernel
theorem dX7_isPart_0 : decode cX7_isPart 0 = .ok (.iload_n 0, 1) := by decide +kernel
theorem dX7_isPart_1 : decode cX7_isPart 1 = .ok (.ifCond .eq 8, 3) := by decide +kernel
theorem dX7_isPart_4 : decode cX7_isPart 4 = .ok (.iload_n 0, 1) := by decide +kernel
theorem dX7_isPart_5 : decode cX7_isPart 5 = .ok (.iconst 1, 1) := by decide +kernel
theorem dX7_isPart_6 : decode cX7_isPart 6 = .ok (.if_icmp .ne 7, 3) := by decide +kernel
theorem dX7_isPart_9 : decode cX7_isPart 9 = .ok (.iconst 1, 1) := by decide +kernel
theorem dX7_isPart_10 : decode cX7_isPart 10 = .ok (.goto 4, 3) := by decide +kernel
theorem dX7_isPart_13 : decode cX7_isPart 13 = .ok (.iconst 0, 1) := by decide +kernel
theorem dX7_isPart_14 : decode cX7_isPart 14 = .ok (.ireturn, 1) := by decide +kernel
theorem dX7_draw_0 : decode cX7_draw 0 = .ok (.ldc2_w 291, 3) := by decide +kernel
theorem dX7_draw_3 : decode cX7_draw 3 = .ok (.iload_n 0, 1) := by decide +kernel
theorem dX7_draw_4 : decode cX7_draw 4 = .ok (.i2l, 1) := by decide +kernel
theorem dX7_draw_5 : decode cX7_draw 5 = .ok (.lmul, 1) := by decide +kernel
theorem dX7_draw_6 : decode cX7_draw 6 = .ok (.ldc2_w 293, 3) := by decide +kernel
theorem dX7_draw_9 : decode cX7_draw 9 = .ok (.iload_n 1, 1) := by decide +kernel
theorem dX7_draw_10 : decode cX7_draw 10 = .ok (.i2l, 1) := by decide +kernel
theorem dX7_draw_11 : decode cX7_draw 11 = .ok (.lmul, 1) := by decide +kernel
theorem dX7_draw_12 : decode cX7_draw 12 = .ok (.ladd, 1) := by decide +kernel
theorem dX7_draw_13 : decode cX7_draw 13 = .ok (.lconst 1, 1) := by decide +kernel
theorem dX7_draw_14 : decode cX7_draw 14 = .ok (.ladd, 1) := by decide +kernel
theorem dX7_draw_15 : decode cX7_draw 15 = .ok (.lstore_n 2, 1) := by decide +kernel
theorem dX7_draw_16 : decode cX7_draw 16 = .ok (.lload_n 2, 1) := by decide +kernel
theorem dX7_draw_17 : decode cX7_draw 17 = .ok (.lload_n 2, 1) := by decide +kernel
theorem dX7_draw_18 : decode cX7_draw 18 = .ok (.lmul, 1) := by decide +kernel
theorem dX7_draw_19 : decode cX7_draw 19 = .ok (.ldc2_w 295, 3) := by decide +kernel
theorem dX7_draw_22 : decode cX7_draw 22 = .ok (.lrem, 1) := by decide +kernel
theorem dX7_draw_23 : decode cX7_draw 23 = .ok (.l2i, 1) := by decide +kernel
theorem dX7_draw_24 : decode cX7_draw 24 = .ok (.ireturn, 1) := by decide +kernel
theorem dX7_commonDivisor_0 : decode cX7_commonDivisor 0 = .ok (.iload_n 0, 1) := by decide +kernel
theorem dX7_commonDivisor_1 : decode cX7_commonDivisor 1 = .ok (.istore_n 2, 1) := by decide +kernel
theorem dX7_commonDivisor_2 : decode cX7_commonDivisor 2 = .ok (.iload_n 1, 1) := by decide +kernel
theorem dX7_commonDivisor_3 : decode cX7_commonDivisor 3 = .ok (.istore_n 3, 1) := by decide +kernel
theorem dX7_commonDivisor_4 : decode cX7_commonDivisor 4 = .ok (.iconst 0, 1) := by decide +kernel
theorem dX7_commonDivisor_5 : decode cX7_commonDivisor 5 = .ok (.istore 4, 2) := by decide +kernel
theorem dX7_commonDivisor_7 : decode cX7_commonDivisor 7 = .ok (.iload 4, 2) := by decide +kernel
theorem dX7_commonDivisor_9 : decode cX7_commonDivisor 9 = .ok (.bipush 64, 2) := by decide +kernel
theorem dX7_commonDivisor_11 : decode cX7_commonDivisor 11 = .ok (.if_icmp .ge 23, 3) := by decide +kernel
theorem dX7_commonDivisor_14 : decode cX7_commonDivisor 14 = .ok (.iload_n 3, 1) := by decide +kernel
theorem dX7_commonDivisor_15 : decode cX7_commonDivisor 15 = .ok (.ifCond .eq 19, 3) := by decide +kernel
theorem dX7_commonDivisor_18 : decode cX7_commonDivisor 18 = .ok (.iload_n 2, 1) := by decide +kernel
theorem dX7_commonDivisor_19 : decode cX7_commonDivisor 19 = .ok (.iload_n 3, 1) := by decide +kernel
theorem dX7_commonDivisor_20 : decode cX7_commonDivisor 20 = .ok (.irem, 1) := by decide +kernel
theorem dX7_commonDivisor_21 : decode cX7_commonDivisor 21 = .ok (.istore 5, 2) := by decide +kernel
theorem dX7_commonDivisor_23 : decode cX7_commonDivisor 23 = .ok (.iload_n 3, 1) := by decide +kernel
theorem dX7_commonDivisor_24 : decode cX7_commonDivisor 24 = .ok (.istore_n 2, 1) := by decide +kernel
theorem dX7_commonDivisor_25 : decode cX7_commonDivisor 25 = .ok (.iload 5, 2) := by decide +kernel
theorem dX7_commonDivisor_27 : decode cX7_commonDivisor 27 = .ok (.istore_n 3, 1) := by decide +kernel
theorem dX7_commonDivisor_28 : decode cX7_commonDivisor 28 = .ok (.iinc 4 1, 3) := by decide +kernel
theorem dX7_commonDivisor_31 : decode cX7_commonDivisor 31 = .ok (.goto (-24), 3) := by decide +kernel
theorem dX7_commonDivisor_34 : decode cX7_commonDivisor 34 = .ok (.iload_n 2, 1) := by decide +kernel
theorem dX7_commonDivisor_35 : decode cX7_commonDivisor 35 = .ok (.ireturn, 1) := by decide +kernel
set_option maxRecDepth 20000 in
theorem ggX8_init_X8_clearTold : GoodIn wsX8_init wsX8_clearTold := goodIn_r _ [26, 27, 28, 21, 50, 51, 52, 53, 54, 55, 56, 57, 58, 59, 60, 61, 62, 63, 64, 65, 66, 67, 68, 69, 70, 71, 72, 73, 74, 75, 76] rfl (by decide +kernel)
set_option maxRecDepth 20000 in
theorem gX8_init_X8_clearTold : GoodIn wsX8_init (wsV RX8 56 RX8 yX8_clearTold wsX8_clearTold) := goodIn_app (goodIn_of _ (by decide +kernel)) ggX8_init_X8_clearTold
set_option maxRecDepth 20000 in
theorem ggX8_init_X8_tellsPerson : GoodIn wsX8_init wsX8_tellsPerson := goodIn_r _ [32, 13, 27, 14, 50, 51, 52, 53, 54, 55, 56, 57, 58, 59, 60, 61, 62, 63, 64, 65, 66, 67, 68, 69, 70, 71, 72, 73, 74, 75, 76] rfl (by decide +kernel)
set_option maxRecDepth 20000 in
theorem gX8_init_X8_tellsPerson : GoodIn wsX8_init (wsV RX8 59 RX8 yX8_tellsPerson wsX8_tellsPerson) := goodIn_app (goodIn_of _ (by decide +kernel)) ggX8_init_X8_tellsPerson
set_option maxRecDepth 20000 in
theorem ggX8_init_X8_tellsParson : GoodIn wsX8_init wsX8_tellsParson := goodIn_r _ [36, 15, 28, 50, 51, 52, 53, 54, 55, 56, 57, 58, 59, 60, 61, 62, 63, 64, 65, 66, 67, 68, 69, 70, 71, 72, 73, 74, 75, 76] rfl (by decide +kernel)
set_option maxRecDepth 20000 in
theorem gX8_init_X8_tellsParson : GoodIn wsX8_init (wsV RX8 63 RX8 yX8_tellsParson wsX8_tellsParson) := goodIn_app (goodIn_of _ (by decide +kernel)) ggX8_init_X8_tellsParson
set_option maxRecDepth 20000 in
theorem ggX8_init_X8_settles : GoodIn wsX8_init wsX8_settles := goodIn_r _ [40, 27, 41, 28, 42, 21, 43, 5, 13, 6, 15, 7, 14, 44, 45, 46, 47, 48, 25, 49, 50, 51, 52, 53, 54, 55, 56, 57, 58, 59, 60, 61, 62, 63, 64, 65, 66, 67, 68, 69, 70, 71, 72, 73, 74, 75, 76] rfl (by decide +kernel)
set_option maxRecDepth 20000 in
theorem gX8_init_X8_settles : GoodIn wsX8_init (wsV RX8 71 RX8 yX8_settles wsX8_settles) := goodIn_app (goodIn_of _ (by decide +kernel)) ggX8_init_X8_settles
theorem dX8_init_0 : decode cX8_init 0 = .ok (.aload_n 0, 1) := by decide +kernel
theorem dX8_init_1 : decode cX8_init 1 = .ok (.invokespecial 1, 3) := by decide +kernel
theorem dX8_init_4 : decode cX8_init 4 = .ok (.aload_n 0, 1) := by decide +kernel
theorem dX8_init_5 : decode cX8_init 5 = .ok (.bipush 24, 2) := by decide +kernel
theorem dX8_init_7 : decode cX8_init 7 = .ok (.newarray .int, 2) := by decide +kernel
theorem dX8_init_9 : decode cX8_init 9 = .ok (.putfield 7, 3) := by decide +kernel
theorem dX8_init_12 : decode cX8_init 12 = .ok (.aload_n 0, 1) := by decide +kernel
theorem dX8_init_13 : decode cX8_init 13 = .ok (.bipush 6, 2) := by decide +kernel
theorem dX8_init_15 : decode cX8_init 15 = .ok (.newarray .int, 2) := by decide +kernel
theorem dX8_init_17 : decode cX8_init 17 = .ok (.putfield 13, 3) := by decide +kernel
theorem dX8_init_20 : decode cX8_init 20 = .ok (.aload_n 0, 1) := by decide +kernel
theorem dX8_init_21 : decode cX8_init 21 = .ok (.bipush 111, 2) := by decide +kernel
theorem dX8_init_23 : decode cX8_init 23 = .ok (.newarray .int, 2) := by decide +kernel
theorem dX8_init_25 : decode cX8_init 25 = .ok (.putfield 16, 3) := by decide +kernel
theorem dX8_init_28 : decode cX8_init 28 = .ok (.aload_n 0, 1) := by decide +kernel
theorem dX8_init_29 : decode cX8_init 29 = .ok (.sipush 888, 3) := by decide +kernel
theorem dX8_init_32 : decode cX8_init 32 = .ok (.newarray .int, 2) := by decide +kernel
theorem dX8_init_34 : decode cX8_init 34 = .ok (.putfield 19, 3) := by decide +kernel
theorem dX8_init_37 : decode cX8_init 37 = .ok (.aload_n 0, 1) := by decide +kernel
theorem dX8_init_38 : decode cX8_init 38 = .ok (.sipush 222, 3) := by decide +kernel
theorem dX8_init_41 : decode cX8_init 41 = .ok (.newarray .int, 2) := by decide +kernel
theorem dX8_init_43 : decode cX8_init 43 = .ok (.putfield 22, 3) := by decide +kernel
theorem dX8_init_46 : decode cX8_init 46 = .ok (.aload_n 0, 1) := by decide +kernel
theorem dX8_init_47 : decode cX8_init 47 = .ok (.bipush 24, 2) := by decide +kernel
theorem dX8_init_49 : decode cX8_init 49 = .ok (.newarray .int, 2) := by decide +kernel
theorem dX8_init_51 : decode cX8_init 51 = .ok (.putfield 25, 3) := by decide +kernel
theorem dX8_init_54 : decode cX8_init 54 = .ok (.aload_n 0, 1) := by decide +kernel
theorem dX8_init_55 : decode cX8_init 55 = .ok (.sipush 200, 3) := by decide +kernel
theorem dX8_init_58 : decode cX8_init 58 = .ok (.newarray .int, 2) := by decide +kernel
theorem dX8_init_60 : decode cX8_init 60 = .ok (.putfield 28, 3) := by decide +kernel
theorem dX8_init_63 : decode cX8_init 63 = .ok (.aload_n 0, 1) := by decide +kernel
theorem dX8_init_64 : decode cX8_init 64 = .ok (.iconst 3, 1) := by decide +kernel
theorem dX8_init_65 : decode cX8_init 65 = .ok (.newarray .int, 2) := by decide +kernel
theorem dX8_init_67 : decode cX8_init 67 = .ok (.putfield 31, 3) := by decide +kernel
theorem dX8_init_70 : decode cX8_init 70 = .ok (.aload_n 0, 1) := by decide +kernel
theorem dX8_init_71 : decode cX8_init 71 = .ok (.bipush 24, 2) := by decide +kernel
theorem dX8_init_73 : decode cX8_init 73 = .ok (.newarray .int, 2) := by decide +kernel
theorem dX8_init_75 : decode cX8_init 75 = .ok (.putfield 34, 3) := by decide +kernel
theorem dX8_init_78 : decode cX8_init 78 = .ok (.aload_n 0, 1) := by decide +kernel
theorem dX8_init_79 : decode cX8_init 79 = .ok (.bipush 8, 2) := by decide +kernel
theorem dX8_init_81 : decode cX8_init 81 = .ok (.newarray .int, 2) := by decide +kernel
theorem dX8_init_83 : decode cX8_init 83 = .ok (.putfield 37, 3) := by decide +kernel
theorem dX8_init_86 : decode cX8_init 86 = .ok (.aload_n 0, 1) := by decide +kernel
theorem dX8_init_87 : decode cX8_init 87 = .ok (.bipush 6, 2) := by decide +kernel
theorem dX8_init_89 : decode cX8_init 89 = .ok (.newarray .int, 2) := by decide +kernel
theorem dX8_init_91 : decode cX8_init 91 = .ok (.putfield 40, 3) := by decide +kernel
theorem dX8_init_94 : decode cX8_init 94 = .ok (.aload_n 0, 1) := by decide +kernel
theorem dX8_init_95 : decode cX8_init 95 = .ok (.bipush 111, 2) := by decide +kernel
theorem dX8_init_97 : decode cX8_init 97 = .ok (.newarray .int, 2) := by decide +kernel
theorem dX8_init_99 : decode cX8_init 99 = .ok (.putfield 43, 3) := by decide +kernel
theorem dX8_init_102 : decode cX8_init 102 = .ok (.aload_n 0, 1) := by decide +kernel
theorem dX8_init_103 : decode cX8_init 103 = .ok (.bipush 24, 2) := by decide +kernel
theorem dX8_init_105 : decode cX8_init 105 = .ok (.newarray .boolean, 2) := by decide +kernel
theorem dX8_init_107 : decode cX8_init 107 = .ok (.putfield 46, 3) := by decide +kernel
theorem dX8_init_110 : decode cX8_init 110 = .ok (.aload_n 0, 1) := by decide +kernel
theorem dX8_init_111 : decode cX8_init 111 = .ok (.bipush 24, 2) := by decide +kernel
theorem dX8_init_113 : decode cX8_init 113 = .ok (.newarray .boolean, 2) := by decide +kernel
theorem dX8_init_115 : decode cX8_init 115 = .ok (.putfield 50, 3) := by decide +kernel
theorem dX8_init_118 : decode cX8_init 118 = .ok (.aload_n 0, 1) := by decide +kernel
theorem dX8_init_119 : decode cX8_init 119 = .ok (.sipush 256, 3) := by decide +kernel
theorem dX8_init_122 : decode cX8_init 122 = .ok (.newarray .int, 2) := by decide +kernel
theorem dX8_init_124 : decode cX8_init 124 = .ok (.putfield 53, 3) := by decide +kernel
theorem dX8_init_127 : decode cX8_init 127 = .ok (.aload_n 0, 1) := by decide +kernel
theorem dX8_init_128 : decode cX8_init 128 = .ok (.invokevirtual 56, 3) := by decide +kernel
theorem dX8_init_131 : decode cX8_init 131 = .ok (.aload_n 0, 1) := by decide +kernel
theorem dX8_init_132 : decode cX8_init 132 = .ok (.iconst 0, 1) := by decide +kernel
theorem dX8_init_133 : decode cX8_init 133 = .ok (.iconst 0, 1) := by decide +kernel
theorem dX8_init_134 : decode cX8_init 134 = .ok (.bipush 12, 2) := by decide +kernel
theorem dX8_init_136 : decode cX8_init 136 = .ok (.iconst 5, 1) := by decide +kernel
theorem dX8_init_137 : decode cX8_init 137 = .ok (.invokevirtual 59, 3) := by decide +kernel
theorem dX8_init_140 : decode cX8_init 140 = .ok (.aload_n 0, 1) := by decide +kernel
theorem dX8_init_141 : decode cX8_init 141 = .ok (.iconst 0, 1) := by decide +kernel
theorem dX8_init_142 : decode cX8_init 142 = .ok (.iconst 1, 1) := by decide +kernel
theorem dX8_init_143 : decode cX8_init 143 = .ok (.bipush 40, 2) := by decide +kernel
theorem dX8_init_145 : decode cX8_init 145 = .ok (.iconst 2, 1) := by decide +kernel
theorem dX8_init_146 : decode cX8_init 146 = .ok (.invokevirtual 59, 3) := by decide +kernel
theorem dX8_init_149 : decode cX8_init 149 = .ok (.aload_n 0, 1) := by decide +kernel
theorem dX8_init_150 : decode cX8_init 150 = .ok (.iconst 0, 1) := by decide +kernel
theorem dX8_init_151 : decode cX8_init 151 = .ok (.iconst 2, 1) := by decide +kernel
theorem dX8_init_152 : decode cX8_init 152 = .ok (.iconst 0, 1) := by decide +kernel
theorem dX8_init_153 : decode cX8_init 153 = .ok (.bipush 50, 2) := by decide +kernel
theorem dX8_init_155 : decode cX8_init 155 = .ok (.invokevirtual 59, 3) := by decide +kernel
theorem dX8_init_158 : decode cX8_init 158 = .ok (.aload_n 0, 1) := by decide +kernel
theorem dX8_init_159 : decode cX8_init 159 = .ok (.iconst 1, 1) := by decide +kernel
theorem dX8_init_160 : decode cX8_init 160 = .ok (.iconst 0, 1) := by decide +kernel
theorem dX8_init_161 : decode cX8_init 161 = .ok (.iconst 3, 1) := by decide +kernel
theorem dX8_init_162 : decode cX8_init 162 = .ok (.bipush 8, 2) := by decide +kernel
theorem dX8_init_164 : decode cX8_init 164 = .ok (.invokevirtual 59, 3) := by decide +kernel
theorem dX8_init_167 : decode cX8_init 167 = .ok (.aload_n 0, 1) := by decide +kernel
theorem dX8_init_168 : decode cX8_init 168 = .ok (.iconst 1, 1) := by decide +kernel
theorem dX8_init_169 : decode cX8_init 169 = .ok (.iconst 1, 1) := by decide +kernel
theorem dX8_init_170 : decode cX8_init 170 = .ok (.bipush 30, 2) := by decide +kernel
theorem dX8_init_172 : decode cX8_init 172 = .ok (.bipush 12, 2) := by decide +kernel
theorem dX8_init_174 : decode cX8_init 174 = .ok (.invokevirtual 59, 3) := by decide +kernel
theorem dX8_init_177 : decode cX8_init 177 = .ok (.aload_n 0, 1) := by decide +kernel
theorem dX8_init_178 : decode cX8_init 178 = .ok (.iconst 1, 1) := by decide +kernel
theorem dX8_init_179 : decode cX8_init 179 = .ok (.iconst 2, 1) := by decide +kernel
theorem dX8_init_180 : decode cX8_init 180 = .ok (.iconst 0, 1) := by decide +kernel
theorem dX8_init_181 : decode cX8_init 181 = .ok (.bipush 60, 2) := by decide +kernel
theorem dX8_init_183 : decode cX8_init 183 = .ok (.invokevirtual 59, 3) := by decide +kernel
theorem dX8_init_186 : decode cX8_init 186 = .ok (.aload_n 0, 1) := by decide +kernel
theorem dX8_init_187 : decode cX8_init 187 = .ok (.iconst 1, 1) := by decide +kernel
theorem dX8_init_188 : decode cX8_init 188 = .ok (.iconst 0, 1) := by decide +kernel
theorem dX8_init_189 : decode cX8_init 189 = .ok (.bipush 9, 2) := by decide +kernel
theorem dX8_init_191 : decode cX8_init 191 = .ok (.bipush 20, 2) := by decide +kernel
theorem dX8_init_193 : decode cX8_init 193 = .ok (.invokevirtual 59, 3) := by decide +kernel
theorem dX8_init_196 : decode cX8_init 196 = .ok (.aload_n 0, 1) := by decide +kernel
theorem dX8_init_197 : decode cX8_init 197 = .ok (.iconst 0, 1) := by decide +kernel
theorem dX8_init_198 : decode cX8_init 198 = .ok (.iconst 2, 1) := by decide +kernel
theorem dX8_init_199 : decode cX8_init 199 = .ok (.invokevirtual 63, 3) := by decide +kernel
theorem dX8_init_202 : decode cX8_init 202 = .ok (.aload_n 0, 1) := by decide +kernel
theorem dX8_init_203 : decode cX8_init 203 = .ok (.iconst 1, 1) := by decide +kernel
theorem dX8_init_204 : decode cX8_init 204 = .ok (.iconst 3, 1) := by decide +kernel
theorem dX8_init_205 : decode cX8_init 205 = .ok (.invokevirtual 63, 3) := by decide +kernel
theorem dX8_init_208 : decode cX8_init 208 = .ok (.aload_n 0, 1) := by decide +kernel
theorem dX8_init_209 : decode cX8_init 209 = .ok (.iconst 2, 1) := by decide +kernel
theorem dX8_init_210 : decode cX8_init 210 = .ok (.iconst 5, 1) := by decide +kernel
theorem dX8_init_211 : decode cX8_init 211 = .ok (.invokevirtual 63, 3) := by decide +kernel
theorem dX8_init_214 : decode cX8_init 214 = .ok (.aload_n 0, 1) := by decide +kernel
theorem dX8_init_215 : decode cX8_init 215 = .ok (.bipush 30, 2) := by decide +kernel
theorem dX8_init_217 : decode cX8_init 217 = .ok (.putfield 67, 3) := by decide +kernel
theorem dX8_init_220 : decode cX8_init 220 = .ok (.aload_n 0, 1) := by decide +kernel
theorem dX8_init_221 : decode cX8_init 221 = .ok (.invokevirtual 71, 3) := by decide +kernel
theorem dX8_init_224 : decode cX8_init 224 = .ok (.return_, 1) := by decide +kernel
theorem dX8_tellsPerson_0 : decode cX8_tellsPerson 0 = .ok (.aload_n 0, 1) := by decide +kernel
theorem dX8_tellsPerson_1 : decode cX8_tellsPerson 1 = .ok (.getfield 34, 3) := by decide +kernel
theorem dX8_tellsPerson_4 : decode cX8_tellsPerson 4 = .ok (.iconst 3, 1) := by decide +kernel
theorem dX8_tellsPerson_5 : decode cX8_tellsPerson 5 = .ok (.aload_n 0, 1) := by decide +kernel
theorem dX8_tellsPerson_6 : decode cX8_tellsPerson 6 = .ok (.getfield 74, 3) := by decide +kernel
theorem dX8_tellsPerson_9 : decode cX8_tellsPerson 9 = .ok (.imul, 1) := by decide +kernel
theorem dX8_tellsPerson_10 : decode cX8_tellsPerson 10 = .ok (.iload_n 1, 1) := by decide +kernel
theorem dX8_tellsPerson_11 : decode cX8_tellsPerson 11 = .ok (.iastore, 1) := by decide +kernel
theorem dX8_tellsPerson_12 : decode cX8_tellsPerson 12 = .ok (.aload_n 0, 1) := by decide +kernel
theorem dX8_tellsPerson_13 : decode cX8_tellsPerson 13 = .ok (.getfield 34, 3) := by decide +kernel
theorem dX8_tellsPerson_16 : decode cX8_tellsPerson 16 = .ok (.iconst 3, 1) := by decide +kernel
theorem dX8_tellsPerson_17 : decode cX8_tellsPerson 17 = .ok (.aload_n 0, 1) := by decide +kernel
theorem dX8_tellsPerson_18 : decode cX8_tellsPerson 18 = .ok (.getfield 74, 3) := by decide +kernel
theorem dX8_tellsPerson_21 : decode cX8_tellsPerson 21 = .ok (.imul, 1) := by decide +kernel
theorem dX8_tellsPerson_22 : decode cX8_tellsPerson 22 = .ok (.iconst 1, 1) := by decide +kernel
theorem dX8_tellsPerson_23 : decode cX8_tellsPerson 23 = .ok (.iadd, 1) := by decide +kernel
theorem dX8_tellsPerson_24 : decode cX8_tellsPerson 24 = .ok (.iload_n 2, 1) := by decide +kernel
theorem dX8_tellsPerson_25 : decode cX8_tellsPerson 25 = .ok (.iastore, 1) := by decide +kernel
theorem dX8_tellsPerson_26 : decode cX8_tellsPerson 26 = .ok (.aload_n 0, 1) := by decide +kernel
theorem dX8_tellsPerson_27 : decode cX8_tellsPerson 27 = .ok (.getfield 34, 3) := by decide +kernel
theorem dX8_tellsPerson_30 : decode cX8_tellsPerson 30 = .ok (.iconst 3, 1) := by decide +kernel
theorem dX8_tellsPerson_31 : decode cX8_tellsPerson 31 = .ok (.aload_n 0, 1) := by decide +kernel
theorem dX8_tellsPerson_32 : decode cX8_tellsPerson 32 = .ok (.getfield 74, 3) := by decide +kernel
theorem dX8_tellsPerson_35 : decode cX8_tellsPerson 35 = .ok (.imul, 1) := by decide +kernel
theorem dX8_tellsPerson_36 : decode cX8_tellsPerson 36 = .ok (.iconst 2, 1) := by decide +kernel
theorem dX8_tellsPerson_37 : decode cX8_tellsPerson 37 = .ok (.iadd, 1) := by decide +kernel
theorem dX8_tellsPerson_38 : decode cX8_tellsPerson 38 = .ok (.iload_n 3, 1) := by decide +kernel
theorem dX8_tellsPerson_39 : decode cX8_tellsPerson 39 = .ok (.iastore, 1) := by decide +kernel
theorem dX8_tellsPerson_40 : decode cX8_tellsPerson 40 = .ok (.aload_n 0, 1) := by decide +kernel
theorem dX8_tellsPerson_41 : decode cX8_tellsPerson 41 = .ok (.getfield 37, 3) := by decide +kernel
theorem dX8_tellsPerson_44 : decode cX8_tellsPerson 44 = .ok (.aload_n 0, 1) := by decide +kernel
theorem dX8_tellsPerson_45 : decode cX8_tellsPerson 45 = .ok (.getfield 74, 3) := by decide +kernel
theorem dX8_tellsPerson_48 : decode cX8_tellsPerson 48 = .ok (.iload 4, 2) := by decide +kernel
theorem dX8_tellsPerson_50 : decode cX8_tellsPerson 50 = .ok (.iastore, 1) := by decide +kernel
theorem dX8_tellsPerson_51 : decode cX8_tellsPerson 51 = .ok (.aload_n 0, 1) := by decide +kernel
theorem dX8_tellsPerson_52 : decode cX8_tellsPerson 52 = .ok (.dup, 1) := by decide +kernel
theorem dX8_tellsPerson_53 : decode cX8_tellsPerson 53 = .ok (.getfield 74, 3) := by decide +kernel
theorem dX8_tellsPerson_56 : decode cX8_tellsPerson 56 = .ok (.iconst 1, 1) := by decide +kernel
theorem dX8_tellsPerson_57 : decode cX8_tellsPerson 57 = .ok (.iadd, 1) := by decide +kernel
theorem dX8_tellsPerson_58 : decode cX8_tellsPerson 58 = .ok (.putfield 74, 3) := by decide +kernel
theorem dX8_tellsPerson_61 : decode cX8_tellsPerson 61 = .ok (.return_, 1) := by decide +kernel
theorem dX8_tellsParson_0 : decode cX8_tellsParson 0 = .ok (.aload_n 0, 1) := by decide +kernel
theorem dX8_tellsParson_1 : decode cX8_tellsParson 1 = .ok (.getfield 40, 3) := by decide +kernel
theorem dX8_tellsParson_4 : decode cX8_tellsParson 4 = .ok (.iconst 2, 1) := by decide +kernel
theorem dX8_tellsParson_5 : decode cX8_tellsParson 5 = .ok (.aload_n 0, 1) := by decide +kernel
theorem dX8_tellsParson_6 : decode cX8_tellsParson 6 = .ok (.getfield 77, 3) := by decide +kernel
theorem dX8_tellsParson_9 : decode cX8_tellsParson 9 = .ok (.imul, 1) := by decide +kernel
theorem dX8_tellsParson_10 : decode cX8_tellsParson 10 = .ok (.iload_n 1, 1) := by decide +kernel
theorem dX8_tellsParson_11 : decode cX8_tellsParson 11 = .ok (.iastore, 1) := by decide +kernel
theorem dX8_tellsParson_12 : decode cX8_tellsParson 12 = .ok (.aload_n 0, 1) := by decide +kernel
theorem dX8_tellsParson_13 : decode cX8_tellsParson 13 = .ok (.getfield 40, 3) := by decide +kernel
theorem dX8_tellsParson_16 : decode cX8_tellsParson 16 = .ok (.iconst 2, 1) := by decide +kernel
theorem dX8_tellsParson_17 : decode cX8_tellsParson 17 = .ok (.aload_n 0, 1) := by decide +kernel
theorem dX8_tellsParson_18 : decode cX8_tellsParson 18 = .ok (.getfield 77, 3) := by decide +kernel
theorem dX8_tellsParson_21 : decode cX8_tellsParson 21 = .ok (.imul, 1) := by decide +kernel
theorem dX8_tellsParson_22 : decode cX8_tellsParson 22 = .ok (.iconst 1, 1) := by decide +kernel
theorem dX8_tellsParson_23 : decode cX8_tellsParson 23 = .ok (.iadd, 1) := by decide +kernel
theorem dX8_tellsParson_24 : decode cX8_tellsParson 24 = .ok (.iload_n 2, 1) := by decide +kernel
theorem dX8_tellsParson_25 : decode cX8_tellsParson 25 = .ok (.iastore, 1) := by decide +kernel
theorem dX8_tellsParson_26 : decode cX8_tellsParson 26 = .ok (.aload_n 0, 1) := by decide +kernel
theorem dX8_tellsParson_27 : decode cX8_tellsParson 27 = .ok (.dup, 1) := by decide +kernel
theorem dX8_tellsParson_28 : decode cX8_tellsParson 28 = .ok (.getfield 77, 3) := by decide +kernel
theorem dX8_tellsParson_31 : decode cX8_tellsParson 31 = .ok (.iconst 1, 1) := by decide +kernel
theorem dX8_tellsParson_32 : decode cX8_tellsParson 32 = .ok (.iadd, 1) := by decide +kernel
theorem dX8_tellsParson_33 : decode cX8_tellsParson 33 = .ok (.putfield 77, 3) := by decide +kernel
theorem dX8_tellsParson_36 : decode cX8_tellsParson 36 = .ok (.return_, 1) := by decide +kernel
theorem dX8_in_0 : decode cX8_in 0 = .ok (.iload_n 0, 1) := by decide +kernel
theorem dX8_in_1 : decode cX8_in 1 = .ok (.iload_n 1, 1) := by decide +kernel
theorem dX8_in_2 : decode cX8_in 2 = .ok (.if_icmp .lt 12, 3) := by decide +kernel
theorem dX8_in_5 : decode cX8_in 5 = .ok (.iload_n 0, 1) := by decide +kernel
theorem dX8_in_6 : decode cX8_in 6 = .ok (.iload_n 2, 1) := by decide +kernel
theorem dX8_in_7 : decode cX8_in 7 = .ok (.if_icmp .gt 7, 3) := by decide +kernel
theorem dX8_in_10 : decode cX8_in 10 = .ok (.iconst 1, 1) := by decide +kernel
theorem dX8_in_11 : decode cX8_in 11 = .ok (.goto 4, 3) := by decide +kernel
theorem dX8_in_14 : decode cX8_in 14 = .ok (.iconst 0, 1) := by decide +kernel
theorem dX8_in_15 : decode cX8_in 15 = .ok (.ireturn, 1) := by decide +kernel
theorem dX8_has_0 : decode cX8_has 0 = .ok (.iload_n 0, 1) := by decide +kernel
theorem dX8_has_1 : decode cX8_has 1 = .ok (.iload_n 1, 1) := by decide +kernel
theorem dX8_has_2 : decode cX8_has 2 = .ok (.ishr, 1) := by decide +kernel
theorem dX8_has_3 : decode cX8_has 3 = .ok (.iconst 1, 1) := by decide +kernel
theorem dX8_has_4 : decode cX8_has 4 = .ok (.iand, 1) := by decide +kernel
theorem dX8_has_5 : decode cX8_has 5 = .ok (.iconst 1, 1) := by decide +kernel
theorem dX8_has_6 : decode cX8_has 6 = .ok (.if_icmp .ne 7, 3) := by decide +kernel
theorem dX8_has_9 : decode cX8_has 9 = .ok (.iconst 1, 1) := by decide +kernel
theorem dX8_has_10 : decode cX8_has 10 = .ok (.goto 4, 3) := by decide +kernel
theorem dX8_has_13 : decode cX8_has 13 = .ok (.iconst 0, 1) := by decide +kernel
theorem dX8_has_14 : decode cX8_has 14 = .ok (.ireturn, 1) := by decide +kernel
set_option maxRecDepth 20000 in
theorem ggX8_isPerson_X8_in : GoodIn wsX8_isPerson wsX8_in := goodIn_r _ [5] rfl (by decide +kernel)
set_option maxRecDepth 20000 in
theorem gX8_isPerson_X8_in : GoodIn wsX8_isPerson (va_wsS RX8 83 yX8_in wsX8_in) := goodIn_app (goodIn_of _ (by decide +kernel)) ggX8_isPerson_X8_in
theorem dX8_isPerson_0 : decode cX8_isPerson 0 = .ok (.iload_n 1, 1) := by decide +kernel
theorem dX8_isPerson_1 : decode cX8_isPerson 1 = .ok (.iconst 0, 1) := by decide +kernel
theorem dX8_isPerson_2 : decode cX8_isPerson 2 = .ok (.aload_n 0, 1) := by decide +kernel
theorem dX8_isPerson_3 : decode cX8_isPerson 3 = .ok (.getfield 80, 3) := by decide +kernel
theorem dX8_isPerson_6 : decode cX8_isPerson 6 = .ok (.iconst 1, 1) := by decide +kernel
theorem dX8_isPerson_7 : decode cX8_isPerson 7 = .ok (.isub, 1) := by decide +kernel
theorem dX8_isPerson_8 : decode cX8_isPerson 8 = .ok (.invokestatic 83, 3) := by decide +kernel
theorem dX8_isPerson_11 : decode cX8_isPerson 11 = .ok (.ireturn, 1) := by decide +kernel
set_option maxRecDepth 20000 in
theorem ggX8_isParson_X8_in : GoodIn wsX8_isParson wsX8_in := goodIn_r _ [5] rfl (by decide +kernel)
set_option maxRecDepth 20000 in
theorem gX8_isParson_X8_in : GoodIn wsX8_isParson (va_wsS RX8 83 yX8_in wsX8_in) := goodIn_app (goodIn_of _ (by decide +kernel)) ggX8_isParson_X8_in
theorem dX8_isParson_0 : decode cX8_isParson 0 = .ok (.iload_n 1, 1) := by decide +kernel
theorem dX8_isParson_1 : decode cX8_isParson 1 = .ok (.iconst 0, 1) := by decide +kernel
theorem dX8_isParson_2 : decode cX8_isParson 2 = .ok (.aload_n 0, 1) := by decide +kernel
theorem dX8_isParson_3 : decode cX8_isParson 3 = .ok (.getfield 87, 3) := by decide +kernel
theorem dX8_isParson_6 : decode cX8_isParson 6 = .ok (.iconst 1, 1) := by decide +kernel
theorem dX8_isParson_7 : decode cX8_isParson 7 = .ok (.isub, 1) := by decide +kernel
theorem dX8_isParson_8 : decode cX8_isParson 8 = .ok (.invokestatic 83, 3) := by decide +kernel
theorem dX8_isParson_11 : decode cX8_isParson 11 = .ok (.ireturn, 1) := by decide +kernel
set_option maxRecDepth 20000 in
theorem ggX8_isLine_X8_isParson : GoodIn wsX8_isLine wsX8_isParson := goodIn_r _ [6, 7, 8, 9, 5, 10, 11, 12, 13, 14, 15, 16, 17, 18, 19, 20, 21, 22, 23, 24, 25, 26, 27, 28, 29, 30, 31, 32, 33, 34, 35, 36, 37] rfl (by decide +kernel)
set_option maxRecDepth 20000 in
theorem gX8_isLine_X8_isParson : GoodIn wsX8_isLine (wsV RX8 90 RX8 yX8_isParson wsX8_isParson) := goodIn_app (goodIn_of _ (by decide +kernel)) ggX8_isLine_X8_isParson
set_option maxRecDepth 20000 in
theorem ggX8_isLine_X8_in : GoodIn wsX8_isLine wsX8_in := goodIn_r _ [10] rfl (by decide +kernel)
set_option maxRecDepth 20000 in
theorem gX8_isLine_X8_in : GoodIn wsX8_isLine (va_wsS RX8 83 yX8_in wsX8_in) := goodIn_app (goodIn_of _ (by decide +kernel)) ggX8_isLine_X8_in
theorem dX8_isLine_0 : decode cX8_isLine 0 = .ok (.aload_n 0, 1) := by decide +kernel
theorem dX8_isLine_1 : decode cX8_isLine 1 = .ok (.iload_n 1, 1) := by decide +kernel
theorem dX8_isLine_2 : decode cX8_isLine 2 = .ok (.invokevirtual 90, 3) := by decide +kernel
theorem dX8_isLine_5 : decode cX8_isLine 5 = .ok (.ifCond .eq 26, 3) := by decide +kernel
theorem dX8_isLine_8 : decode cX8_isLine 8 = .ok (.iload_n 2, 1) := by decide +kernel
theorem dX8_isLine_9 : decode cX8_isLine 9 = .ok (.iconst 0, 1) := by decide +kernel
theorem dX8_isLine_10 : decode cX8_isLine 10 = .ok (.aload_n 0, 1) := by decide +kernel
theorem dX8_isLine_11 : decode cX8_isLine 11 = .ok (.getfield 16, 3) := by decide +kernel
theorem dX8_isLine_14 : decode cX8_isLine 14 = .ok (.bipush 12, 2) := by decide +kernel
theorem dX8_isLine_16 : decode cX8_isLine 16 = .ok (.iload_n 1, 1) := by decide +kernel
theorem dX8_isLine_17 : decode cX8_isLine 17 = .ok (.iadd, 1) := by decide +kernel
theorem dX8_isLine_18 : decode cX8_isLine 18 = .ok (.iaload, 1) := by decide +kernel
theorem dX8_isLine_19 : decode cX8_isLine 19 = .ok (.iconst 1, 1) := by decide +kernel
theorem dX8_isLine_20 : decode cX8_isLine 20 = .ok (.isub, 1) := by decide +kernel
theorem dX8_isLine_21 : decode cX8_isLine 21 = .ok (.invokestatic 83, 3) := by decide +kernel
theorem dX8_isLine_24 : decode cX8_isLine 24 = .ok (.ifCond .eq 7, 3) := by decide +kernel
theorem dX8_isLine_27 : decode cX8_isLine 27 = .ok (.iconst 1, 1) := by decide +kernel
theorem dX8_isLine_28 : decode cX8_isLine 28 = .ok (.goto 4, 3) := by decide +kernel
theorem dX8_isLine_31 : decode cX8_isLine 31 = .ok (.iconst 0, 1) := by decide +kernel
theorem dX8_isLine_32 : decode cX8_isLine 32 = .ok (.ireturn, 1) := by decide +kernel
theorem dX8_isWoman_0 : decode cX8_isWoman 0 = .ok (.aload_n 0, 1) := by decide +kernel
theorem dX8_isWoman_1 : decode cX8_isWoman 1 = .ok (.getfield 7, 3) := by decide +kernel
theorem dX8_isWoman_4 : decode cX8_isWoman 4 = .ok (.iconst 3, 1) := by decide +kernel
theorem dX8_isWoman_5 : decode cX8_isWoman 5 = .ok (.iload_n 1, 1) := by decide +kernel
theorem dX8_isWoman_6 : decode cX8_isWoman 6 = .ok (.imul, 1) := by decide +kernel
theorem dX8_isWoman_7 : decode cX8_isWoman 7 = .ok (.iaload, 1) := by decide +kernel
theorem dX8_isWoman_8 : decode cX8_isWoman 8 = .ok (.iconst 1, 1) := by decide +kernel
theorem dX8_isWoman_9 : decode cX8_isWoman 9 = .ok (.if_icmp .ne 7, 3) := by decide +kernel
theorem dX8_isWoman_12 : decode cX8_isWoman 12 = .ok (.iconst 1, 1) := by decide +kernel
theorem dX8_isWoman_13 : decode cX8_isWoman 13 = .ok (.goto 4, 3) := by decide +kernel
theorem dX8_isWoman_16 : decode cX8_isWoman 16 = .ok (.iconst 0, 1) := by decide +kernel
theorem dX8_isWoman_17 : decode cX8_isWoman 17 = .ok (.ireturn, 1) := by decide +kernel
theorem dX8_kindOf_0 : decode cX8_kindOf 0 = .ok (.aload_n 0, 1) := by decide +kernel
theorem dX8_kindOf_1 : decode cX8_kindOf 1 = .ok (.getfield 7, 3) := by decide +kernel
theorem dX8_kindOf_4 : decode cX8_kindOf 4 = .ok (.iconst 3, 1) := by decide +kernel
theorem dX8_kindOf_5 : decode cX8_kindOf 5 = .ok (.iload_n 1, 1) := by decide +kernel
theorem dX8_kindOf_6 : decode cX8_kindOf 6 = .ok (.imul, 1) := by decide +kernel
theorem dX8_kindOf_7 : decode cX8_kindOf 7 = .ok (.iconst 1, 1) := by decide +kernel
theorem dX8_kindOf_8 : decode cX8_kindOf 8 = .ok (.iadd, 1) := by decide +kernel
theorem dX8_kindOf_9 : decode cX8_kindOf 9 = .ok (.iaload, 1) := by decide +kernel
theorem dX8_kindOf_10 : decode cX8_kindOf 10 = .ok (.ireturn, 1) := by decide +kernel
set_option maxRecDepth 20000 in
theorem ggX8_write_X8_in : GoodIn wsX8_write wsX8_in := goodIn_r _ [6] rfl (by decide +kernel)
set_option maxRecDepth 20000 in
theorem gX8_write_X8_in : GoodIn wsX8_write (va_wsS RX8 83 yX8_in wsX8_in) := goodIn_app (goodIn_of _ (by decide +kernel)) ggX8_write_X8_in
theorem dX8_write_0 : decode cX8_write 0 = .ok (.iload_n 1, 1) := by decide +kernel
theorem dX8_write_1 : decode cX8_write 1 = .ok (.bipush 32, 2) := by decide +kernel
theorem dX8_write_3 : decode cX8_write 3 = .ok (.bipush 126, 2) := by decide +kernel
theorem dX8_write_5 : decode cX8_write 5 = .ok (.invokestatic 83, 3) := by decide +kernel
theorem dX8_write_8 : decode cX8_write 8 = .ok (.ifCond .ne 5, 3) := by decide +kernel
theorem dX8_write_11 : decode cX8_write 11 = .ok (.iconst (-1), 1) := by decide +kernel
theorem dX8_write_12 : decode cX8_write 12 = .ok (.ireturn, 1) := by decide +kernel
theorem dX8_write_13 : decode cX8_write 13 = .ok (.aload_n 0, 1) := by decide +kernel
theorem dX8_write_14 : decode cX8_write 14 = .ok (.getfield 94, 3) := by decide +kernel
theorem dX8_write_17 : decode cX8_write 17 = .ok (.sipush 200, 3) := by decide +kernel
theorem dX8_write_20 : decode cX8_write 20 = .ok (.if_icmp .ne 6, 3) := by decide +kernel
theorem dX8_write_23 : decode cX8_write 23 = .ok (.bipush (-3), 2) := by decide +kernel
theorem dX8_write_25 : decode cX8_write 25 = .ok (.ireturn, 1) := by decide +kernel
theorem dX8_write_26 : decode cX8_write 26 = .ok (.aload_n 0, 1) := by decide +kernel
theorem dX8_write_27 : decode cX8_write 27 = .ok (.getfield 28, 3) := by decide +kernel
theorem dX8_write_30 : decode cX8_write 30 = .ok (.aload_n 0, 1) := by decide +kernel
theorem dX8_write_31 : decode cX8_write 31 = .ok (.getfield 94, 3) := by decide +kernel
theorem dX8_write_34 : decode cX8_write 34 = .ok (.iload_n 1, 1) := by decide +kernel
theorem dX8_write_35 : decode cX8_write 35 = .ok (.iastore, 1) := by decide +kernel
theorem dX8_write_36 : decode cX8_write 36 = .ok (.aload_n 0, 1) := by decide +kernel
theorem dX8_write_37 : decode cX8_write 37 = .ok (.dup, 1) := by decide +kernel
theorem dX8_write_38 : decode cX8_write 38 = .ok (.getfield 94, 3) := by decide +kernel
theorem dX8_write_41 : decode cX8_write 41 = .ok (.iconst 1, 1) := by decide +kernel
theorem dX8_write_42 : decode cX8_write 42 = .ok (.iadd, 1) := by decide +kernel
theorem dX8_write_43 : decode cX8_write 43 = .ok (.putfield 94, 3) := by decide +kernel
theorem dX8_write_46 : decode cX8_write 46 = .ok (.aload_n 0, 1) := by decide +kernel
theorem dX8_write_47 : decode cX8_write 47 = .ok (.getfield 94, 3) := by decide +kernel
theorem dX8_write_50 : decode cX8_write 50 = .ok (.ireturn, 1) := by decide +kernel
theorem dX8_wipe_0 : decode cX8_wipe 0 = .ok (.aload_n 0, 1) := by decide +kernel
theorem dX8_wipe_1 : decode cX8_wipe 1 = .ok (.getfield 94, 3) := by decide +kernel
theorem dX8_wipe_4 : decode cX8_wipe 4 = .ok (.istore_n 1, 1) := by decide +kernel
theorem dX8_wipe_5 : decode cX8_wipe 5 = .ok (.aload_n 0, 1) := by decide +kernel
theorem dX8_wipe_6 : decode cX8_wipe 6 = .ok (.iconst 0, 1) := by decide +kernel
theorem dX8_wipe_7 : decode cX8_wipe 7 = .ok (.putfield 94, 3) := by decide +kernel
theorem dX8_wipe_10 : decode cX8_wipe 10 = .ok (.iload_n 1, 1) := by decide +kernel
theorem dX8_wipe_11 : decode cX8_wipe 11 = .ok (.ireturn, 1) := by decide +kernel
theorem dX8_letterAt_0 : decode cX8_letterAt 0 = .ok (.iload_n 1, 1) := by decide +kernel
theorem dX8_letterAt_1 : decode cX8_letterAt 1 = .ok (.aload_n 0, 1) := by decide +kernel
theorem dX8_letterAt_2 : decode cX8_letterAt 2 = .ok (.getfield 94, 3) := by decide +kernel
theorem dX8_letterAt_5 : decode cX8_letterAt 5 = .ok (.if_icmp .ge 12, 3) := by decide +kernel
theorem dX8_letterAt_8 : decode cX8_letterAt 8 = .ok (.aload_n 0, 1) := by decide +kernel
theorem dX8_letterAt_9 : decode cX8_letterAt 9 = .ok (.getfield 28, 3) := by decide +kernel
theorem dX8_letterAt_12 : decode cX8_letterAt 12 = .ok (.iload_n 1, 1) := by decide +kernel
theorem dX8_letterAt_13 : decode cX8_letterAt 13 = .ok (.iaload, 1) := by decide +kernel
theorem dX8_letterAt_14 : decode cX8_letterAt 14 = .ok (.goto 4, 3) := by decide +kernel
theorem dX8_letterAt_17 : decode cX8_letterAt 17 = .ok (.iconst (-1), 1) := by decide +kernel
theorem dX8_letterAt_18 : decode cX8_letterAt 18 = .ok (.ireturn, 1) := by decide +kernel
set_option maxRecDepth 20000 in
theorem ggX8_isFigure_X8_in : GoodIn wsX8_isFigure wsX8_in := goodIn_r _ [4] rfl (by decide +kernel)
set_option maxRecDepth 20000 in
theorem gX8_isFigure_X8_in : GoodIn wsX8_isFigure (va_wsS RX8 83 yX8_in wsX8_in) := goodIn_app (goodIn_of _ (by decide +kernel)) ggX8_isFigure_X8_in
theorem dX8_isFigure_0 : decode cX8_isFigure 0 = .ok (.iload_n 0, 1) := by decide +kernel
theorem dX8_isFigure_1 : decode cX8_isFigure 1 = .ok (.bipush 48, 2) := by decide +kernel
theorem dX8_isFigure_3 : decode cX8_isFigure 3 = .ok (.bipush 57, 2) := by decide +kernel
theorem dX8_isFigure_5 : decode cX8_isFigure 5 = .ok (.invokestatic 83, 3) := by decide +kernel
theorem dX8_isFigure_8 : decode cX8_isFigure 8 = .ok (.ireturn, 1) := by decide +kernel
set_option maxRecDepth 20000 in
theorem ggX8_readNumbers_X8_letterAt : GoodIn wsX8_readNumbers wsX8_letterAt := goodIn_r _ [7, 8, 9, 16, 17, 18, 19, 20, 21, 22, 23, 24, 25, 26, 27, 28, 29, 30, 31, 32, 33, 34, 35, 36, 37, 38, 39, 40, 41, 42] rfl (by decide +kernel)
set_option maxRecDepth 20000 in
theorem gX8_readNumbers_X8_letterAt : GoodIn wsX8_readNumbers (wsV RX8 100 RX8 yX8_letterAt wsX8_letterAt) := goodIn_app (goodIn_of _ (by decide +kernel)) ggX8_readNumbers_X8_letterAt
set_option maxRecDepth 20000 in
theorem ggX8_readNumbers_X8_isFigure : GoodIn wsX8_readNumbers wsX8_isFigure := goodIn_r _ [12, 13, 14, 6, 15] rfl (by decide +kernel)
set_option maxRecDepth 20000 in
theorem gX8_readNumbers_X8_isFigure : GoodIn wsX8_readNumbers (va_wsS RX8 104 yX8_isFigure wsX8_isFigure) := goodIn_app (goodIn_of _ (by decide +kernel)) ggX8_readNumbers_X8_isFigure
theorem dX8_readNumbers_0 : decode cX8_readNumbers 0 = .ok (.iconst 0, 1) := by decide +kernel
theorem dX8_readNumbers_1 : decode cX8_readNumbers 1 = .ok (.istore_n 2, 1) := by decide +kernel
theorem dX8_readNumbers_2 : decode cX8_readNumbers 2 = .ok (.iload_n 2, 1) := by decide +kernel
theorem dX8_readNumbers_3 : decode cX8_readNumbers 3 = .ok (.iload_n 1, 1) := by decide +kernel
theorem dX8_readNumbers_4 : decode cX8_readNumbers 4 = .ok (.if_icmp .ge 140, 3) := by decide +kernel
theorem dX8_readNumbers_7 : decode cX8_readNumbers 7 = .ok (.aload_n 0, 1) := by decide +kernel
theorem dX8_readNumbers_8 : decode cX8_readNumbers 8 = .ok (.aload_n 0, 1) := by decide +kernel
theorem dX8_readNumbers_9 : decode cX8_readNumbers 9 = .ok (.getfield 97, 3) := by decide +kernel
theorem dX8_readNumbers_12 : decode cX8_readNumbers 12 = .ok (.invokevirtual 100, 3) := by decide +kernel
theorem dX8_readNumbers_15 : decode cX8_readNumbers 15 = .ok (.invokestatic 104, 3) := by decide +kernel
theorem dX8_readNumbers_18 : decode cX8_readNumbers 18 = .ok (.ifCond .ne 5, 3) := by decide +kernel
theorem dX8_readNumbers_21 : decode cX8_readNumbers 21 = .ok (.iconst 0, 1) := by decide +kernel
theorem dX8_readNumbers_22 : decode cX8_readNumbers 22 = .ok (.ireturn, 1) := by decide +kernel
theorem dX8_readNumbers_23 : decode cX8_readNumbers 23 = .ok (.aload_n 0, 1) := by decide +kernel
theorem dX8_readNumbers_24 : decode cX8_readNumbers 24 = .ok (.getfield 31, 3) := by decide +kernel
theorem dX8_readNumbers_27 : decode cX8_readNumbers 27 = .ok (.iload_n 2, 1) := by decide +kernel
theorem dX8_readNumbers_28 : decode cX8_readNumbers 28 = .ok (.aload_n 0, 1) := by decide +kernel
theorem dX8_readNumbers_29 : decode cX8_readNumbers 29 = .ok (.aload_n 0, 1) := by decide +kernel
theorem dX8_readNumbers_30 : decode cX8_readNumbers 30 = .ok (.getfield 97, 3) := by decide +kernel
theorem dX8_readNumbers_33 : decode cX8_readNumbers 33 = .ok (.invokevirtual 100, 3) := by decide +kernel
theorem dX8_readNumbers_36 : decode cX8_readNumbers 36 = .ok (.bipush 48, 2) := by decide +kernel
theorem dX8_readNumbers_38 : decode cX8_readNumbers 38 = .ok (.isub, 1) := by decide +kernel
theorem dX8_readNumbers_39 : decode cX8_readNumbers 39 = .ok (.iastore, 1) := by decide +kernel
theorem dX8_readNumbers_40 : decode cX8_readNumbers 40 = .ok (.aload_n 0, 1) := by decide +kernel
theorem dX8_readNumbers_41 : decode cX8_readNumbers 41 = .ok (.dup, 1) := by decide +kernel
theorem dX8_readNumbers_42 : decode cX8_readNumbers 42 = .ok (.getfield 97, 3) := by decide +kernel
theorem dX8_readNumbers_45 : decode cX8_readNumbers 45 = .ok (.iconst 1, 1) := by decide +kernel
theorem dX8_readNumbers_46 : decode cX8_readNumbers 46 = .ok (.iadd, 1) := by decide +kernel
theorem dX8_readNumbers_47 : decode cX8_readNumbers 47 = .ok (.putfield 97, 3) := by decide +kernel
theorem dX8_readNumbers_50 : decode cX8_readNumbers 50 = .ok (.aload_n 0, 1) := by decide +kernel
theorem dX8_readNumbers_51 : decode cX8_readNumbers 51 = .ok (.aload_n 0, 1) := by decide +kernel
theorem dX8_readNumbers_52 : decode cX8_readNumbers 52 = .ok (.getfield 97, 3) := by decide +kernel
theorem dX8_readNumbers_55 : decode cX8_readNumbers 55 = .ok (.invokevirtual 100, 3) := by decide +kernel
theorem dX8_readNumbers_58 : decode cX8_readNumbers 58 = .ok (.invokestatic 104, 3) := by decide +kernel
theorem dX8_readNumbers_61 : decode cX8_readNumbers 61 = .ok (.ifCond .eq 40, 3) := by decide +kernel
theorem dX8_readNumbers_64 : decode cX8_readNumbers 64 = .ok (.aload_n 0, 1) := by decide +kernel
theorem dX8_readNumbers_65 : decode cX8_readNumbers 65 = .ok (.getfield 31, 3) := by decide +kernel
theorem dX8_readNumbers_68 : decode cX8_readNumbers 68 = .ok (.iload_n 2, 1) := by decide +kernel
theorem dX8_readNumbers_69 : decode cX8_readNumbers 69 = .ok (.bipush 10, 2) := by decide +kernel
theorem dX8_readNumbers_71 : decode cX8_readNumbers 71 = .ok (.aload_n 0, 1) := by decide +kernel
theorem dX8_readNumbers_72 : decode cX8_readNumbers 72 = .ok (.getfield 31, 3) := by decide +kernel
theorem dX8_readNumbers_75 : decode cX8_readNumbers 75 = .ok (.iload_n 2, 1) := by decide +kernel
theorem dX8_readNumbers_76 : decode cX8_readNumbers 76 = .ok (.iaload, 1) := by decide +kernel
theorem dX8_readNumbers_77 : decode cX8_readNumbers 77 = .ok (.imul, 1) := by decide +kernel
theorem dX8_readNumbers_78 : decode cX8_readNumbers 78 = .ok (.aload_n 0, 1) := by decide +kernel
theorem dX8_readNumbers_79 : decode cX8_readNumbers 79 = .ok (.aload_n 0, 1) := by decide +kernel
theorem dX8_readNumbers_80 : decode cX8_readNumbers 80 = .ok (.getfield 97, 3) := by decide +kernel
theorem dX8_readNumbers_83 : decode cX8_readNumbers 83 = .ok (.invokevirtual 100, 3) := by decide +kernel
theorem dX8_readNumbers_86 : decode cX8_readNumbers 86 = .ok (.iadd, 1) := by decide +kernel
theorem dX8_readNumbers_87 : decode cX8_readNumbers 87 = .ok (.bipush 48, 2) := by decide +kernel
theorem dX8_readNumbers_89 : decode cX8_readNumbers 89 = .ok (.isub, 1) := by decide +kernel
theorem dX8_readNumbers_90 : decode cX8_readNumbers 90 = .ok (.iastore, 1) := by decide +kernel
theorem dX8_readNumbers_91 : decode cX8_readNumbers 91 = .ok (.aload_n 0, 1) := by decide +kernel
theorem dX8_readNumbers_92 : decode cX8_readNumbers 92 = .ok (.dup, 1) := by decide +kernel
theorem dX8_readNumbers_93 : decode cX8_readNumbers 93 = .ok (.getfield 97, 3) := by decide +kernel
theorem dX8_readNumbers_96 : decode cX8_readNumbers 96 = .ok (.iconst 1, 1) := by decide +kernel
theorem dX8_readNumbers_97 : decode cX8_readNumbers 97 = .ok (.iadd, 1) := by decide +kernel
theorem dX8_readNumbers_98 : decode cX8_readNumbers 98 = .ok (.putfield 97, 3) := by decide +kernel
theorem dX8_readNumbers_101 : decode cX8_readNumbers 101 = .ok (.aload_n 0, 1) := by decide +kernel
theorem dX8_readNumbers_102 : decode cX8_readNumbers 102 = .ok (.aload_n 0, 1) := by decide +kernel
theorem dX8_readNumbers_103 : decode cX8_readNumbers 103 = .ok (.getfield 97, 3) := by decide +kernel
theorem dX8_readNumbers_106 : decode cX8_readNumbers 106 = .ok (.invokevirtual 100, 3) := by decide +kernel
theorem dX8_readNumbers_109 : decode cX8_readNumbers 109 = .ok (.iload_n 2, 1) := by decide +kernel
theorem dX8_readNumbers_110 : decode cX8_readNumbers 110 = .ok (.iload_n 1, 1) := by decide +kernel
theorem dX8_readNumbers_111 : decode cX8_readNumbers 111 = .ok (.iconst 1, 1) := by decide +kernel
theorem dX8_readNumbers_112 : decode cX8_readNumbers 112 = .ok (.isub, 1) := by decide +kernel
theorem dX8_readNumbers_113 : decode cX8_readNumbers 113 = .ok (.if_icmp .ge 8, 3) := by decide +kernel
theorem dX8_readNumbers_116 : decode cX8_readNumbers 116 = .ok (.bipush 44, 2) := by decide +kernel
theorem dX8_readNumbers_118 : decode cX8_readNumbers 118 = .ok (.goto 5, 3) := by decide +kernel
theorem dX8_readNumbers_121 : decode cX8_readNumbers 121 = .ok (.bipush 59, 2) := by decide +kernel
theorem dX8_readNumbers_123 : decode cX8_readNumbers 123 = .ok (.if_icmp .eq 5, 3) := by decide +kernel
theorem dX8_readNumbers_126 : decode cX8_readNumbers 126 = .ok (.iconst 0, 1) := by decide +kernel
theorem dX8_readNumbers_127 : decode cX8_readNumbers 127 = .ok (.ireturn, 1) := by decide +kernel
theorem dX8_readNumbers_128 : decode cX8_readNumbers 128 = .ok (.aload_n 0, 1) := by decide +kernel
theorem dX8_readNumbers_129 : decode cX8_readNumbers 129 = .ok (.dup, 1) := by decide +kernel
theorem dX8_readNumbers_130 : decode cX8_readNumbers 130 = .ok (.getfield 97, 3) := by decide +kernel
theorem dX8_readNumbers_133 : decode cX8_readNumbers 133 = .ok (.iconst 1, 1) := by decide +kernel
theorem dX8_readNumbers_134 : decode cX8_readNumbers 134 = .ok (.iadd, 1) := by decide +kernel
theorem dX8_readNumbers_135 : decode cX8_readNumbers 135 = .ok (.putfield 97, 3) := by decide +kernel
theorem dX8_readNumbers_138 : decode cX8_readNumbers 138 = .ok (.iinc 2 1, 3) := by decide +kernel
theorem dX8_readNumbers_141 : decode cX8_readNumbers 141 = .ok (.goto (-139), 3) := by decide +kernel
theorem dX8_readNumbers_144 : decode cX8_readNumbers 144 = .ok (.iconst 1, 1) := by decide +kernel
theorem dX8_readNumbers_145 : decode cX8_readNumbers 145 = .ok (.ireturn, 1) := by decide +kernel
set_option maxRecDepth 20000 in
theorem ggX8_isTold_X8_in : GoodIn wsX8_isTold wsX8_in := goodIn_r _ [5] rfl (by decide +kernel)
set_option maxRecDepth 20000 in
theorem gX8_isTold_X8_in : GoodIn wsX8_isTold (va_wsS RX8 83 yX8_in wsX8_in) := goodIn_app (goodIn_of _ (by decide +kernel)) ggX8_isTold_X8_in
theorem dX8_isTold_0 : decode cX8_isTold 0 = .ok (.aload_n 0, 1) := by decide +kernel
theorem dX8_isTold_1 : decode cX8_isTold 1 = .ok (.getfield 31, 3) := by decide +kernel
theorem dX8_isTold_4 : decode cX8_isTold 4 = .ok (.iload_n 1, 1) := by decide +kernel
theorem dX8_isTold_5 : decode cX8_isTold 5 = .ok (.iaload, 1) := by decide +kernel
theorem dX8_isTold_6 : decode cX8_isTold 6 = .ok (.iload_n 2, 1) := by decide +kernel
theorem dX8_isTold_7 : decode cX8_isTold 7 = .ok (.iload_n 3, 1) := by decide +kernel
theorem dX8_isTold_8 : decode cX8_isTold 8 = .ok (.invokestatic 83, 3) := by decide +kernel
theorem dX8_isTold_11 : decode cX8_isTold 11 = .ok (.ireturn, 1) := by decide +kernel
theorem dX8_clearTold_0 : decode cX8_clearTold 0 = .ok (.aload_n 0, 1) := by decide +kernel
theorem dX8_clearTold_1 : decode cX8_clearTold 1 = .ok (.iconst 0, 1) := by decide +kernel
theorem dX8_clearTold_2 : decode cX8_clearTold 2 = .ok (.putfield 74, 3) := by decide +kernel
theorem dX8_clearTold_5 : decode cX8_clearTold 5 = .ok (.aload_n 0, 1) := by decide +kernel
theorem dX8_clearTold_6 : decode cX8_clearTold 6 = .ok (.iconst 0, 1) := by decide +kernel
theorem dX8_clearTold_7 : decode cX8_clearTold 7 = .ok (.putfield 77, 3) := by decide +kernel
theorem dX8_clearTold_10 : decode cX8_clearTold 10 = .ok (.aload_n 0, 1) := by decide +kernel
theorem dX8_clearTold_11 : decode cX8_clearTold 11 = .ok (.bipush 60, 2) := by decide +kernel
theorem dX8_clearTold_13 : decode cX8_clearTold 13 = .ok (.putfield 67, 3) := by decide +kernel
theorem dX8_clearTold_16 : decode cX8_clearTold 16 = .ok (.return_, 1) := by decide +kernel
set_option maxRecDepth 20000 in
theorem ggX8_readPersonOf_X8_readNumbers : GoodIn wsX8_readPersonOf wsX8_readNumbers := goodIn_r _ [7, 8, 2, 9, 10, 11, 6, 12, 13, 14, 15, 16, 17, 18, 19, 20, 31, 32, 33, 34, 35, 36, 37, 38, 39, 40, 41, 42, 43, 44, 45, 46, 47, 48, 49, 50, 51, 52, 53, 54, 55, 56, 57] rfl (by decide +kernel)
set_option maxRecDepth 20000 in
theorem gX8_readPersonOf_X8_readNumbers : GoodIn wsX8_readPersonOf (wsV RX8 107 RX8 yX8_readNumbers wsX8_readNumbers) := goodIn_app (goodIn_of _ (by decide +kernel)) ggX8_readPersonOf_X8_readNumbers
set_option maxRecDepth 20000 in
theorem ggX8_readPersonOf_X8_isTold : GoodIn wsX8_readPersonOf wsX8_isTold := goodIn_r _ [24, 2, 18, 19, 6, 20, 31, 32, 33, 34, 35, 36, 37, 38, 39, 40, 41, 42, 43, 44, 45, 46, 47, 48, 49, 50, 51, 52, 53, 54, 55, 56, 57] rfl (by decide +kernel)
set_option maxRecDepth 20000 in
theorem gX8_readPersonOf_X8_isTold : GoodIn wsX8_readPersonOf (wsV RX8 110 RX8 yX8_isTold wsX8_isTold) := goodIn_app (goodIn_of _ (by decide +kernel)) ggX8_readPersonOf_X8_isTold
set_option maxRecDepth 20000 in
theorem ggX8_readPersonOf_X8_tellsPerson : GoodIn wsX8_readPersonOf wsX8_tellsPerson := goodIn_r _ [28, 29, 1, 30, 31, 32, 33, 34, 35, 36, 37, 38, 39, 40, 41, 42, 43, 44, 45, 46, 47, 48, 49, 50, 51, 52, 53, 54, 55, 56, 57] rfl (by decide +kernel)
set_option maxRecDepth 20000 in
theorem gX8_readPersonOf_X8_tellsPerson : GoodIn wsX8_readPersonOf (wsV RX8 59 RX8 yX8_tellsPerson wsX8_tellsPerson) := goodIn_app (goodIn_of _ (by decide +kernel)) ggX8_readPersonOf_X8_tellsPerson
theorem dX8_readPersonOf_0 : decode cX8_readPersonOf 0 = .ok (.aload_n 0, 1) := by decide +kernel
theorem dX8_readPersonOf_1 : decode cX8_readPersonOf 1 = .ok (.getfield 74, 3) := by decide +kernel
theorem dX8_readPersonOf_4 : decode cX8_readPersonOf 4 = .ok (.bipush 8, 2) := by decide +kernel
theorem dX8_readPersonOf_6 : decode cX8_readPersonOf 6 = .ok (.if_icmp .eq 43, 3) := by decide +kernel
theorem dX8_readPersonOf_9 : decode cX8_readPersonOf 9 = .ok (.aload_n 0, 1) := by decide +kernel
theorem dX8_readPersonOf_10 : decode cX8_readPersonOf 10 = .ok (.iconst 3, 1) := by decide +kernel
theorem dX8_readPersonOf_11 : decode cX8_readPersonOf 11 = .ok (.invokevirtual 107, 3) := by decide +kernel
theorem dX8_readPersonOf_14 : decode cX8_readPersonOf 14 = .ok (.ifCond .eq 35, 3) := by decide +kernel
theorem dX8_readPersonOf_17 : decode cX8_readPersonOf 17 = .ok (.aload_n 0, 1) := by decide +kernel
theorem dX8_readPersonOf_18 : decode cX8_readPersonOf 18 = .ok (.iconst 0, 1) := by decide +kernel
theorem dX8_readPersonOf_19 : decode cX8_readPersonOf 19 = .ok (.iconst 0, 1) := by decide +kernel
theorem dX8_readPersonOf_20 : decode cX8_readPersonOf 20 = .ok (.iconst 2, 1) := by decide +kernel
theorem dX8_readPersonOf_21 : decode cX8_readPersonOf 21 = .ok (.invokevirtual 110, 3) := by decide +kernel
theorem dX8_readPersonOf_24 : decode cX8_readPersonOf 24 = .ok (.ifCond .eq 25, 3) := by decide +kernel
theorem dX8_readPersonOf_27 : decode cX8_readPersonOf 27 = .ok (.aload_n 0, 1) := by decide +kernel
theorem dX8_readPersonOf_28 : decode cX8_readPersonOf 28 = .ok (.iconst 1, 1) := by decide +kernel
theorem dX8_readPersonOf_29 : decode cX8_readPersonOf 29 = .ok (.iconst 0, 1) := by decide +kernel
theorem dX8_readPersonOf_30 : decode cX8_readPersonOf 30 = .ok (.bipush 60, 2) := by decide +kernel
theorem dX8_readPersonOf_32 : decode cX8_readPersonOf 32 = .ok (.invokevirtual 110, 3) := by decide +kernel
theorem dX8_readPersonOf_35 : decode cX8_readPersonOf 35 = .ok (.ifCond .eq 14, 3) := by decide +kernel
theorem dX8_readPersonOf_38 : decode cX8_readPersonOf 38 = .ok (.aload_n 0, 1) := by decide +kernel
theorem dX8_readPersonOf_39 : decode cX8_readPersonOf 39 = .ok (.iconst 2, 1) := by decide +kernel
theorem dX8_readPersonOf_40 : decode cX8_readPersonOf 40 = .ok (.iconst 0, 1) := by decide +kernel
theorem dX8_readPersonOf_41 : decode cX8_readPersonOf 41 = .ok (.bipush 60, 2) := by decide +kernel
theorem dX8_readPersonOf_43 : decode cX8_readPersonOf 43 = .ok (.invokevirtual 110, 3) := by decide +kernel
theorem dX8_readPersonOf_46 : decode cX8_readPersonOf 46 = .ok (.ifCond .ne 5, 3) := by decide +kernel
theorem dX8_readPersonOf_49 : decode cX8_readPersonOf 49 = .ok (.iconst 0, 1) := by decide +kernel
theorem dX8_readPersonOf_50 : decode cX8_readPersonOf 50 = .ok (.ireturn, 1) := by decide +kernel
theorem dX8_readPersonOf_51 : decode cX8_readPersonOf 51 = .ok (.aload_n 0, 1) := by decide +kernel
theorem dX8_readPersonOf_52 : decode cX8_readPersonOf 52 = .ok (.iload_n 1, 1) := by decide +kernel
theorem dX8_readPersonOf_53 : decode cX8_readPersonOf 53 = .ok (.aload_n 0, 1) := by decide +kernel
theorem dX8_readPersonOf_54 : decode cX8_readPersonOf 54 = .ok (.getfield 31, 3) := by decide +kernel
theorem dX8_readPersonOf_57 : decode cX8_readPersonOf 57 = .ok (.iconst 0, 1) := by decide +kernel
theorem dX8_readPersonOf_58 : decode cX8_readPersonOf 58 = .ok (.iaload, 1) := by decide +kernel
theorem dX8_readPersonOf_59 : decode cX8_readPersonOf 59 = .ok (.aload_n 0, 1) := by decide +kernel
theorem dX8_readPersonOf_60 : decode cX8_readPersonOf 60 = .ok (.getfield 31, 3) := by decide +kernel
theorem dX8_readPersonOf_63 : decode cX8_readPersonOf 63 = .ok (.iconst 1, 1) := by decide +kernel
theorem dX8_readPersonOf_64 : decode cX8_readPersonOf 64 = .ok (.iaload, 1) := by decide +kernel
theorem dX8_readPersonOf_65 : decode cX8_readPersonOf 65 = .ok (.aload_n 0, 1) := by decide +kernel
theorem dX8_readPersonOf_66 : decode cX8_readPersonOf 66 = .ok (.getfield 31, 3) := by decide +kernel
theorem dX8_readPersonOf_69 : decode cX8_readPersonOf 69 = .ok (.iconst 2, 1) := by decide +kernel
theorem dX8_readPersonOf_70 : decode cX8_readPersonOf 70 = .ok (.iaload, 1) := by decide +kernel
theorem dX8_readPersonOf_71 : decode cX8_readPersonOf 71 = .ok (.invokevirtual 59, 3) := by decide +kernel
theorem dX8_readPersonOf_74 : decode cX8_readPersonOf 74 = .ok (.iconst 1, 1) := by decide +kernel
theorem dX8_readPersonOf_75 : decode cX8_readPersonOf 75 = .ok (.ireturn, 1) := by decide +kernel
set_option maxRecDepth 20000 in
theorem ggX8_readParsonOf_X8_readNumbers : GoodIn wsX8_readParsonOf wsX8_readNumbers := goodIn_r _ [7, 8, 2, 9, 10, 11, 6, 12, 13, 14, 15, 16, 17, 18, 19, 20, 30, 31, 32, 33, 34, 35, 36, 37, 38, 39, 40, 41, 42, 43, 44, 45, 46, 47, 48, 49, 50, 51, 52, 53, 54, 55, 56] rfl (by decide +kernel)
set_option maxRecDepth 20000 in
theorem gX8_readParsonOf_X8_readNumbers : GoodIn wsX8_readParsonOf (wsV RX8 107 RX8 yX8_readNumbers wsX8_readNumbers) := goodIn_app (goodIn_of _ (by decide +kernel)) ggX8_readParsonOf_X8_readNumbers
set_option maxRecDepth 20000 in
theorem ggX8_readParsonOf_X8_isTold : GoodIn wsX8_readParsonOf wsX8_isTold := goodIn_r _ [24, 2, 18, 19, 6, 20, 30, 31, 32, 33, 34, 35, 36, 37, 38, 39, 40, 41, 42, 43, 44, 45, 46, 47, 48, 49, 50, 51, 52, 53, 54, 55, 56] rfl (by decide +kernel)
set_option maxRecDepth 20000 in
theorem gX8_readParsonOf_X8_isTold : GoodIn wsX8_readParsonOf (wsV RX8 110 RX8 yX8_isTold wsX8_isTold) := goodIn_app (goodIn_of _ (by decide +kernel)) ggX8_readParsonOf_X8_isTold
set_option maxRecDepth 20000 in
theorem ggX8_readParsonOf_X8_tellsParson : GoodIn wsX8_readParsonOf wsX8_tellsParson := goodIn_r _ [28, 29, 1, 30, 31, 32, 33, 34, 35, 36, 37, 38, 39, 40, 41, 42, 43, 44, 45, 46, 47, 48, 49, 50, 51, 52, 53, 54, 55, 56] rfl (by decide +kernel)
set_option maxRecDepth 20000 in
theorem gX8_readParsonOf_X8_tellsParson : GoodIn wsX8_readParsonOf (wsV RX8 63 RX8 yX8_tellsParson wsX8_tellsParson) := goodIn_app (goodIn_of _ (by decide +kernel)) ggX8_readParsonOf_X8_tellsParson
theorem dX8_readParsonOf_0 : decode cX8_readParsonOf 0 = .ok (.aload_n 0, 1) := by decide +kernel
theorem dX8_readParsonOf_1 : decode cX8_readParsonOf 1 = .ok (.getfield 77, 3) := by decide +kernel
theorem dX8_readParsonOf_4 : decode cX8_readParsonOf 4 = .ok (.iconst 3, 1) := by decide +kernel
theorem dX8_readParsonOf_5 : decode cX8_readParsonOf 5 = .ok (.if_icmp .eq 32, 3) := by decide +kernel
theorem dX8_readParsonOf_8 : decode cX8_readParsonOf 8 = .ok (.aload_n 0, 1) := by decide +kernel
theorem dX8_readParsonOf_9 : decode cX8_readParsonOf 9 = .ok (.iconst 2, 1) := by decide +kernel
theorem dX8_readParsonOf_10 : decode cX8_readParsonOf 10 = .ok (.invokevirtual 107, 3) := by decide +kernel
theorem dX8_readParsonOf_13 : decode cX8_readParsonOf 13 = .ok (.ifCond .eq 24, 3) := by decide +kernel
theorem dX8_readParsonOf_16 : decode cX8_readParsonOf 16 = .ok (.aload_n 0, 1) := by decide +kernel
theorem dX8_readParsonOf_17 : decode cX8_readParsonOf 17 = .ok (.iconst 0, 1) := by decide +kernel
theorem dX8_readParsonOf_18 : decode cX8_readParsonOf 18 = .ok (.iconst 0, 1) := by decide +kernel
theorem dX8_readParsonOf_19 : decode cX8_readParsonOf 19 = .ok (.iconst 2, 1) := by decide +kernel
theorem dX8_readParsonOf_20 : decode cX8_readParsonOf 20 = .ok (.invokevirtual 110, 3) := by decide +kernel
theorem dX8_readParsonOf_23 : decode cX8_readParsonOf 23 = .ok (.ifCond .eq 14, 3) := by decide +kernel
theorem dX8_readParsonOf_26 : decode cX8_readParsonOf 26 = .ok (.aload_n 0, 1) := by decide +kernel
theorem dX8_readParsonOf_27 : decode cX8_readParsonOf 27 = .ok (.iconst 1, 1) := by decide +kernel
theorem dX8_readParsonOf_28 : decode cX8_readParsonOf 28 = .ok (.iconst 0, 1) := by decide +kernel
theorem dX8_readParsonOf_29 : decode cX8_readParsonOf 29 = .ok (.bipush 20, 2) := by decide +kernel
theorem dX8_readParsonOf_31 : decode cX8_readParsonOf 31 = .ok (.invokevirtual 110, 3) := by decide +kernel
theorem dX8_readParsonOf_34 : decode cX8_readParsonOf 34 = .ok (.ifCond .ne 5, 3) := by decide +kernel
theorem dX8_readParsonOf_37 : decode cX8_readParsonOf 37 = .ok (.iconst 0, 1) := by decide +kernel
theorem dX8_readParsonOf_38 : decode cX8_readParsonOf 38 = .ok (.ireturn, 1) := by decide +kernel
theorem dX8_readParsonOf_39 : decode cX8_readParsonOf 39 = .ok (.aload_n 0, 1) := by decide +kernel
theorem dX8_readParsonOf_40 : decode cX8_readParsonOf 40 = .ok (.aload_n 0, 1) := by decide +kernel
theorem dX8_readParsonOf_41 : decode cX8_readParsonOf 41 = .ok (.getfield 31, 3) := by decide +kernel
theorem dX8_readParsonOf_44 : decode cX8_readParsonOf 44 = .ok (.iconst 0, 1) := by decide +kernel
theorem dX8_readParsonOf_45 : decode cX8_readParsonOf 45 = .ok (.iaload, 1) := by decide +kernel
theorem dX8_readParsonOf_46 : decode cX8_readParsonOf 46 = .ok (.aload_n 0, 1) := by decide +kernel
theorem dX8_readParsonOf_47 : decode cX8_readParsonOf 47 = .ok (.getfield 31, 3) := by decide +kernel
theorem dX8_readParsonOf_50 : decode cX8_readParsonOf 50 = .ok (.iconst 1, 1) := by decide +kernel
theorem dX8_readParsonOf_51 : decode cX8_readParsonOf 51 = .ok (.iaload, 1) := by decide +kernel
theorem dX8_readParsonOf_52 : decode cX8_readParsonOf 52 = .ok (.invokevirtual 63, 3) := by decide +kernel
theorem dX8_readParsonOf_55 : decode cX8_readParsonOf 55 = .ok (.iconst 1, 1) := by decide +kernel
theorem dX8_readParsonOf_56 : decode cX8_readParsonOf 56 = .ok (.ireturn, 1) := by decide +kernel
set_option maxRecDepth 20000 in
theorem ggX8_readLawOf_X8_readNumbers : GoodIn wsX8_readLawOf wsX8_readNumbers := goodIn_r _ [7, 8, 1, 9, 10, 11, 6, 12, 13, 14, 15, 16, 17, 18, 19, 20, 25, 26, 27, 28, 29, 30, 31, 32, 33, 34, 35, 36, 37, 38, 39, 40, 41, 42, 43, 44, 45, 46, 47, 48, 49, 50, 51] rfl (by decide +kernel)
set_option maxRecDepth 20000 in
theorem gX8_readLawOf_X8_readNumbers : GoodIn wsX8_readLawOf (wsV RX8 107 RX8 yX8_readNumbers wsX8_readNumbers) := goodIn_app (goodIn_of _ (by decide +kernel)) ggX8_readLawOf_X8_readNumbers
set_option maxRecDepth 20000 in
theorem ggX8_readLawOf_X8_isTold : GoodIn wsX8_readLawOf wsX8_isTold := goodIn_r _ [24, 1, 18, 19, 6, 20, 25, 26, 27, 28, 29, 30, 31, 32, 33, 34, 35, 36, 37, 38, 39, 40, 41, 42, 43, 44, 45, 46, 47, 48, 49, 50, 51] rfl (by decide +kernel)
set_option maxRecDepth 20000 in
theorem gX8_readLawOf_X8_isTold : GoodIn wsX8_readLawOf (wsV RX8 110 RX8 yX8_isTold wsX8_isTold) := goodIn_app (goodIn_of _ (by decide +kernel)) ggX8_readLawOf_X8_isTold
theorem dX8_readLawOf_0 : decode cX8_readLawOf 0 = .ok (.aload_n 0, 1) := by decide +kernel
theorem dX8_readLawOf_1 : decode cX8_readLawOf 1 = .ok (.iconst 1, 1) := by decide +kernel
theorem dX8_readLawOf_2 : decode cX8_readLawOf 2 = .ok (.invokevirtual 107, 3) := by decide +kernel
theorem dX8_readLawOf_5 : decode cX8_readLawOf 5 = .ok (.ifCond .eq 18, 3) := by decide +kernel
theorem dX8_readLawOf_8 : decode cX8_readLawOf 8 = .ok (.aload_n 0, 1) := by decide +kernel
theorem dX8_readLawOf_9 : decode cX8_readLawOf 9 = .ok (.iconst 0, 1) := by decide +kernel
theorem dX8_readLawOf_10 : decode cX8_readLawOf 10 = .ok (.iconst 1, 1) := by decide +kernel
theorem dX8_readLawOf_11 : decode cX8_readLawOf 11 = .ok (.bipush 99, 2) := by decide +kernel
theorem dX8_readLawOf_13 : decode cX8_readLawOf 13 = .ok (.invokevirtual 110, 3) := by decide +kernel
theorem dX8_readLawOf_16 : decode cX8_readLawOf 16 = .ok (.ifCond .eq 7, 3) := by decide +kernel
theorem dX8_readLawOf_19 : decode cX8_readLawOf 19 = .ok (.iconst 1, 1) := by decide +kernel
theorem dX8_readLawOf_20 : decode cX8_readLawOf 20 = .ok (.goto 4, 3) := by decide +kernel
theorem dX8_readLawOf_23 : decode cX8_readLawOf 23 = .ok (.iconst 0, 1) := by decide +kernel
theorem dX8_readLawOf_24 : decode cX8_readLawOf 24 = .ok (.istore_n 1, 1) := by decide +kernel
theorem dX8_readLawOf_25 : decode cX8_readLawOf 25 = .ok (.aload_n 0, 1) := by decide +kernel
theorem dX8_readLawOf_26 : decode cX8_readLawOf 26 = .ok (.iload_n 1, 1) := by decide +kernel
theorem dX8_readLawOf_27 : decode cX8_readLawOf 27 = .ok (.ifCond .eq 12, 3) := by decide +kernel
theorem dX8_readLawOf_30 : decode cX8_readLawOf 30 = .ok (.aload_n 0, 1) := by decide +kernel
theorem dX8_readLawOf_31 : decode cX8_readLawOf 31 = .ok (.getfield 31, 3) := by decide +kernel
theorem dX8_readLawOf_34 : decode cX8_readLawOf 34 = .ok (.iconst 0, 1) := by decide +kernel
theorem dX8_readLawOf_35 : decode cX8_readLawOf 35 = .ok (.iaload, 1) := by decide +kernel
theorem dX8_readLawOf_36 : decode cX8_readLawOf 36 = .ok (.goto 7, 3) := by decide +kernel
theorem dX8_readLawOf_39 : decode cX8_readLawOf 39 = .ok (.aload_n 0, 1) := by decide +kernel
theorem dX8_readLawOf_40 : decode cX8_readLawOf 40 = .ok (.getfield 67, 3) := by decide +kernel
theorem dX8_readLawOf_43 : decode cX8_readLawOf 43 = .ok (.putfield 67, 3) := by decide +kernel
theorem dX8_readLawOf_46 : decode cX8_readLawOf 46 = .ok (.iload_n 1, 1) := by decide +kernel
theorem dX8_readLawOf_47 : decode cX8_readLawOf 47 = .ok (.ireturn, 1) := by decide +kernel
set_option maxRecDepth 20000 in
theorem ggX8_readItem_X8_letterAt : GoodIn wsX8_readItem wsX8_letterAt := goodIn_r _ [6, 7, 8, 50, 51, 52, 53, 54, 55, 56, 57, 58, 59, 60, 61, 62, 63, 64, 65, 66, 67, 68, 69, 70, 71, 72, 73, 74, 75, 76] rfl (by decide +kernel)
set_option maxRecDepth 20000 in
theorem gX8_readItem_X8_letterAt : GoodIn wsX8_readItem (wsV RX8 100 RX8 yX8_letterAt wsX8_letterAt) := goodIn_app (goodIn_of _ (by decide +kernel)) ggX8_readItem_X8_letterAt
set_option maxRecDepth 20000 in
theorem ggX8_readItem_X8_readPersonOf : GoodIn wsX8_readItem wsX8_readPersonOf := goodIn_r _ [12, 13, 14, 15, 16, 17, 5, 18, 1, 2, 3, 4, 6, 7, 8, 19, 20, 21, 22, 23, 24, 25, 26, 27, 28, 29, 30, 31, 32, 33, 34, 50, 51, 52, 53, 54, 55, 56, 57, 58, 59, 60, 61, 62, 63, 64, 65, 66, 67, 68, 69, 70, 71, 72, 73, 74, 75, 76] rfl (by decide +kernel)
set_option maxRecDepth 20000 in
theorem gX8_readItem_X8_readPersonOf : GoodIn wsX8_readItem (wsV RX8 113 RX8 yX8_readPersonOf wsX8_readPersonOf) := goodIn_app (goodIn_of _ (by decide +kernel)) ggX8_readItem_X8_readPersonOf
set_option maxRecDepth 20000 in
theorem ggX8_readItem_X8_readParsonOf : GoodIn wsX8_readItem wsX8_readParsonOf := goodIn_r _ [38, 39, 14, 15, 16, 17, 5, 18, 1, 2, 3, 4, 6, 7, 8, 19, 20, 21, 22, 23, 24, 25, 26, 27, 28, 40, 41, 42, 43, 44, 50, 51, 52, 53, 54, 55, 56, 57, 58, 59, 60, 61, 62, 63, 64, 65, 66, 67, 68, 69, 70, 71, 72, 73, 74, 75, 76] rfl (by decide +kernel)
set_option maxRecDepth 20000 in
theorem gX8_readItem_X8_readParsonOf : GoodIn wsX8_readItem (wsV RX8 116 RX8 yX8_readParsonOf wsX8_readParsonOf) := goodIn_app (goodIn_of _ (by decide +kernel)) ggX8_readItem_X8_readParsonOf
set_option maxRecDepth 20000 in
theorem ggX8_readItem_X8_readLawOf : GoodIn wsX8_readItem wsX8_readLawOf := goodIn_r _ [48, 14, 49, 15, 16, 17, 5, 18, 1, 2, 3, 4, 6, 7, 8, 19, 20, 21, 22, 23, 24, 25, 26, 27, 28, 50, 51, 52, 53, 54, 55, 56, 57, 58, 59, 60, 61, 62, 63, 64, 65, 66, 67, 68, 69, 70, 71, 72, 73, 74, 75, 76] rfl (by decide +kernel)
set_option maxRecDepth 20000 in
theorem gX8_readItem_X8_readLawOf : GoodIn wsX8_readItem (wsV RX8 120 RX8 yX8_readLawOf wsX8_readLawOf) := goodIn_app (goodIn_of _ (by decide +kernel)) ggX8_readItem_X8_readLawOf
theorem dX8_readItem_0 : decode cX8_readItem 0 = .ok (.aload_n 0, 1) := by decide +kernel
theorem dX8_readItem_1 : decode cX8_readItem 1 = .ok (.aload_n 0, 1) := by decide +kernel
theorem dX8_readItem_2 : decode cX8_readItem 2 = .ok (.getfield 97, 3) := by decide +kernel
theorem dX8_readItem_5 : decode cX8_readItem 5 = .ok (.invokevirtual 100, 3) := by decide +kernel
theorem dX8_readItem_8 : decode cX8_readItem 8 = .ok (.istore_n 1, 1) := by decide +kernel
theorem dX8_readItem_9 : decode cX8_readItem 9 = .ok (.aload_n 0, 1) := by decide +kernel
theorem dX8_readItem_10 : decode cX8_readItem 10 = .ok (.dup, 1) := by decide +kernel
theorem dX8_readItem_11 : decode cX8_readItem 11 = .ok (.getfield 97, 3) := by decide +kernel
theorem dX8_readItem_14 : decode cX8_readItem 14 = .ok (.iconst 1, 1) := by decide +kernel
theorem dX8_readItem_15 : decode cX8_readItem 15 = .ok (.iadd, 1) := by decide +kernel
theorem dX8_readItem_16 : decode cX8_readItem 16 = .ok (.putfield 97, 3) := by decide +kernel
theorem dX8_readItem_19 : decode cX8_readItem 19 = .ok (.iload_n 1, 1) := by decide +kernel
theorem dX8_readItem_20 : decode cX8_readItem 20 = .ok (.lookupswitch 66 #[(108, 61), (109, 44), (112, 56), (119, 50)], 44) := by decide +kernel
theorem dX8_readItem_64 : decode cX8_readItem 64 = .ok (.aload_n 0, 1) := by decide +kernel
theorem dX8_readItem_65 : decode cX8_readItem 65 = .ok (.iconst 0, 1) := by decide +kernel
theorem dX8_readItem_66 : decode cX8_readItem 66 = .ok (.invokevirtual 113, 3) := by decide +kernel
theorem dX8_readItem_69 : decode cX8_readItem 69 = .ok (.ireturn, 1) := by decide +kernel
theorem dX8_readItem_70 : decode cX8_readItem 70 = .ok (.aload_n 0, 1) := by decide +kernel
theorem dX8_readItem_71 : decode cX8_readItem 71 = .ok (.iconst 1, 1) := by decide +kernel
theorem dX8_readItem_72 : decode cX8_readItem 72 = .ok (.invokevirtual 113, 3) := by decide +kernel
theorem dX8_readItem_75 : decode cX8_readItem 75 = .ok (.ireturn, 1) := by decide +kernel
theorem dX8_readItem_76 : decode cX8_readItem 76 = .ok (.aload_n 0, 1) := by decide +kernel
theorem dX8_readItem_77 : decode cX8_readItem 77 = .ok (.invokevirtual 116, 3) := by decide +kernel
theorem dX8_readItem_80 : decode cX8_readItem 80 = .ok (.ireturn, 1) := by decide +kernel
theorem dX8_readItem_81 : decode cX8_readItem 81 = .ok (.aload_n 0, 1) := by decide +kernel
theorem dX8_readItem_82 : decode cX8_readItem 82 = .ok (.invokevirtual 120, 3) := by decide +kernel
theorem dX8_readItem_85 : decode cX8_readItem 85 = .ok (.ireturn, 1) := by decide +kernel
theorem dX8_readItem_86 : decode cX8_readItem 86 = .ok (.iconst 0, 1) := by decide +kernel
theorem dX8_readItem_87 : decode cX8_readItem 87 = .ok (.ireturn, 1) := by decide +kernel
set_option maxRecDepth 20000 in
theorem ggX8_fault_X8_clearTold : GoodIn wsX8_fault wsX8_clearTold := goodIn_r _ [7, 8, 9, 10, 58, 59, 60, 61, 62, 63, 64, 65, 66, 67, 68, 69, 70, 71, 72, 73, 74, 75, 76, 77, 78, 79, 80, 81, 82, 83, 84] rfl (by decide +kernel)
set_option maxRecDepth 20000 in
theorem gX8_fault_X8_clearTold : GoodIn wsX8_fault (wsV RX8 56 RX8 yX8_clearTold wsX8_clearTold) := goodIn_app (goodIn_of _ (by decide +kernel)) ggX8_fault_X8_clearTold
set_option maxRecDepth 20000 in
theorem ggX8_fault_X8_readItem : GoodIn wsX8_fault wsX8_readItem := goodIn_r _ [14, 1, 15, 16, 17, 6, 18, 2, 19, 20, 21, 22, 23, 8, 24, 25, 26, 27, 28, 29, 30, 31, 32, 33, 34, 35, 36, 37, 38, 39, 40, 41, 42, 43, 44, 45, 46, 47, 48, 9, 49, 50, 51, 52, 53, 54, 55, 56, 57, 10, 58, 59, 60, 61, 62, 63, 64, 65, 66, 67, 68, 69, 70, 71, 72, 73, 74, 75, 76, 77, 78, 79, 80, 81, 82, 83, 84] rfl (by decide +kernel)
set_option maxRecDepth 20000 in
theorem gX8_fault_X8_readItem : GoodIn wsX8_fault (wsV RX8 123 RX8 yX8_readItem wsX8_readItem) := goodIn_app (goodIn_of _ (by decide +kernel)) ggX8_fault_X8_readItem
theorem dX8_fault_0 : decode cX8_fault 0 = .ok (.aload_n 0, 1) := by decide +kernel
theorem dX8_fault_1 : decode cX8_fault 1 = .ok (.iconst 0, 1) := by decide +kernel
theorem dX8_fault_2 : decode cX8_fault 2 = .ok (.putfield 97, 3) := by decide +kernel
theorem dX8_fault_5 : decode cX8_fault 5 = .ok (.aload_n 0, 1) := by decide +kernel
theorem dX8_fault_6 : decode cX8_fault 6 = .ok (.invokevirtual 56, 3) := by decide +kernel
theorem dX8_fault_9 : decode cX8_fault 9 = .ok (.aload_n 0, 1) := by decide +kernel
theorem dX8_fault_10 : decode cX8_fault 10 = .ok (.getfield 97, 3) := by decide +kernel
theorem dX8_fault_13 : decode cX8_fault 13 = .ok (.aload_n 0, 1) := by decide +kernel
theorem dX8_fault_14 : decode cX8_fault 14 = .ok (.getfield 94, 3) := by decide +kernel
theorem dX8_fault_17 : decode cX8_fault 17 = .ok (.if_icmp .ge 20, 3) := by decide +kernel
theorem dX8_fault_20 : decode cX8_fault 20 = .ok (.aload_n 0, 1) := by decide +kernel
theorem dX8_fault_21 : decode cX8_fault 21 = .ok (.getfield 97, 3) := by decide +kernel
theorem dX8_fault_24 : decode cX8_fault 24 = .ok (.istore_n 1, 1) := by decide +kernel
theorem dX8_fault_25 : decode cX8_fault 25 = .ok (.aload_n 0, 1) := by decide +kernel
theorem dX8_fault_26 : decode cX8_fault 26 = .ok (.invokevirtual 123, 3) := by decide +kernel
theorem dX8_fault_29 : decode cX8_fault 29 = .ok (.ifCond .ne 5, 3) := by decide +kernel
theorem dX8_fault_32 : decode cX8_fault 32 = .ok (.iload_n 1, 1) := by decide +kernel
theorem dX8_fault_33 : decode cX8_fault 33 = .ok (.ireturn, 1) := by decide +kernel
theorem dX8_fault_34 : decode cX8_fault 34 = .ok (.goto (-25), 3) := by decide +kernel
theorem dX8_fault_37 : decode cX8_fault 37 = .ok (.bipush (-4), 2) := by decide +kernel
theorem dX8_fault_39 : decode cX8_fault 39 = .ok (.ireturn, 1) := by decide +kernel
set_option maxRecDepth 20000 in
theorem ggX8_lay_X8_fault : GoodIn wsX8_lay wsX8_fault := goodIn_r _ [8, 9, 10, 11, 12, 13, 7, 14, 1, 2, 15, 16, 17, 18, 19, 20, 21, 22, 23, 24, 25, 26, 27, 28, 29, 30, 31, 32, 33, 34, 35, 36, 37, 38, 39, 40, 41, 42, 43, 44, 45, 46, 47, 48, 49, 50, 51, 52, 53, 54, 55, 56, 57, 58, 59, 60, 61, 62, 78, 79, 80, 81, 82, 83, 84, 85, 86, 87, 88, 89, 90, 91, 92, 93, 94, 95, 96, 97, 98, 99, 100, 101, 102, 103, 104] rfl (by decide +kernel)
set_option maxRecDepth 20000 in
theorem gX8_lay_X8_fault : GoodIn wsX8_lay (wsV RX8 126 RX8 yX8_fault wsX8_fault) := goodIn_app (goodIn_of _ (by decide +kernel)) ggX8_lay_X8_fault
set_option maxRecDepth 20000 in
theorem ggX8_lay_X8_settles : GoodIn wsX8_lay wsX8_settles := goodIn_r _ [66, 1, 3, 2, 67, 15, 68, 69, 48, 70, 58, 71, 49, 72, 73, 74, 75, 76, 7, 77, 78, 79, 80, 81, 82, 83, 84, 85, 86, 87, 88, 89, 90, 91, 92, 93, 94, 95, 96, 97, 98, 99, 100, 101, 102, 103, 104] rfl (by decide +kernel)
set_option maxRecDepth 20000 in
theorem gX8_lay_X8_settles : GoodIn wsX8_lay (wsV RX8 71 RX8 yX8_settles wsX8_settles) := goodIn_app (goodIn_of _ (by decide +kernel)) ggX8_lay_X8_settles
theorem dX8_lay_0 : decode cX8_lay 0 = .ok (.aload_n 0, 1) := by decide +kernel
theorem dX8_lay_1 : decode cX8_lay 1 = .ok (.invokevirtual 126, 3) := by decide +kernel
theorem dX8_lay_4 : decode cX8_lay 4 = .ok (.bipush (-4), 2) := by decide +kernel
theorem dX8_lay_6 : decode cX8_lay 6 = .ok (.if_icmp .ne 17, 3) := by decide +kernel
theorem dX8_lay_9 : decode cX8_lay 9 = .ok (.aload_n 0, 1) := by decide +kernel
theorem dX8_lay_10 : decode cX8_lay 10 = .ok (.getfield 74, 3) := by decide +kernel
theorem dX8_lay_13 : decode cX8_lay 13 = .ok (.ifCond .eq 10, 3) := by decide +kernel
theorem dX8_lay_16 : decode cX8_lay 16 = .ok (.aload_n 0, 1) := by decide +kernel
theorem dX8_lay_17 : decode cX8_lay 17 = .ok (.getfield 77, 3) := by decide +kernel
theorem dX8_lay_20 : decode cX8_lay 20 = .ok (.ifCond .ne 6, 3) := by decide +kernel
theorem dX8_lay_23 : decode cX8_lay 23 = .ok (.bipush (-2), 2) := by decide +kernel
theorem dX8_lay_25 : decode cX8_lay 25 = .ok (.ireturn, 1) := by decide +kernel
theorem dX8_lay_26 : decode cX8_lay 26 = .ok (.aload_n 0, 1) := by decide +kernel
theorem dX8_lay_27 : decode cX8_lay 27 = .ok (.invokevirtual 71, 3) := by decide +kernel
theorem dX8_lay_30 : decode cX8_lay 30 = .ok (.aload_n 0, 1) := by decide +kernel
theorem dX8_lay_31 : decode cX8_lay 31 = .ok (.getfield 80, 3) := by decide +kernel
theorem dX8_lay_34 : decode cX8_lay 34 = .ok (.ireturn, 1) := by decide +kernel
theorem dX8_copies_0 : decode cX8_copies 0 = .ok (.iconst 0, 1) := by decide +kernel
theorem dX8_copies_1 : decode cX8_copies 1 = .ok (.istore 5, 2) := by decide +kernel
theorem dX8_copies_3 : decode cX8_copies 3 = .ok (.iload 5, 2) := by decide +kernel
theorem dX8_copies_5 : decode cX8_copies 5 = .ok (.iload 4, 2) := by decide +kernel
theorem dX8_copies_7 : decode cX8_copies 7 = .ok (.if_icmp .ge 21, 3) := by decide +kernel
theorem dX8_copies_10 : decode cX8_copies 10 = .ok (.aload_n 0, 1) := by decide +kernel
theorem dX8_copies_11 : decode cX8_copies 11 = .ok (.iload_n 1, 1) := by decide +kernel
theorem dX8_copies_12 : decode cX8_copies 12 = .ok (.iload 5, 2) := by decide +kernel
theorem dX8_copies_14 : decode cX8_copies 14 = .ok (.iadd, 1) := by decide +kernel
theorem dX8_copies_15 : decode cX8_copies 15 = .ok (.aload_n 2, 1) := by decide +kernel
theorem dX8_copies_16 : decode cX8_copies 16 = .ok (.iload_n 3, 1) := by decide +kernel
theorem dX8_copies_17 : decode cX8_copies 17 = .ok (.iload 5, 2) := by decide +kernel
theorem dX8_copies_19 : decode cX8_copies 19 = .ok (.iadd, 1) := by decide +kernel
theorem dX8_copies_20 : decode cX8_copies 20 = .ok (.iaload, 1) := by decide +kernel
theorem dX8_copies_21 : decode cX8_copies 21 = .ok (.iastore, 1) := by decide +kernel
theorem dX8_copies_22 : decode cX8_copies 22 = .ok (.iinc 5 1, 3) := by decide +kernel
theorem dX8_copies_25 : decode cX8_copies 25 = .ok (.goto (-22), 3) := by decide +kernel
theorem dX8_copies_28 : decode cX8_copies 28 = .ok (.return_, 1) := by decide +kernel
set_option maxRecDepth 20000 in
theorem ggX8_settles_X8_copies : GoodIn wsX8_settles wsX8_copies := goodIn_r _ [19] rfl (by decide +kernel)
set_option maxRecDepth 20000 in
theorem gX8_settles_X8_copies : GoodIn wsX8_settles (va_wsS RX8 133 yX8_copies wsX8_copies) := goodIn_app (goodIn_of _ (by decide +kernel)) ggX8_settles_X8_copies
theorem dX8_settles_0 : decode cX8_settles 0 = .ok (.aload_n 0, 1) := by decide +kernel
theorem dX8_settles_1 : decode cX8_settles 1 = .ok (.aload_n 0, 1) := by decide +kernel
theorem dX8_settles_2 : decode cX8_settles 2 = .ok (.getfield 74, 3) := by decide +kernel
theorem dX8_settles_5 : decode cX8_settles 5 = .ok (.putfield 80, 3) := by decide +kernel
theorem dX8_settles_8 : decode cX8_settles 8 = .ok (.aload_n 0, 1) := by decide +kernel
theorem dX8_settles_9 : decode cX8_settles 9 = .ok (.aload_n 0, 1) := by decide +kernel
theorem dX8_settles_10 : decode cX8_settles 10 = .ok (.getfield 77, 3) := by decide +kernel
theorem dX8_settles_13 : decode cX8_settles 13 = .ok (.putfield 87, 3) := by decide +kernel
theorem dX8_settles_16 : decode cX8_settles 16 = .ok (.aload_n 0, 1) := by decide +kernel
theorem dX8_settles_17 : decode cX8_settles 17 = .ok (.aload_n 0, 1) := by decide +kernel
theorem dX8_settles_18 : decode cX8_settles 18 = .ok (.getfield 67, 3) := by decide +kernel
theorem dX8_settles_21 : decode cX8_settles 21 = .ok (.putfield 130, 3) := by decide +kernel
theorem dX8_settles_24 : decode cX8_settles 24 = .ok (.aload_n 0, 1) := by decide +kernel
theorem dX8_settles_25 : decode cX8_settles 25 = .ok (.getfield 7, 3) := by decide +kernel
theorem dX8_settles_28 : decode cX8_settles 28 = .ok (.iconst 0, 1) := by decide +kernel
theorem dX8_settles_29 : decode cX8_settles 29 = .ok (.aload_n 0, 1) := by decide +kernel
theorem dX8_settles_30 : decode cX8_settles 30 = .ok (.getfield 34, 3) := by decide +kernel
theorem dX8_settles_33 : decode cX8_settles 33 = .ok (.iconst 0, 1) := by decide +kernel
theorem dX8_settles_34 : decode cX8_settles 34 = .ok (.bipush 24, 2) := by decide +kernel
theorem dX8_settles_36 : decode cX8_settles 36 = .ok (.invokestatic 133, 3) := by decide +kernel
theorem dX8_settles_39 : decode cX8_settles 39 = .ok (.aload_n 0, 1) := by decide +kernel
theorem dX8_settles_40 : decode cX8_settles 40 = .ok (.getfield 13, 3) := by decide +kernel
theorem dX8_settles_43 : decode cX8_settles 43 = .ok (.iconst 0, 1) := by decide +kernel
theorem dX8_settles_44 : decode cX8_settles 44 = .ok (.aload_n 0, 1) := by decide +kernel
theorem dX8_settles_45 : decode cX8_settles 45 = .ok (.getfield 40, 3) := by decide +kernel
theorem dX8_settles_48 : decode cX8_settles 48 = .ok (.iconst 0, 1) := by decide +kernel
theorem dX8_settles_49 : decode cX8_settles 49 = .ok (.bipush 6, 2) := by decide +kernel
theorem dX8_settles_51 : decode cX8_settles 51 = .ok (.invokestatic 133, 3) := by decide +kernel
theorem dX8_settles_54 : decode cX8_settles 54 = .ok (.iconst 0, 1) := by decide +kernel
theorem dX8_settles_55 : decode cX8_settles 55 = .ok (.istore_n 1, 1) := by decide +kernel
theorem dX8_settles_56 : decode cX8_settles 56 = .ok (.iload_n 1, 1) := by decide +kernel
theorem dX8_settles_57 : decode cX8_settles 57 = .ok (.bipush 111, 2) := by decide +kernel
theorem dX8_settles_59 : decode cX8_settles 59 = .ok (.if_icmp .ge 16, 3) := by decide +kernel
theorem dX8_settles_62 : decode cX8_settles 62 = .ok (.aload_n 0, 1) := by decide +kernel
theorem dX8_settles_63 : decode cX8_settles 63 = .ok (.getfield 16, 3) := by decide +kernel
theorem dX8_settles_66 : decode cX8_settles 66 = .ok (.iload_n 1, 1) := by decide +kernel
theorem dX8_settles_67 : decode cX8_settles 67 = .ok (.iconst 0, 1) := by decide +kernel
theorem dX8_settles_68 : decode cX8_settles 68 = .ok (.iastore, 1) := by decide +kernel
theorem dX8_settles_69 : decode cX8_settles 69 = .ok (.iinc 1 1, 3) := by decide +kernel
theorem dX8_settles_72 : decode cX8_settles 72 = .ok (.goto (-16), 3) := by decide +kernel
theorem dX8_settles_75 : decode cX8_settles 75 = .ok (.aload_n 0, 1) := by decide +kernel
theorem dX8_settles_76 : decode cX8_settles 76 = .ok (.getfield 16, 3) := by decide +kernel
theorem dX8_settles_79 : decode cX8_settles 79 = .ok (.iconst 1, 1) := by decide +kernel
theorem dX8_settles_80 : decode cX8_settles 80 = .ok (.aload_n 0, 1) := by decide +kernel
theorem dX8_settles_81 : decode cX8_settles 81 = .ok (.getfield 37, 3) := by decide +kernel
theorem dX8_settles_84 : decode cX8_settles 84 = .ok (.iconst 0, 1) := by decide +kernel
theorem dX8_settles_85 : decode cX8_settles 85 = .ok (.aload_n 0, 1) := by decide +kernel
theorem dX8_settles_86 : decode cX8_settles 86 = .ok (.getfield 80, 3) := by decide +kernel
theorem dX8_settles_89 : decode cX8_settles 89 = .ok (.invokestatic 133, 3) := by decide +kernel
theorem dX8_settles_92 : decode cX8_settles 92 = .ok (.aload_n 0, 1) := by decide +kernel
theorem dX8_settles_93 : decode cX8_settles 93 = .ok (.iconst 0, 1) := by decide +kernel
theorem dX8_settles_94 : decode cX8_settles 94 = .ok (.putfield 137, 3) := by decide +kernel
theorem dX8_settles_97 : decode cX8_settles 97 = .ok (.aload_n 0, 1) := by decide +kernel
theorem dX8_settles_98 : decode cX8_settles 98 = .ok (.iconst 0, 1) := by decide +kernel
theorem dX8_settles_99 : decode cX8_settles 99 = .ok (.putfield 140, 3) := by decide +kernel
theorem dX8_settles_102 : decode cX8_settles 102 = .ok (.aload_n 0, 1) := by decide +kernel
theorem dX8_settles_103 : decode cX8_settles 103 = .ok (.iconst 0, 1) := by decide +kernel
theorem dX8_settles_104 : decode cX8_settles 104 = .ok (.putfield 143, 3) := by decide +kernel
theorem dX8_settles_107 : decode cX8_settles 107 = .ok (.return_, 1) := by decide +kernel
set_option maxRecDepth 20000 in
theorem ggX8_asItIs_X8_copies : GoodIn wsX8_asItIs wsX8_copies := goodIn_r _ [6] rfl (by decide +kernel)
set_option maxRecDepth 20000 in
theorem gX8_asItIs_X8_copies : GoodIn wsX8_asItIs (va_wsS RX8 133 yX8_copies wsX8_copies) := goodIn_app (goodIn_of _ (by decide +kernel)) ggX8_asItIs_X8_copies
