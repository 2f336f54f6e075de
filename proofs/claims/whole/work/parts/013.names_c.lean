theorem dX2_add_28 : decode cX2_add 28 = .ok (.iastore, 1) := by decide +kernel
theorem dX2_add_29 : decode cX2_add 29 = .ok (.aload_n 0, 1) := by decide +kernel
theorem dX2_add_30 : decode cX2_add 30 = .ok (.dup, 1) := by decide +kernel
theorem dX2_add_31 : decode cX2_add 31 = .ok (.getfield 18, 3) := by decide +kernel
theorem dX2_add_34 : decode cX2_add 34 = .ok (.iconst 1, 1) := by decide +kernel
theorem dX2_add_35 : decode cX2_add 35 = .ok (.iadd, 1) := by decide +kernel
theorem dX2_add_36 : decode cX2_add 36 = .ok (.putfield 18, 3) := by decide +kernel
theorem dX2_add_39 : decode cX2_add 39 = .ok (.return_, 1) := by decide +kernel
theorem dX2_repeatBatten_0 : decode cX2_repeatBatten 0 = .ok (.iconst 0, 1) := by decide +kernel
theorem dX2_repeatBatten_1 : decode cX2_repeatBatten 1 = .ok (.istore_n 1, 1) := by decide +kernel
theorem dX2_repeatBatten_2 : decode cX2_repeatBatten 2 = .ok (.iconst 0, 1) := by decide +kernel
theorem dX2_repeatBatten_3 : decode cX2_repeatBatten 3 = .ok (.istore_n 2, 1) := by decide +kernel
theorem dX2_repeatBatten_4 : decode cX2_repeatBatten 4 = .ok (.iload_n 2, 1) := by decide +kernel
theorem dX2_repeatBatten_5 : decode cX2_repeatBatten 5 = .ok (.aload_n 0, 1) := by decide +kernel
theorem dX2_repeatBatten_6 : decode cX2_repeatBatten 6 = .ok (.getfield 18, 3) := by decide +kernel
theorem dX2_repeatBatten_9 : decode cX2_repeatBatten 9 = .ok (.if_icmp .ge 30, 3) := by decide +kernel
theorem dX2_repeatBatten_12 : decode cX2_repeatBatten 12 = .ok (.iconst 1, 1) := by decide +kernel
theorem dX2_repeatBatten_13 : decode cX2_repeatBatten 13 = .ok (.aload_n 0, 1) := by decide +kernel
theorem dX2_repeatBatten_14 : decode cX2_repeatBatten 14 = .ok (.getfield 9, 3) := by decide +kernel
theorem dX2_repeatBatten_17 : decode cX2_repeatBatten 17 = .ok (.iload_n 2, 1) := by decide +kernel
theorem dX2_repeatBatten_18 : decode cX2_repeatBatten 18 = .ok (.iaload, 1) := by decide +kernel
theorem dX2_repeatBatten_19 : decode cX2_repeatBatten 19 = .ok (.ishl, 1) := by decide +kernel
theorem dX2_repeatBatten_20 : decode cX2_repeatBatten 20 = .ok (.istore_n 3, 1) := by decide +kernel
theorem dX2_repeatBatten_21 : decode cX2_repeatBatten 21 = .ok (.iload_n 1, 1) := by decide +kernel
theorem dX2_repeatBatten_22 : decode cX2_repeatBatten 22 = .ok (.iload_n 3, 1) := by decide +kernel
theorem dX2_repeatBatten_23 : decode cX2_repeatBatten 23 = .ok (.iand, 1) := by decide +kernel
theorem dX2_repeatBatten_24 : decode cX2_repeatBatten 24 = .ok (.ifCond .eq 5, 3) := by decide +kernel
theorem dX2_repeatBatten_27 : decode cX2_repeatBatten 27 = .ok (.iconst 1, 1) := by decide +kernel
theorem dX2_repeatBatten_28 : decode cX2_repeatBatten 28 = .ok (.ireturn, 1) := by decide +kernel
theorem dX2_repeatBatten_29 : decode cX2_repeatBatten 29 = .ok (.iload_n 1, 1) := by decide +kernel
theorem dX2_repeatBatten_30 : decode cX2_repeatBatten 30 = .ok (.iload_n 3, 1) := by decide +kernel
theorem dX2_repeatBatten_31 : decode cX2_repeatBatten 31 = .ok (.ior, 1) := by decide +kernel
theorem dX2_repeatBatten_32 : decode cX2_repeatBatten 32 = .ok (.istore_n 1, 1) := by decide +kernel
theorem dX2_repeatBatten_33 : decode cX2_repeatBatten 33 = .ok (.iinc 2 1, 3) := by decide +kernel
theorem dX2_repeatBatten_36 : decode cX2_repeatBatten 36 = .ok (.goto (-32), 3) := by decide +kernel
theorem dX2_repeatBatten_39 : decode cX2_repeatBatten 39 = .ok (.iconst 0, 1) := by decide +kernel
theorem dX2_repeatBatten_40 : decode cX2_repeatBatten 40 = .ok (.ireturn, 1) := by decide +kernel
set_option maxRecDepth 20000 in
theorem ggX3_init_X6_init : GoodIn wsX3_init wsX6_init := goodIn_r _ [9, 10, 2, 3, 11, 12, 13, 14, 18, 19, 20, 21, 22, 23] (by decide +kernel) (by decide +kernel)
set_option maxRecDepth 20000 in
theorem gX3_init_X6_init_n17 : GoodIn wsX3_init (wsX6_init) := ggX3_init_X6_init
theorem dX3_init_0 : decode cX3_init 0 = .ok (.aload_n 0, 1) := by decide +kernel
theorem dX3_init_1 : decode cX3_init 1 = .ok (.invokespecial 3, 3) := by decide +kernel
theorem dX3_init_4 : decode cX3_init 4 = .ok (.aload_n 0, 1) := by decide +kernel
theorem dX3_init_5 : decode cX3_init 5 = .ok (.bipush 8, 2) := by decide +kernel
theorem dX3_init_7 : decode cX3_init 7 = .ok (.anewarray 9, 3) := by decide +kernel
theorem dX3_init_10 : decode cX3_init 10 = .ok (.putfield 11, 3) := by decide +kernel
theorem dX3_init_13 : decode cX3_init 13 = .ok (.iconst 0, 1) := by decide +kernel
theorem dX3_init_14 : decode cX3_init 14 = .ok (.istore_n 1, 1) := by decide +kernel
theorem dX3_init_15 : decode cX3_init 15 = .ok (.iload_n 1, 1) := by decide +kernel
theorem dX3_init_16 : decode cX3_init 16 = .ok (.bipush 8, 2) := by decide +kernel
theorem dX3_init_18 : decode cX3_init 18 = .ok (.if_icmp .ge 22, 3) := by decide +kernel
theorem dX3_init_21 : decode cX3_init 21 = .ok (.aload_n 0, 1) := by decide +kernel
theorem dX3_init_22 : decode cX3_init 22 = .ok (.getfield 11, 3) := by decide +kernel
theorem dX3_init_25 : decode cX3_init 25 = .ok (.iload_n 1, 1) := by decide +kernel
theorem dX3_init_26 : decode cX3_init 26 = .ok (.new 9, 3) := by decide +kernel
theorem dX3_init_29 : decode cX3_init 29 = .ok (.dup, 1) := by decide +kernel
theorem dX3_init_30 : decode cX3_init 30 = .ok (.invokespecial 17, 3) := by decide +kernel
theorem dX3_init_33 : decode cX3_init 33 = .ok (.aastore, 1) := by decide +kernel
theorem dX3_init_34 : decode cX3_init 34 = .ok (.iinc 1 1, 3) := by decide +kernel
theorem dX3_init_37 : decode cX3_init 37 = .ok (.goto (-22), 3) := by decide +kernel
theorem dX3_init_40 : decode cX3_init 40 = .ok (.return_, 1) := by decide +kernel
theorem dX3_forget_0 : decode cX3_forget 0 = .ok (.aload_n 0, 1) := by decide +kernel
theorem dX3_forget_1 : decode cX3_forget 1 = .ok (.iconst 0, 1) := by decide +kernel
theorem dX3_forget_2 : decode cX3_forget 2 = .ok (.putfield 18, 3) := by decide +kernel
theorem dX3_forget_5 : decode cX3_forget 5 = .ok (.return_, 1) := by decide +kernel
set_option maxRecDepth 20000 in
theorem ggX3_remember_X6_takeMoved : GoodIn wsX3_remember wsX6_takeMoved := goodIn_r _ [12, 13, 14, 15, 16, 17, 18, 19, 20, 24, 25, 26, 27, 28, 29] (by decide +kernel) (by decide +kernel)
set_option maxRecDepth 20000 in
theorem gX3_remember_X6_takeMoved : GoodIn wsX3_remember (wsV RX3 25 RX6 yX6_takeMoved wsX6_takeMoved) := goodIn_app (goodIn_of _ (by decide +kernel)) ggX3_remember_X6_takeMoved
theorem dX3_remember_0 : decode cX3_remember 0 = .ok (.aload_n 0, 1) := by decide +kernel
theorem dX3_remember_1 : decode cX3_remember 1 = .ok (.getfield 11, 3) := by decide +kernel
theorem dX3_remember_4 : decode cX3_remember 4 = .ok (.aload_n 0, 1) := by decide +kernel
theorem dX3_remember_5 : decode cX3_remember 5 = .ok (.getfield 22, 3) := by decide +kernel
theorem dX3_remember_8 : decode cX3_remember 8 = .ok (.aaload, 1) := by decide +kernel
theorem dX3_remember_9 : decode cX3_remember 9 = .ok (.aload_n 1, 1) := by decide +kernel
theorem dX3_remember_10 : decode cX3_remember 10 = .ok (.invokevirtual 25, 3) := by decide +kernel
theorem dX3_remember_13 : decode cX3_remember 13 = .ok (.aload_n 0, 1) := by decide +kernel
theorem dX3_remember_14 : decode cX3_remember 14 = .ok (.aload_n 0, 1) := by decide +kernel
theorem dX3_remember_15 : decode cX3_remember 15 = .ok (.getfield 22, 3) := by decide +kernel
theorem dX3_remember_18 : decode cX3_remember 18 = .ok (.iconst 1, 1) := by decide +kernel
theorem dX3_remember_19 : decode cX3_remember 19 = .ok (.iadd, 1) := by decide +kernel
theorem dX3_remember_20 : decode cX3_remember 20 = .ok (.bipush 8, 2) := by decide +kernel
theorem dX3_remember_22 : decode cX3_remember 22 = .ok (.irem, 1) := by decide +kernel
theorem dX3_remember_23 : decode cX3_remember 23 = .ok (.putfield 22, 3) := by decide +kernel
theorem dX3_remember_26 : decode cX3_remember 26 = .ok (.aload_n 0, 1) := by decide +kernel
theorem dX3_remember_27 : decode cX3_remember 27 = .ok (.aload_n 0, 1) := by decide +kernel
theorem dX3_remember_28 : decode cX3_remember 28 = .ok (.getfield 18, 3) := by decide +kernel
theorem dX3_remember_31 : decode cX3_remember 31 = .ok (.iconst 1, 1) := by decide +kernel
theorem dX3_remember_32 : decode cX3_remember 32 = .ok (.iadd, 1) := by decide +kernel
theorem dX3_remember_33 : decode cX3_remember 33 = .ok (.bipush 8, 2) := by decide +kernel
theorem dX3_remember_35 : decode cX3_remember 35 = .ok (.invokestatic 29, 3) := by decide +kernel
theorem dX3_remember_38 : decode cX3_remember 38 = .ok (.putfield 18, 3) := by decide +kernel
theorem dX3_remember_41 : decode cX3_remember 41 = .ok (.return_, 1) := by decide +kernel
set_option maxRecDepth 20000 in
theorem ggX3_bringBack_X6_takeMoved : GoodIn wsX3_bringBack wsX6_takeMoved := goodIn_r _ [8, 9, 10, 11, 12, 13, 14, 15, 16, 20, 21, 22, 23, 24, 25] (by decide +kernel) (by decide +kernel)
set_option maxRecDepth 20000 in
theorem gX3_bringBack_X6_takeMoved : GoodIn wsX3_bringBack (wsV RX3 25 RX6 yX6_takeMoved wsX6_takeMoved) := goodIn_app (goodIn_of _ (by decide +kernel)) ggX3_bringBack_X6_takeMoved
theorem dX3_bringBack_0 : decode cX3_bringBack 0 = .ok (.aload_n 0, 1) := by decide +kernel
theorem dX3_bringBack_1 : decode cX3_bringBack 1 = .ok (.aload_n 0, 1) := by decide +kernel
theorem dX3_bringBack_2 : decode cX3_bringBack 2 = .ok (.getfield 22, 3) := by decide +kernel
theorem dX3_bringBack_5 : decode cX3_bringBack 5 = .ok (.bipush 8, 2) := by decide +kernel
theorem dX3_bringBack_7 : decode cX3_bringBack 7 = .ok (.iadd, 1) := by decide +kernel
theorem dX3_bringBack_8 : decode cX3_bringBack 8 = .ok (.iconst 1, 1) := by decide +kernel
theorem dX3_bringBack_9 : decode cX3_bringBack 9 = .ok (.isub, 1) := by decide +kernel
theorem dX3_bringBack_10 : decode cX3_bringBack 10 = .ok (.bipush 8, 2) := by decide +kernel
theorem dX3_bringBack_12 : decode cX3_bringBack 12 = .ok (.irem, 1) := by decide +kernel
theorem dX3_bringBack_13 : decode cX3_bringBack 13 = .ok (.putfield 22, 3) := by decide +kernel
theorem dX3_bringBack_16 : decode cX3_bringBack 16 = .ok (.aload_n 0, 1) := by decide +kernel
theorem dX3_bringBack_17 : decode cX3_bringBack 17 = .ok (.dup, 1) := by decide +kernel
theorem dX3_bringBack_18 : decode cX3_bringBack 18 = .ok (.getfield 18, 3) := by decide +kernel
theorem dX3_bringBack_21 : decode cX3_bringBack 21 = .ok (.iconst 1, 1) := by decide +kernel
theorem dX3_bringBack_22 : decode cX3_bringBack 22 = .ok (.isub, 1) := by decide +kernel
theorem dX3_bringBack_23 : decode cX3_bringBack 23 = .ok (.putfield 18, 3) := by decide +kernel
theorem dX3_bringBack_26 : decode cX3_bringBack 26 = .ok (.aload_n 1, 1) := by decide +kernel
theorem dX3_bringBack_27 : decode cX3_bringBack 27 = .ok (.aload_n 0, 1) := by decide +kernel
theorem dX3_bringBack_28 : decode cX3_bringBack 28 = .ok (.getfield 11, 3) := by decide +kernel
theorem dX3_bringBack_31 : decode cX3_bringBack 31 = .ok (.aload_n 0, 1) := by decide +kernel
theorem dX3_bringBack_32 : decode cX3_bringBack 32 = .ok (.getfield 22, 3) := by decide +kernel
theorem dX3_bringBack_35 : decode cX3_bringBack 35 = .ok (.aaload, 1) := by decide +kernel
theorem dX3_bringBack_36 : decode cX3_bringBack 36 = .ok (.invokevirtual 25, 3) := by decide +kernel
theorem dX3_bringBack_39 : decode cX3_bringBack 39 = .ok (.return_, 1) := by decide +kernel
theorem dX4_init_0 : decode cX4_init 0 = .ok (.aload_n 0, 1) := by decide +kernel
theorem dX4_init_1 : decode cX4_init 1 = .ok (.invokespecial 3, 3) := by decide +kernel
theorem dX4_init_4 : decode cX4_init 4 = .ok (.aload_n 0, 1) := by decide +kernel
theorem dX4_init_5 : decode cX4_init 5 = .ok (.bipush 24, 2) := by decide +kernel
theorem dX4_init_7 : decode cX4_init 7 = .ok (.newarray .int, 2) := by decide +kernel
theorem dX4_init_9 : decode cX4_init 9 = .ok (.putfield 11, 3) := by decide +kernel
theorem dX4_init_12 : decode cX4_init 12 = .ok (.aload_n 0, 1) := by decide +kernel
theorem dX4_init_13 : decode cX4_init 13 = .ok (.bipush 24, 2) := by decide +kernel
theorem dX4_init_15 : decode cX4_init 15 = .ok (.newarray .int, 2) := by decide +kernel
theorem dX4_init_17 : decode cX4_init 17 = .ok (.putfield 15, 3) := by decide +kernel
theorem dX4_init_20 : decode cX4_init 20 = .ok (.aload_n 0, 1) := by decide +kernel
theorem dX4_init_21 : decode cX4_init 21 = .ok (.bipush 90, 2) := by decide +kernel
theorem dX4_init_23 : decode cX4_init 23 = .ok (.newarray .int, 2) := by decide +kernel
theorem dX4_init_25 : decode cX4_init 25 = .ok (.putfield 18, 3) := by decide +kernel
theorem dX4_init_28 : decode cX4_init 28 = .ok (.aload_n 0, 1) := by decide +kernel
theorem dX4_init_29 : decode cX4_init 29 = .ok (.bipush 8, 2) := by decide +kernel
theorem dX4_init_31 : decode cX4_init 31 = .ok (.newarray .int, 2) := by decide +kernel
theorem dX4_init_33 : decode cX4_init 33 = .ok (.putfield 21, 3) := by decide +kernel
theorem dX4_init_36 : decode cX4_init 36 = .ok (.return_, 1) := by decide +kernel
set_option maxRecDepth 20000 in
theorem ggX4_find_X4_setTried : GoodIn wsX4_find wsX4_setTried := goodIn_r _ [12, 3, 13, 14, 15, 16, 17, 18, 19, 5, 20, 21, 22, 23, 24, 25, 26, 27, 28, 29, 30, 31, 32, 33, 34, 35, 36, 65, 66, 67, 68, 69, 70, 71, 72, 73, 74, 59, 60, 61, 62, 63, 64] (by decide +kernel) (by decide +kernel)
set_option maxRecDepth 20000 in
theorem gX4_find_X4_setTried : GoodIn wsX4_find (wsV RX4 30 RX4 yX4_setTried wsX4_setTried) := goodIn_app (goodIn_of _ (by decide +kernel)) ggX4_find_X4_setTried
set_option maxRecDepth 20000 in
theorem ggX4_find_X4_leastFrom : GoodIn wsX4_find wsX4_leastFrom := goodIn_r _ [40, 5, 41, 42, 17, 43, 44, 45, 46, 11, 47, 14, 1, 20, 48, 49, 50, 24, 51, 52, 53, 35, 36, 59, 60, 61, 62, 63, 64, 65, 66, 67, 68] (by decide +kernel) (by decide +kernel)
set_option maxRecDepth 20000 in
theorem gX4_find_X4_leastFrom : GoodIn wsX4_find (wsV RX4 34 RX4 yX4_leastFrom wsX4_leastFrom) := goodIn_app (goodIn_of _ (by decide +kernel)) ggX4_find_X4_leastFrom
set_option maxRecDepth 20000 in
theorem ggX4_find_X4_choose : GoodIn wsX4_find wsX4_choose := goodIn_r _ [57, 3, 4, 2, 1, 58, 14, 41, 42, 17, 43, 44, 45, 46, 11, 47, 5, 20, 48, 49, 50, 24, 51, 52, 53, 35, 36, 65, 66, 67, 68, 69, 70, 71, 72, 73, 74, 59, 60, 61, 62, 63, 64] (by decide +kernel) (by decide +kernel)
set_option maxRecDepth 20000 in
theorem gX4_find_X4_choose : GoodIn wsX4_find (wsV RX4 54 RX4 yX4_choose wsX4_choose) := goodIn_app (goodIn_of _ (by decide +kernel)) ggX4_find_X4_choose
theorem dX4_find_0 : decode cX4_find 0 = .ok (.iconst 0, 1) := by decide +kernel
theorem dX4_find_1 : decode cX4_find 1 = .ok (.istore_n 3, 1) := by decide +kernel
theorem dX4_find_2 : decode cX4_find 2 = .ok (.iload_n 3, 1) := by decide +kernel
theorem dX4_find_3 : decode cX4_find 3 = .ok (.bipush 10, 2) := by decide +kernel
theorem dX4_find_5 : decode cX4_find 5 = .ok (.if_icmp .ge 24, 3) := by decide +kernel
theorem dX4_find_8 : decode cX4_find 8 = .ok (.aload_n 0, 1) := by decide +kernel
theorem dX4_find_9 : decode cX4_find 9 = .ok (.getfield 18, 3) := by decide +kernel
theorem dX4_find_12 : decode cX4_find 12 = .ok (.aload_n 1, 1) := by decide +kernel
theorem dX4_find_13 : decode cX4_find 13 = .ok (.getfield 24, 3) := by decide +kernel
theorem dX4_find_16 : decode cX4_find 16 = .ok (.bipush 10, 2) := by decide +kernel
theorem dX4_find_18 : decode cX4_find 18 = .ok (.imul, 1) := by decide +kernel
theorem dX4_find_19 : decode cX4_find 19 = .ok (.iload_n 3, 1) := by decide +kernel
theorem dX4_find_20 : decode cX4_find 20 = .ok (.iadd, 1) := by decide +kernel
theorem dX4_find_21 : decode cX4_find 21 = .ok (.iconst 0, 1) := by decide +kernel
theorem dX4_find_22 : decode cX4_find 22 = .ok (.iastore, 1) := by decide +kernel
theorem dX4_find_23 : decode cX4_find 23 = .ok (.iinc 3 1, 3) := by decide +kernel
theorem dX4_find_26 : decode cX4_find 26 = .ok (.goto (-24), 3) := by decide +kernel
theorem dX4_find_29 : decode cX4_find 29 = .ok (.aload_n 1, 1) := by decide +kernel
theorem dX4_find_30 : decode cX4_find 30 = .ok (.getfield 24, 3) := by decide +kernel
theorem dX4_find_33 : decode cX4_find 33 = .ok (.iconst 1, 1) := by decide +kernel
theorem dX4_find_34 : decode cX4_find 34 = .ok (.isub, 1) := by decide +kernel
theorem dX4_find_35 : decode cX4_find 35 = .ok (.istore_n 3, 1) := by decide +kernel
theorem dX4_find_36 : decode cX4_find 36 = .ok (.iload_n 3, 1) := by decide +kernel
theorem dX4_find_37 : decode cX4_find 37 = .ok (.ifCond .lt 52, 3) := by decide +kernel
theorem dX4_find_40 : decode cX4_find 40 = .ok (.aload_n 0, 1) := by decide +kernel
theorem dX4_find_41 : decode cX4_find 41 = .ok (.aload_n 1, 1) := by decide +kernel
theorem dX4_find_42 : decode cX4_find 42 = .ok (.iload_n 3, 1) := by decide +kernel
theorem dX4_find_43 : decode cX4_find 43 = .ok (.invokevirtual 30, 3) := by decide +kernel
theorem dX4_find_46 : decode cX4_find 46 = .ok (.iconst 0, 1) := by decide +kernel
theorem dX4_find_47 : decode cX4_find 47 = .ok (.istore 4, 2) := by decide +kernel
theorem dX4_find_49 : decode cX4_find 49 = .ok (.iload 4, 2) := by decide +kernel
theorem dX4_find_51 : decode cX4_find 51 = .ok (.bipush 10, 2) := by decide +kernel
theorem dX4_find_53 : decode cX4_find 53 = .ok (.if_icmp .ge 30, 3) := by decide +kernel
theorem dX4_find_56 : decode cX4_find 56 = .ok (.aload_n 0, 1) := by decide +kernel
theorem dX4_find_57 : decode cX4_find 57 = .ok (.getfield 18, 3) := by decide +kernel
theorem dX4_find_60 : decode cX4_find 60 = .ok (.iload_n 3, 1) := by decide +kernel
theorem dX4_find_61 : decode cX4_find 61 = .ok (.bipush 10, 2) := by decide +kernel
theorem dX4_find_63 : decode cX4_find 63 = .ok (.imul, 1) := by decide +kernel
theorem dX4_find_64 : decode cX4_find 64 = .ok (.iload 4, 2) := by decide +kernel
theorem dX4_find_66 : decode cX4_find 66 = .ok (.iadd, 1) := by decide +kernel
theorem dX4_find_67 : decode cX4_find 67 = .ok (.aload_n 0, 1) := by decide +kernel
theorem dX4_find_68 : decode cX4_find 68 = .ok (.aload_n 1, 1) := by decide +kernel
theorem dX4_find_69 : decode cX4_find 69 = .ok (.iload_n 2, 1) := by decide +kernel
theorem dX4_find_70 : decode cX4_find 70 = .ok (.iload_n 3, 1) := by decide +kernel
theorem dX4_find_71 : decode cX4_find 71 = .ok (.iload 4, 2) := by decide +kernel
theorem dX4_find_73 : decode cX4_find 73 = .ok (.invokevirtual 34, 3) := by decide +kernel
theorem dX4_find_76 : decode cX4_find 76 = .ok (.iastore, 1) := by decide +kernel
theorem dX4_find_77 : decode cX4_find 77 = .ok (.iinc 4 1, 3) := by decide +kernel
theorem dX4_find_80 : decode cX4_find 80 = .ok (.goto (-31), 3) := by decide +kernel
theorem dX4_find_83 : decode cX4_find 83 = .ok (.iinc 3 (-1), 3) := by decide +kernel
theorem dX4_find_86 : decode cX4_find 86 = .ok (.goto (-50), 3) := by decide +kernel
theorem dX4_find_89 : decode cX4_find 89 = .ok (.aload_n 0, 1) := by decide +kernel
theorem dX4_find_90 : decode cX4_find 90 = .ok (.getfield 18, 3) := by decide +kernel
theorem dX4_find_93 : decode cX4_find 93 = .ok (.aload_n 1, 1) := by decide +kernel
theorem dX4_find_94 : decode cX4_find 94 = .ok (.getfield 38, 3) := by decide +kernel
theorem dX4_find_97 : decode cX4_find 97 = .ok (.getfield 42, 3) := by decide +kernel
theorem dX4_find_100 : decode cX4_find 100 = .ok (.iaload, 1) := by decide +kernel
theorem dX4_find_101 : decode cX4_find 101 = .ok (.istore_n 3, 1) := by decide +kernel
theorem dX4_find_102 : decode cX4_find 102 = .ok (.iload_n 3, 1) := by decide +kernel
theorem dX4_find_103 : decode cX4_find 103 = .ok (.ldc 47, 2) := by decide +kernel
theorem dX4_find_105 : decode cX4_find 105 = .ok (.if_icmp .lt 5, 3) := by decide +kernel
theorem dX4_find_108 : decode cX4_find 108 = .ok (.iconst 0, 1) := by decide +kernel
theorem dX4_find_109 : decode cX4_find 109 = .ok (.ireturn, 1) := by decide +kernel
theorem dX4_find_110 : decode cX4_find 110 = .ok (.aload_n 0, 1) := by decide +kernel
theorem dX4_find_111 : decode cX4_find 111 = .ok (.iload_n 3, 1) := by decide +kernel
theorem dX4_find_112 : decode cX4_find 112 = .ok (.sipush 1000, 3) := by decide +kernel
theorem dX4_find_115 : decode cX4_find 115 = .ok (.idiv, 1) := by decide +kernel
theorem dX4_find_116 : decode cX4_find 116 = .ok (.putfield 48, 3) := by decide +kernel
theorem dX4_find_119 : decode cX4_find 119 = .ok (.aload_n 0, 1) := by decide +kernel
theorem dX4_find_120 : decode cX4_find 120 = .ok (.iload_n 3, 1) := by decide +kernel
theorem dX4_find_121 : decode cX4_find 121 = .ok (.sipush 1000, 3) := by decide +kernel
theorem dX4_find_124 : decode cX4_find 124 = .ok (.irem, 1) := by decide +kernel
theorem dX4_find_125 : decode cX4_find 125 = .ok (.putfield 51, 3) := by decide +kernel
theorem dX4_find_128 : decode cX4_find 128 = .ok (.aload_n 0, 1) := by decide +kernel
theorem dX4_find_129 : decode cX4_find 129 = .ok (.aload_n 1, 1) := by decide +kernel
theorem dX4_find_130 : decode cX4_find 130 = .ok (.iload_n 2, 1) := by decide +kernel
theorem dX4_find_131 : decode cX4_find 131 = .ok (.invokevirtual 54, 3) := by decide +kernel
theorem dX4_find_134 : decode cX4_find 134 = .ok (.iconst 1, 1) := by decide +kernel
theorem dX4_find_135 : decode cX4_find 135 = .ok (.ireturn, 1) := by decide +kernel
set_option maxRecDepth 20000 in
theorem ggX4_setTried_X1_pull : GoodIn wsX4_setTried wsX1_pull := goodIn_r _ [15, 16, 17, 18, 19, 20, 21, 22, 23, 5, 6, 7, 24, 25, 26, 27, 28, 29, 30, 31, 32, 33, 34, 35, 36] (by decide +kernel) (by decide +kernel)
set_option maxRecDepth 20000 in
theorem gX4_setTried_X1_pull : GoodIn wsX4_setTried (wsV RX4 58 RX1 yX1_pull wsX1_pull) := goodIn_app (goodIn_of _ (by decide +kernel)) ggX4_setTried_X1_pull
theorem dX4_setTried_0 : decode cX4_setTried 0 = .ok (.aload_n 1, 1) := by decide +kernel
theorem dX4_setTried_1 : decode cX4_setTried 1 = .ok (.getfield 38, 3) := by decide +kernel
theorem dX4_setTried_4 : decode cX4_setTried 4 = .ok (.getfield 57, 3) := by decide +kernel
theorem dX4_setTried_7 : decode cX4_setTried 7 = .ok (.iload_n 2, 1) := by decide +kernel
theorem dX4_setTried_8 : decode cX4_setTried 8 = .ok (.iaload, 1) := by decide +kernel
theorem dX4_setTried_9 : decode cX4_setTried 9 = .ok (.istore_n 3, 1) := by decide +kernel
theorem dX4_setTried_10 : decode cX4_setTried 10 = .ok (.aload_n 1, 1) := by decide +kernel
theorem dX4_setTried_11 : decode cX4_setTried 11 = .ok (.iload_n 2, 1) := by decide +kernel
theorem dX4_setTried_12 : decode cX4_setTried 12 = .ok (.invokevirtual 58, 3) := by decide +kernel
theorem dX4_setTried_15 : decode cX4_setTried 15 = .ok (.istore 4, 2) := by decide +kernel
theorem dX4_setTried_17 : decode cX4_setTried 17 = .ok (.aload_n 0, 1) := by decide +kernel
theorem dX4_setTried_18 : decode cX4_setTried 18 = .ok (.getfield 11, 3) := by decide +kernel
theorem dX4_setTried_21 : decode cX4_setTried 21 = .ok (.iload_n 2, 1) := by decide +kernel
theorem dX4_setTried_22 : decode cX4_setTried 22 = .ok (.iconst 3, 1) := by decide +kernel
theorem dX4_setTried_23 : decode cX4_setTried 23 = .ok (.imul, 1) := by decide +kernel
theorem dX4_setTried_24 : decode cX4_setTried 24 = .ok (.iconst 0, 1) := by decide +kernel
theorem dX4_setTried_25 : decode cX4_setTried 25 = .ok (.iastore, 1) := by decide +kernel
theorem dX4_setTried_26 : decode cX4_setTried 26 = .ok (.aload_n 0, 1) := by decide +kernel
theorem dX4_setTried_27 : decode cX4_setTried 27 = .ok (.getfield 11, 3) := by decide +kernel
theorem dX4_setTried_30 : decode cX4_setTried 30 = .ok (.iload_n 2, 1) := by decide +kernel
theorem dX4_setTried_31 : decode cX4_setTried 31 = .ok (.iconst 3, 1) := by decide +kernel
theorem dX4_setTried_32 : decode cX4_setTried 32 = .ok (.imul, 1) := by decide +kernel
theorem dX4_setTried_33 : decode cX4_setTried 33 = .ok (.iconst 1, 1) := by decide +kernel
theorem dX4_setTried_34 : decode cX4_setTried 34 = .ok (.iadd, 1) := by decide +kernel
theorem dX4_setTried_35 : decode cX4_setTried 35 = .ok (.iload_n 3, 1) := by decide +kernel
theorem dX4_setTried_36 : decode cX4_setTried 36 = .ok (.iastore, 1) := by decide +kernel
theorem dX4_setTried_37 : decode cX4_setTried 37 = .ok (.aload_n 0, 1) := by decide +kernel
theorem dX4_setTried_38 : decode cX4_setTried 38 = .ok (.getfield 11, 3) := by decide +kernel
theorem dX4_setTried_41 : decode cX4_setTried 41 = .ok (.iload_n 2, 1) := by decide +kernel
theorem dX4_setTried_42 : decode cX4_setTried 42 = .ok (.iconst 3, 1) := by decide +kernel
theorem dX4_setTried_43 : decode cX4_setTried 43 = .ok (.imul, 1) := by decide +kernel
theorem dX4_setTried_44 : decode cX4_setTried 44 = .ok (.iconst 2, 1) := by decide +kernel
theorem dX4_setTried_45 : decode cX4_setTried 45 = .ok (.iadd, 1) := by decide +kernel
theorem dX4_setTried_46 : decode cX4_setTried 46 = .ok (.bipush 9, 2) := by decide +kernel
theorem dX4_setTried_48 : decode cX4_setTried 48 = .ok (.iastore, 1) := by decide +kernel
theorem dX4_setTried_49 : decode cX4_setTried 49 = .ok (.iload_n 2, 1) := by decide +kernel
theorem dX4_setTried_50 : decode cX4_setTried 50 = .ok (.iconst 3, 1) := by decide +kernel
theorem dX4_setTried_51 : decode cX4_setTried 51 = .ok (.imul, 1) := by decide +kernel
theorem dX4_setTried_52 : decode cX4_setTried 52 = .ok (.istore 5, 2) := by decide +kernel
theorem dX4_setTried_54 : decode cX4_setTried 54 = .ok (.iload 5, 2) := by decide +kernel
theorem dX4_setTried_56 : decode cX4_setTried 56 = .ok (.iload_n 2, 1) := by decide +kernel
theorem dX4_setTried_57 : decode cX4_setTried 57 = .ok (.iconst 1, 1) := by decide +kernel
theorem dX4_setTried_58 : decode cX4_setTried 58 = .ok (.iadd, 1) := by decide +kernel
theorem dX4_setTried_59 : decode cX4_setTried 59 = .ok (.iconst 3, 1) := by decide +kernel
theorem dX4_setTried_60 : decode cX4_setTried 60 = .ok (.imul, 1) := by decide +kernel
theorem dX4_setTried_61 : decode cX4_setTried 61 = .ok (.if_icmp .ge 69, 3) := by decide +kernel
theorem dX4_setTried_64 : decode cX4_setTried 64 = .ok (.aload_n 0, 1) := by decide +kernel
theorem dX4_setTried_65 : decode cX4_setTried 65 = .ok (.getfield 11, 3) := by decide +kernel
theorem dX4_setTried_68 : decode cX4_setTried 68 = .ok (.iload 5, 2) := by decide +kernel
theorem dX4_setTried_70 : decode cX4_setTried 70 = .ok (.iaload, 1) := by decide +kernel
theorem dX4_setTried_71 : decode cX4_setTried 71 = .ok (.iload_n 3, 1) := by decide +kernel
theorem dX4_setTried_72 : decode cX4_setTried 72 = .ok (.isub, 1) := by decide +kernel
theorem dX4_setTried_73 : decode cX4_setTried 73 = .ok (.invokestatic 62, 3) := by decide +kernel
theorem dX4_setTried_76 : decode cX4_setTried 76 = .ok (.istore 6, 2) := by decide +kernel
theorem dX4_setTried_78 : decode cX4_setTried 78 = .ok (.iload 4, 2) := by decide +kernel
theorem dX4_setTried_80 : decode cX4_setTried 80 = .ok (.aload_n 1, 1) := by decide +kernel
theorem dX4_setTried_81 : decode cX4_setTried 81 = .ok (.getfield 38, 3) := by decide +kernel
theorem dX4_setTried_84 : decode cX4_setTried 84 = .ok (.getfield 67, 3) := by decide +kernel
theorem dX4_setTried_87 : decode cX4_setTried 87 = .ok (.if_icmp .le 8, 3) := by decide +kernel
theorem dX4_setTried_90 : decode cX4_setTried 90 = .ok (.ldc 47, 2) := by decide +kernel
theorem dX4_setTried_92 : decode cX4_setTried 92 = .ok (.goto 12, 3) := by decide +kernel
theorem dX4_setTried_95 : decode cX4_setTried 95 = .ok (.sipush 1000, 3) := by decide +kernel
theorem dX4_setTried_98 : decode cX4_setTried 98 = .ok (.iload 4, 2) := by decide +kernel
theorem dX4_setTried_100 : decode cX4_setTried 100 = .ok (.iload 6, 2) := by decide +kernel
theorem dX4_setTried_102 : decode cX4_setTried 102 = .ok (.imul, 1) := by decide +kernel
theorem dX4_setTried_103 : decode cX4_setTried 103 = .ok (.iadd, 1) := by decide +kernel
theorem dX4_setTried_104 : decode cX4_setTried 104 = .ok (.istore 7, 2) := by decide +kernel
theorem dX4_setTried_106 : decode cX4_setTried 106 = .ok (.aload_n 0, 1) := by decide +kernel
theorem dX4_setTried_107 : decode cX4_setTried 107 = .ok (.getfield 15, 3) := by decide +kernel
theorem dX4_setTried_110 : decode cX4_setTried 110 = .ok (.iload 5, 2) := by decide +kernel
theorem dX4_setTried_112 : decode cX4_setTried 112 = .ok (.iload 6, 2) := by decide +kernel
theorem dX4_setTried_114 : decode cX4_setTried 114 = .ok (.ifCond .ne 7, 3) := by decide +kernel
theorem dX4_setTried_117 : decode cX4_setTried 117 = .ok (.iconst 0, 1) := by decide +kernel
theorem dX4_setTried_118 : decode cX4_setTried 118 = .ok (.goto 5, 3) := by decide +kernel
theorem dX4_setTried_121 : decode cX4_setTried 121 = .ok (.iload 7, 2) := by decide +kernel
theorem dX4_setTried_123 : decode cX4_setTried 123 = .ok (.iastore, 1) := by decide +kernel
theorem dX4_setTried_124 : decode cX4_setTried 124 = .ok (.iinc 5 1, 3) := by decide +kernel
theorem dX4_setTried_127 : decode cX4_setTried 127 = .ok (.goto (-73), 3) := by decide +kernel
theorem dX4_setTried_130 : decode cX4_setTried 130 = .ok (.return_, 1) := by decide +kernel
set_option maxRecDepth 20000 in
theorem ggX4_leastFrom_X4_costFrom : GoodIn wsX4_leastFrom wsX4_costFrom := goodIn_r _ [10, 11, 1, 12, 2, 3, 4, 5, 13, 14, 15, 16, 17, 18, 19, 20, 21, 22, 23, 24, 25, 26, 27, 28, 29, 30, 31, 32] (by decide +kernel) (by decide +kernel)
set_option maxRecDepth 20000 in
theorem gX4_leastFrom_X4_costFrom : GoodIn wsX4_leastFrom (wsV RX4 70 RX4 yX4_costFrom wsX4_costFrom) := goodIn_app (goodIn_of _ (by decide +kernel)) ggX4_leastFrom_X4_costFrom
theorem dX4_leastFrom_0 : decode cX4_leastFrom 0 = .ok (.ldc 47, 2) := by decide +kernel
theorem dX4_leastFrom_2 : decode cX4_leastFrom 2 = .ok (.istore 5, 2) := by decide +kernel
theorem dX4_leastFrom_4 : decode cX4_leastFrom 4 = .ok (.iconst 0, 1) := by decide +kernel
theorem dX4_leastFrom_5 : decode cX4_leastFrom 5 = .ok (.istore 6, 2) := by decide +kernel
theorem dX4_leastFrom_7 : decode cX4_leastFrom 7 = .ok (.iload 6, 2) := by decide +kernel
theorem dX4_leastFrom_9 : decode cX4_leastFrom 9 = .ok (.iconst 3, 1) := by decide +kernel
theorem dX4_leastFrom_10 : decode cX4_leastFrom 10 = .ok (.if_icmp .ge 27, 3) := by decide +kernel
theorem dX4_leastFrom_13 : decode cX4_leastFrom 13 = .ok (.iload 5, 2) := by decide +kernel
theorem dX4_leastFrom_15 : decode cX4_leastFrom 15 = .ok (.aload_n 0, 1) := by decide +kernel
theorem dX4_leastFrom_16 : decode cX4_leastFrom 16 = .ok (.aload_n 1, 1) := by decide +kernel
theorem dX4_leastFrom_17 : decode cX4_leastFrom 17 = .ok (.iload_n 2, 1) := by decide +kernel
theorem dX4_leastFrom_18 : decode cX4_leastFrom 18 = .ok (.iload_n 3, 1) := by decide +kernel
theorem dX4_leastFrom_19 : decode cX4_leastFrom 19 = .ok (.iload 4, 2) := by decide +kernel
theorem dX4_leastFrom_21 : decode cX4_leastFrom 21 = .ok (.iload 6, 2) := by decide +kernel
theorem dX4_leastFrom_23 : decode cX4_leastFrom 23 = .ok (.invokevirtual 70, 3) := by decide +kernel
theorem dX4_leastFrom_26 : decode cX4_leastFrom 26 = .ok (.invokestatic 74, 3) := by decide +kernel
theorem dX4_leastFrom_29 : decode cX4_leastFrom 29 = .ok (.istore 5, 2) := by decide +kernel
theorem dX4_leastFrom_31 : decode cX4_leastFrom 31 = .ok (.iinc 6 1, 3) := by decide +kernel
theorem dX4_leastFrom_34 : decode cX4_leastFrom 34 = .ok (.goto (-27), 3) := by decide +kernel
theorem dX4_leastFrom_37 : decode cX4_leastFrom 37 = .ok (.iload 5, 2) := by decide +kernel
theorem dX4_leastFrom_39 : decode cX4_leastFrom 39 = .ok (.ireturn, 1) := by decide +kernel
set_option maxRecDepth 20000 in
theorem ggX4_costFrom_X1_edge : GoodIn wsX4_costFrom wsX1_edge := goodIn_r _ [13, 14, 15, 16, 6, 17, 24, 25, 26, 27] (by decide +kernel) (by decide +kernel)
set_option maxRecDepth 20000 in
theorem gX4_costFrom_X1_edge : GoodIn wsX4_costFrom (wsV RX4 78 RX1 yX1_edge wsX1_edge) := goodIn_app (goodIn_of _ (by decide +kernel)) ggX4_costFrom_X1_edge
theorem dX4_costFrom_0 : decode cX4_costFrom 0 = .ok (.aload_n 1, 1) := by decide +kernel
theorem dX4_costFrom_1 : decode cX4_costFrom 1 = .ok (.iload_n 3, 1) := by decide +kernel
theorem dX4_costFrom_2 : decode cX4_costFrom 2 = .ok (.aload_n 0, 1) := by decide +kernel
theorem dX4_costFrom_3 : decode cX4_costFrom 3 = .ok (.getfield 11, 3) := by decide +kernel
theorem dX4_costFrom_6 : decode cX4_costFrom 6 = .ok (.iload_n 3, 1) := by decide +kernel
theorem dX4_costFrom_7 : decode cX4_costFrom 7 = .ok (.iconst 3, 1) := by decide +kernel
theorem dX4_costFrom_8 : decode cX4_costFrom 8 = .ok (.imul, 1) := by decide +kernel
theorem dX4_costFrom_9 : decode cX4_costFrom 9 = .ok (.iload 5, 2) := by decide +kernel
theorem dX4_costFrom_11 : decode cX4_costFrom 11 = .ok (.iadd, 1) := by decide +kernel
theorem dX4_costFrom_12 : decode cX4_costFrom 12 = .ok (.iaload, 1) := by decide +kernel
theorem dX4_costFrom_13 : decode cX4_costFrom 13 = .ok (.invokevirtual 78, 3) := by decide +kernel
theorem dX4_costFrom_16 : decode cX4_costFrom 16 = .ok (.istore 6, 2) := by decide +kernel
theorem dX4_costFrom_18 : decode cX4_costFrom 18 = .ok (.iload_n 2, 1) := by decide +kernel
theorem dX4_costFrom_19 : decode cX4_costFrom 19 = .ok (.iload_n 3, 1) := by decide +kernel
theorem dX4_costFrom_20 : decode cX4_costFrom 20 = .ok (.ishr, 1) := by decide +kernel
theorem dX4_costFrom_21 : decode cX4_costFrom 21 = .ok (.iconst 1, 1) := by decide +kernel
theorem dX4_costFrom_22 : decode cX4_costFrom 22 = .ok (.iand, 1) := by decide +kernel
theorem dX4_costFrom_23 : decode cX4_costFrom 23 = .ok (.iconst 1, 1) := by decide +kernel
theorem dX4_costFrom_24 : decode cX4_costFrom 24 = .ok (.if_icmp .ne 7, 3) := by decide +kernel
theorem dX4_costFrom_27 : decode cX4_costFrom 27 = .ok (.iconst 1, 1) := by decide +kernel
theorem dX4_costFrom_28 : decode cX4_costFrom 28 = .ok (.goto 4, 3) := by decide +kernel
theorem dX4_costFrom_31 : decode cX4_costFrom 31 = .ok (.iconst 0, 1) := by decide +kernel
theorem dX4_costFrom_32 : decode cX4_costFrom 32 = .ok (.istore 7, 2) := by decide +kernel
theorem dX4_costFrom_34 : decode cX4_costFrom 34 = .ok (.iload 6, 2) := by decide +kernel
theorem dX4_costFrom_36 : decode cX4_costFrom 36 = .ok (.iload 4, 2) := by decide +kernel
theorem dX4_costFrom_38 : decode cX4_costFrom 38 = .ok (.if_icmp .ge 7, 3) := by decide +kernel
theorem dX4_costFrom_41 : decode cX4_costFrom 41 = .ok (.iconst 1, 1) := by decide +kernel
theorem dX4_costFrom_42 : decode cX4_costFrom 42 = .ok (.goto 4, 3) := by decide +kernel
theorem dX4_costFrom_45 : decode cX4_costFrom 45 = .ok (.iconst 0, 1) := by decide +kernel
theorem dX4_costFrom_46 : decode cX4_costFrom 46 = .ok (.iload 7, 2) := by decide +kernel
theorem dX4_costFrom_48 : decode cX4_costFrom 48 = .ok (.if_icmp .eq 6, 3) := by decide +kernel
theorem dX4_costFrom_51 : decode cX4_costFrom 51 = .ok (.ldc 47, 2) := by decide +kernel
theorem dX4_costFrom_53 : decode cX4_costFrom 53 = .ok (.ireturn, 1) := by decide +kernel
theorem dX4_costFrom_54 : decode cX4_costFrom 54 = .ok (.aload_n 0, 1) := by decide +kernel
theorem dX4_costFrom_55 : decode cX4_costFrom 55 = .ok (.getfield 18, 3) := by decide +kernel
theorem dX4_costFrom_58 : decode cX4_costFrom 58 = .ok (.iload_n 3, 1) := by decide +kernel
theorem dX4_costFrom_59 : decode cX4_costFrom 59 = .ok (.iconst 1, 1) := by decide +kernel
theorem dX4_costFrom_60 : decode cX4_costFrom 60 = .ok (.iadd, 1) := by decide +kernel
theorem dX4_costFrom_61 : decode cX4_costFrom 61 = .ok (.bipush 10, 2) := by decide +kernel
theorem dX4_costFrom_63 : decode cX4_costFrom 63 = .ok (.imul, 1) := by decide +kernel
theorem dX4_costFrom_64 : decode cX4_costFrom 64 = .ok (.iload 4, 2) := by decide +kernel
theorem dX4_costFrom_66 : decode cX4_costFrom 66 = .ok (.iload 6, 2) := by decide +kernel
theorem dX4_costFrom_68 : decode cX4_costFrom 68 = .ok (.invokestatic 74, 3) := by decide +kernel
theorem dX4_costFrom_71 : decode cX4_costFrom 71 = .ok (.iadd, 1) := by decide +kernel
theorem dX4_costFrom_72 : decode cX4_costFrom 72 = .ok (.iaload, 1) := by decide +kernel
theorem dX4_costFrom_73 : decode cX4_costFrom 73 = .ok (.istore 8, 2) := by decide +kernel
theorem dX4_costFrom_75 : decode cX4_costFrom 75 = .ok (.ldc 47, 2) := by decide +kernel
theorem dX4_costFrom_77 : decode cX4_costFrom 77 = .ok (.aload_n 0, 1) := by decide +kernel
theorem dX4_costFrom_78 : decode cX4_costFrom 78 = .ok (.getfield 15, 3) := by decide +kernel
theorem dX4_costFrom_81 : decode cX4_costFrom 81 = .ok (.iload_n 3, 1) := by decide +kernel
theorem dX4_costFrom_82 : decode cX4_costFrom 82 = .ok (.iconst 3, 1) := by decide +kernel
theorem dX4_costFrom_83 : decode cX4_costFrom 83 = .ok (.imul, 1) := by decide +kernel
theorem dX4_costFrom_84 : decode cX4_costFrom 84 = .ok (.iload 5, 2) := by decide +kernel
theorem dX4_costFrom_86 : decode cX4_costFrom 86 = .ok (.iadd, 1) := by decide +kernel
theorem dX4_costFrom_87 : decode cX4_costFrom 87 = .ok (.iaload, 1) := by decide +kernel
theorem dX4_costFrom_88 : decode cX4_costFrom 88 = .ok (.iload 8, 2) := by decide +kernel
theorem dX4_costFrom_90 : decode cX4_costFrom 90 = .ok (.iadd, 1) := by decide +kernel
theorem dX4_costFrom_91 : decode cX4_costFrom 91 = .ok (.invokestatic 74, 3) := by decide +kernel
theorem dX4_costFrom_94 : decode cX4_costFrom 94 = .ok (.ireturn, 1) := by decide +kernel
set_option maxRecDepth 20000 in
theorem ggX4_choose_X4_costFrom : GoodIn wsX4_choose wsX4_costFrom := goodIn_r _ [15, 6, 16, 4, 7, 8, 9, 10, 17, 18, 19, 20, 21, 22, 23, 24, 25, 26, 37, 38, 39, 40, 41, 42, 27, 28, 29, 30] (by decide +kernel) (by decide +kernel)
set_option maxRecDepth 20000 in
theorem gX4_choose_X4_costFrom : GoodIn wsX4_choose (wsV RX4 70 RX4 yX4_costFrom wsX4_costFrom) := goodIn_app (goodIn_of _ (by decide +kernel)) ggX4_choose_X4_costFrom
set_option maxRecDepth 20000 in
theorem ggX4_choose_X1_edge : GoodIn wsX4_choose wsX1_edge := goodIn_r _ [22, 23, 24, 25, 9, 26, 27, 28, 29, 30] (by decide +kernel) (by decide +kernel)
set_option maxRecDepth 20000 in
theorem gX4_choose_X1_edge : GoodIn wsX4_choose (wsV RX4 78 RX1 yX1_edge wsX1_edge) := goodIn_app (goodIn_of _ (by decide +kernel)) ggX4_choose_X1_edge
theorem dX4_choose_0 : decode cX4_choose 0 = .ok (.aload_n 1, 1) := by decide +kernel
theorem dX4_choose_1 : decode cX4_choose 1 = .ok (.getfield 38, 3) := by decide +kernel
theorem dX4_choose_4 : decode cX4_choose 4 = .ok (.getfield 42, 3) := by decide +kernel
theorem dX4_choose_7 : decode cX4_choose 7 = .ok (.istore_n 3, 1) := by decide +kernel
theorem dX4_choose_8 : decode cX4_choose 8 = .ok (.iconst 0, 1) := by decide +kernel
theorem dX4_choose_9 : decode cX4_choose 9 = .ok (.istore 4, 2) := by decide +kernel
theorem dX4_choose_11 : decode cX4_choose 11 = .ok (.iload 4, 2) := by decide +kernel
theorem dX4_choose_13 : decode cX4_choose 13 = .ok (.aload_n 1, 1) := by decide +kernel
theorem dX4_choose_14 : decode cX4_choose 14 = .ok (.getfield 24, 3) := by decide +kernel
theorem dX4_choose_17 : decode cX4_choose 17 = .ok (.if_icmp .ge 87, 3) := by decide +kernel
theorem dX4_choose_20 : decode cX4_choose 20 = .ok (.iconst 0, 1) := by decide +kernel
theorem dX4_choose_21 : decode cX4_choose 21 = .ok (.istore 5, 2) := by decide +kernel
theorem dX4_choose_23 : decode cX4_choose 23 = .ok (.iload 5, 2) := by decide +kernel
theorem dX4_choose_25 : decode cX4_choose 25 = .ok (.iconst 2, 1) := by decide +kernel
theorem dX4_choose_26 : decode cX4_choose 26 = .ok (.if_icmp .ge 35, 3) := by decide +kernel
theorem dX4_choose_29 : decode cX4_choose 29 = .ok (.aload_n 0, 1) := by decide +kernel
theorem dX4_choose_30 : decode cX4_choose 30 = .ok (.aload_n 1, 1) := by decide +kernel
theorem dX4_choose_31 : decode cX4_choose 31 = .ok (.iload_n 2, 1) := by decide +kernel
theorem dX4_choose_32 : decode cX4_choose 32 = .ok (.iload 4, 2) := by decide +kernel
theorem dX4_choose_34 : decode cX4_choose 34 = .ok (.iload_n 3, 1) := by decide +kernel
theorem dX4_choose_35 : decode cX4_choose 35 = .ok (.iload 5, 2) := by decide +kernel
theorem dX4_choose_37 : decode cX4_choose 37 = .ok (.invokevirtual 70, 3) := by decide +kernel
theorem dX4_choose_40 : decode cX4_choose 40 = .ok (.aload_n 0, 1) := by decide +kernel
theorem dX4_choose_41 : decode cX4_choose 41 = .ok (.getfield 18, 3) := by decide +kernel
theorem dX4_choose_44 : decode cX4_choose 44 = .ok (.iload 4, 2) := by decide +kernel
theorem dX4_choose_46 : decode cX4_choose 46 = .ok (.bipush 10, 2) := by decide +kernel
theorem dX4_choose_48 : decode cX4_choose 48 = .ok (.imul, 1) := by decide +kernel
theorem dX4_choose_49 : decode cX4_choose 49 = .ok (.iload_n 3, 1) := by decide +kernel
theorem dX4_choose_50 : decode cX4_choose 50 = .ok (.iadd, 1) := by decide +kernel
theorem dX4_choose_51 : decode cX4_choose 51 = .ok (.iaload, 1) := by decide +kernel
theorem dX4_choose_52 : decode cX4_choose 52 = .ok (.if_icmp .eq 9, 3) := by decide +kernel
theorem dX4_choose_55 : decode cX4_choose 55 = .ok (.iinc 5 1, 3) := by decide +kernel
theorem dX4_choose_58 : decode cX4_choose 58 = .ok (.goto (-35), 3) := by decide +kernel
theorem dX4_choose_61 : decode cX4_choose 61 = .ok (.aload_n 0, 1) := by decide +kernel
theorem dX4_choose_62 : decode cX4_choose 62 = .ok (.getfield 21, 3) := by decide +kernel
theorem dX4_choose_65 : decode cX4_choose 65 = .ok (.iload 4, 2) := by decide +kernel
theorem dX4_choose_67 : decode cX4_choose 67 = .ok (.aload_n 0, 1) := by decide +kernel
theorem dX4_choose_68 : decode cX4_choose 68 = .ok (.getfield 11, 3) := by decide +kernel
theorem dX4_choose_71 : decode cX4_choose 71 = .ok (.iload 4, 2) := by decide +kernel
theorem dX4_choose_73 : decode cX4_choose 73 = .ok (.iconst 3, 1) := by decide +kernel
theorem dX4_choose_74 : decode cX4_choose 74 = .ok (.imul, 1) := by decide +kernel
theorem dX4_choose_75 : decode cX4_choose 75 = .ok (.iload 5, 2) := by decide +kernel
theorem dX4_choose_77 : decode cX4_choose 77 = .ok (.iadd, 1) := by decide +kernel
theorem dX4_choose_78 : decode cX4_choose 78 = .ok (.iaload, 1) := by decide +kernel
theorem dX4_choose_79 : decode cX4_choose 79 = .ok (.iastore, 1) := by decide +kernel
theorem dX4_choose_80 : decode cX4_choose 80 = .ok (.iload_n 3, 1) := by decide +kernel
theorem dX4_choose_81 : decode cX4_choose 81 = .ok (.aload_n 1, 1) := by decide +kernel
theorem dX4_choose_82 : decode cX4_choose 82 = .ok (.iload 4, 2) := by decide +kernel
theorem dX4_choose_84 : decode cX4_choose 84 = .ok (.aload_n 0, 1) := by decide +kernel
theorem dX4_choose_85 : decode cX4_choose 85 = .ok (.getfield 21, 3) := by decide +kernel
theorem dX4_choose_88 : decode cX4_choose 88 = .ok (.iload 4, 2) := by decide +kernel
theorem dX4_choose_90 : decode cX4_choose 90 = .ok (.iaload, 1) := by decide +kernel
theorem dX4_choose_91 : decode cX4_choose 91 = .ok (.invokevirtual 78, 3) := by decide +kernel
theorem dX4_choose_94 : decode cX4_choose 94 = .ok (.invokestatic 74, 3) := by decide +kernel
theorem dX4_choose_97 : decode cX4_choose 97 = .ok (.istore_n 3, 1) := by decide +kernel
theorem dX4_choose_98 : decode cX4_choose 98 = .ok (.iinc 4 1, 3) := by decide +kernel
theorem dX4_choose_101 : decode cX4_choose 101 = .ok (.goto (-90), 3) := by decide +kernel
theorem dX4_choose_104 : decode cX4_choose 104 = .ok (.return_, 1) := by decide +kernel
theorem dX5_init_0 : decode cX5_init 0 = .ok (.aload_n 0, 1) := by decide +kernel
theorem dX5_init_1 : decode cX5_init 1 = .ok (.invokespecial 3, 3) := by decide +kernel
theorem dX5_init_4 : decode cX5_init 4 = .ok (.aload_n 0, 1) := by decide +kernel
theorem dX5_init_5 : decode cX5_init 5 = .ok (.bipush 8, 2) := by decide +kernel
theorem dX5_init_7 : decode cX5_init 7 = .ok (.newarray .int, 2) := by decide +kernel
theorem dX5_init_9 : decode cX5_init 9 = .ok (.putfield 9, 3) := by decide +kernel
theorem dX5_init_12 : decode cX5_init 12 = .ok (.aload_n 0, 1) := by decide +kernel
theorem dX5_init_13 : decode cX5_init 13 = .ok (.bipush 8, 2) := by decide +kernel
theorem dX5_init_15 : decode cX5_init 15 = .ok (.newarray .int, 2) := by decide +kernel
theorem dX5_init_17 : decode cX5_init 17 = .ok (.putfield 15, 3) := by decide +kernel
theorem dX5_init_20 : decode cX5_init 20 = .ok (.aload_n 0, 1) := by decide +kernel
theorem dX5_init_21 : decode cX5_init 21 = .ok (.bipush 8, 2) := by decide +kernel
theorem dX5_init_23 : decode cX5_init 23 = .ok (.newarray .int, 2) := by decide +kernel
theorem dX5_init_25 : decode cX5_init 25 = .ok (.putfield 18, 3) := by decide +kernel
theorem dX5_init_28 : decode cX5_init 28 = .ok (.return_, 1) := by decide +kernel
theorem dX5_add_0 : decode cX5_add 0 = .ok (.aload_n 0, 1) := by decide +kernel
theorem dX5_add_1 : decode cX5_add 1 = .ok (.getfield 21, 3) := by decide +kernel
theorem dX5_add_4 : decode cX5_add 4 = .ok (.bipush 8, 2) := by decide +kernel
theorem dX5_add_6 : decode cX5_add 6 = .ok (.if_icmp .ge 43, 3) := by decide +kernel
theorem dX5_add_9 : decode cX5_add 9 = .ok (.aload_n 0, 1) := by decide +kernel
theorem dX5_add_10 : decode cX5_add 10 = .ok (.getfield 9, 3) := by decide +kernel
theorem dX5_add_13 : decode cX5_add 13 = .ok (.aload_n 0, 1) := by decide +kernel
theorem dX5_add_14 : decode cX5_add 14 = .ok (.getfield 21, 3) := by decide +kernel
theorem dX5_add_17 : decode cX5_add 17 = .ok (.iload_n 1, 1) := by decide +kernel
theorem dX5_add_18 : decode cX5_add 18 = .ok (.iastore, 1) := by decide +kernel
theorem dX5_add_19 : decode cX5_add 19 = .ok (.aload_n 0, 1) := by decide +kernel
theorem dX5_add_20 : decode cX5_add 20 = .ok (.getfield 15, 3) := by decide +kernel
theorem dX5_add_23 : decode cX5_add 23 = .ok (.aload_n 0, 1) := by decide +kernel
theorem dX5_add_24 : decode cX5_add 24 = .ok (.getfield 21, 3) := by decide +kernel
theorem dX5_add_27 : decode cX5_add 27 = .ok (.iload_n 2, 1) := by decide +kernel
theorem dX5_add_28 : decode cX5_add 28 = .ok (.iastore, 1) := by decide +kernel
theorem dX5_add_29 : decode cX5_add 29 = .ok (.aload_n 0, 1) := by decide +kernel
theorem dX5_add_30 : decode cX5_add 30 = .ok (.getfield 18, 3) := by decide +kernel
theorem dX5_add_33 : decode cX5_add 33 = .ok (.aload_n 0, 1) := by decide +kernel
theorem dX5_add_34 : decode cX5_add 34 = .ok (.getfield 21, 3) := by decide +kernel
theorem dX5_add_37 : decode cX5_add 37 = .ok (.iload_n 3, 1) := by decide +kernel
theorem dX5_add_38 : decode cX5_add 38 = .ok (.iastore, 1) := by decide +kernel
theorem dX5_add_39 : decode cX5_add 39 = .ok (.aload_n 0, 1) := by decide +kernel
theorem dX5_add_40 : decode cX5_add 40 = .ok (.dup, 1) := by decide +kernel
theorem dX5_add_41 : decode cX5_add 41 = .ok (.getfield 21, 3) := by decide +kernel
theorem dX5_add_44 : decode cX5_add 44 = .ok (.iconst 1, 1) := by decide +kernel
theorem dX5_add_45 : decode cX5_add 45 = .ok (.iadd, 1) := by decide +kernel
theorem dX5_add_46 : decode cX5_add 46 = .ok (.putfield 21, 3) := by decide +kernel
theorem dX5_add_49 : decode cX5_add 49 = .ok (.return_, 1) := by decide +kernel
set_option maxRecDepth 20000 in
theorem ggX5_areSo_X1_pull : GoodIn wsX5_areSo wsX1_pull := goodIn_r _ [9, 10, 11, 12, 13, 14, 15, 16, 17, 18, 19, 20, 21, 22, 23, 28, 29, 30, 31, 32, 33, 34, 35, 36, 37] (by decide +kernel) (by decide +kernel)
set_option maxRecDepth 20000 in
theorem gX5_areSo_X1_pull : GoodIn wsX5_areSo (wsV RX5 25 RX1 yX1_pull wsX1_pull) := goodIn_app (goodIn_of _ (by decide +kernel)) ggX5_areSo_X1_pull
theorem dX5_areSo_0 : decode cX5_areSo 0 = .ok (.iconst 0, 1) := by decide +kernel
theorem dX5_areSo_1 : decode cX5_areSo 1 = .ok (.istore 4, 2) := by decide +kernel
theorem dX5_areSo_3 : decode cX5_areSo 3 = .ok (.iload 4, 2) := by decide +kernel
theorem dX5_areSo_5 : decode cX5_areSo 5 = .ok (.aload_n 0, 1) := by decide +kernel
theorem dX5_areSo_6 : decode cX5_areSo 6 = .ok (.getfield 21, 3) := by decide +kernel
theorem dX5_areSo_9 : decode cX5_areSo 9 = .ok (.if_icmp .ge 59, 3) := by decide +kernel
theorem dX5_areSo_12 : decode cX5_areSo 12 = .ok (.aload_n 0, 1) := by decide +kernel
theorem dX5_areSo_13 : decode cX5_areSo 13 = .ok (.getfield 9, 3) := by decide +kernel
theorem dX5_areSo_16 : decode cX5_areSo 16 = .ok (.iload 4, 2) := by decide +kernel
theorem dX5_areSo_18 : decode cX5_areSo 18 = .ok (.iaload, 1) := by decide +kernel
theorem dX5_areSo_19 : decode cX5_areSo 19 = .ok (.iload_n 2, 1) := by decide +kernel
theorem dX5_areSo_20 : decode cX5_areSo 20 = .ok (.if_icmp .ne 7, 3) := by decide +kernel
theorem dX5_areSo_23 : decode cX5_areSo 23 = .ok (.iload_n 3, 1) := by decide +kernel
theorem dX5_areSo_24 : decode cX5_areSo 24 = .ok (.goto 14, 3) := by decide +kernel
theorem dX5_areSo_27 : decode cX5_areSo 27 = .ok (.aload_n 1, 1) := by decide +kernel
theorem dX5_areSo_28 : decode cX5_areSo 28 = .ok (.aload_n 0, 1) := by decide +kernel
theorem dX5_areSo_29 : decode cX5_areSo 29 = .ok (.getfield 9, 3) := by decide +kernel
theorem dX5_areSo_32 : decode cX5_areSo 32 = .ok (.iload 4, 2) := by decide +kernel
theorem dX5_areSo_34 : decode cX5_areSo 34 = .ok (.iaload, 1) := by decide +kernel
theorem dX5_areSo_35 : decode cX5_areSo 35 = .ok (.invokevirtual 25, 3) := by decide +kernel
theorem dX5_areSo_38 : decode cX5_areSo 38 = .ok (.istore 5, 2) := by decide +kernel
theorem dX5_areSo_40 : decode cX5_areSo 40 = .ok (.iload 5, 2) := by decide +kernel
theorem dX5_areSo_42 : decode cX5_areSo 42 = .ok (.aload_n 0, 1) := by decide +kernel
theorem dX5_areSo_43 : decode cX5_areSo 43 = .ok (.getfield 15, 3) := by decide +kernel
theorem dX5_areSo_46 : decode cX5_areSo 46 = .ok (.iload 4, 2) := by decide +kernel
theorem dX5_areSo_48 : decode cX5_areSo 48 = .ok (.iaload, 1) := by decide +kernel
theorem dX5_areSo_49 : decode cX5_areSo 49 = .ok (.imul, 1) := by decide +kernel
theorem dX5_areSo_50 : decode cX5_areSo 50 = .ok (.aload_n 0, 1) := by decide +kernel
theorem dX5_areSo_51 : decode cX5_areSo 51 = .ok (.getfield 18, 3) := by decide +kernel
theorem dX5_areSo_54 : decode cX5_areSo 54 = .ok (.iload 4, 2) := by decide +kernel
theorem dX5_areSo_56 : decode cX5_areSo 56 = .ok (.iaload, 1) := by decide +kernel
theorem dX5_areSo_57 : decode cX5_areSo 57 = .ok (.if_icmp .eq 5, 3) := by decide +kernel
theorem dX5_areSo_60 : decode cX5_areSo 60 = .ok (.iconst 0, 1) := by decide +kernel
theorem dX5_areSo_61 : decode cX5_areSo 61 = .ok (.ireturn, 1) := by decide +kernel
theorem dX5_areSo_62 : decode cX5_areSo 62 = .ok (.iinc 4 1, 3) := by decide +kernel
theorem dX5_areSo_65 : decode cX5_areSo 65 = .ok (.goto (-62), 3) := by decide +kernel
theorem dX5_areSo_68 : decode cX5_areSo 68 = .ok (.iconst 1, 1) := by decide +kernel
theorem dX5_areSo_69 : decode cX5_areSo 69 = .ok (.ireturn, 1) := by decide +kernel
theorem dX6_init_0 : decode cX6_init 0 = .ok (.aload_n 0, 1) := by decide +kernel
theorem dX6_init_1 : decode cX6_init 1 = .ok (.invokespecial 3, 3) := by decide +kernel
theorem dX6_init_4 : decode cX6_init 4 = .ok (.aload_n 0, 1) := by decide +kernel
theorem dX6_init_5 : decode cX6_init 5 = .ok (.bipush 8, 2) := by decide +kernel
theorem dX6_init_7 : decode cX6_init 7 = .ok (.newarray .int, 2) := by decide +kernel
theorem dX6_init_9 : decode cX6_init 9 = .ok (.putfield 9, 3) := by decide +kernel
theorem dX6_init_12 : decode cX6_init 12 = .ok (.aload_n 0, 1) := by decide +kernel
theorem dX6_init_13 : decode cX6_init 13 = .ok (.bipush 8, 2) := by decide +kernel
theorem dX6_init_15 : decode cX6_init 15 = .ok (.newarray .int, 2) := by decide +kernel
theorem dX6_init_17 : decode cX6_init 17 = .ok (.putfield 15, 3) := by decide +kernel
theorem dX6_init_20 : decode cX6_init 20 = .ok (.aload_n 0, 1) := by decide +kernel
theorem dX6_init_21 : decode cX6_init 21 = .ok (.bipush 8, 2) := by decide +kernel
theorem dX6_init_23 : decode cX6_init 23 = .ok (.newarray .int, 2) := by decide +kernel
theorem dX6_init_25 : decode cX6_init 25 = .ok (.putfield 18, 3) := by decide +kernel
theorem dX6_init_28 : decode cX6_init 28 = .ok (.return_, 1) := by decide +kernel
theorem dX6_takeMoved_0 : decode cX6_takeMoved 0 = .ok (.aload_n 1, 1) := by decide +kernel
theorem dX6_takeMoved_1 : decode cX6_takeMoved 1 = .ok (.getfield 9, 3) := by decide +kernel
theorem dX6_takeMoved_4 : decode cX6_takeMoved 4 = .ok (.iconst 0, 1) := by decide +kernel
theorem dX6_takeMoved_5 : decode cX6_takeMoved 5 = .ok (.aload_n 0, 1) := by decide +kernel
theorem dX6_takeMoved_6 : decode cX6_takeMoved 6 = .ok (.getfield 9, 3) := by decide +kernel
theorem dX6_takeMoved_9 : decode cX6_takeMoved 9 = .ok (.iconst 0, 1) := by decide +kernel
theorem dX6_takeMoved_10 : decode cX6_takeMoved 10 = .ok (.bipush 8, 2) := by decide +kernel
theorem dX6_takeMoved_12 : decode cX6_takeMoved 12 = .ok (.invokestatic 21, 3) := by decide +kernel
theorem dX6_takeMoved_15 : decode cX6_takeMoved 15 = .ok (.aload_n 1, 1) := by decide +kernel
theorem dX6_takeMoved_16 : decode cX6_takeMoved 16 = .ok (.getfield 15, 3) := by decide +kernel
theorem dX6_takeMoved_19 : decode cX6_takeMoved 19 = .ok (.iconst 0, 1) := by decide +kernel
theorem dX6_takeMoved_20 : decode cX6_takeMoved 20 = .ok (.aload_n 0, 1) := by decide +kernel
theorem dX6_takeMoved_21 : decode cX6_takeMoved 21 = .ok (.getfield 15, 3) := by decide +kernel
theorem dX6_takeMoved_24 : decode cX6_takeMoved 24 = .ok (.iconst 0, 1) := by decide +kernel
theorem dX6_takeMoved_25 : decode cX6_takeMoved 25 = .ok (.bipush 8, 2) := by decide +kernel
theorem dX6_takeMoved_27 : decode cX6_takeMoved 27 = .ok (.invokestatic 21, 3) := by decide +kernel
theorem dX6_takeMoved_30 : decode cX6_takeMoved 30 = .ok (.aload_n 1, 1) := by decide +kernel
theorem dX6_takeMoved_31 : decode cX6_takeMoved 31 = .ok (.getfield 18, 3) := by decide +kernel
theorem dX6_takeMoved_34 : decode cX6_takeMoved 34 = .ok (.iconst 0, 1) := by decide +kernel
theorem dX6_takeMoved_35 : decode cX6_takeMoved 35 = .ok (.aload_n 0, 1) := by decide +kernel
theorem dX6_takeMoved_36 : decode cX6_takeMoved 36 = .ok (.getfield 18, 3) := by decide +kernel
theorem dX6_takeMoved_39 : decode cX6_takeMoved 39 = .ok (.iconst 0, 1) := by decide +kernel
theorem dX6_takeMoved_40 : decode cX6_takeMoved 40 = .ok (.bipush 8, 2) := by decide +kernel
theorem dX6_takeMoved_42 : decode cX6_takeMoved 42 = .ok (.invokestatic 21, 3) := by decide +kernel
theorem dX6_takeMoved_45 : decode cX6_takeMoved 45 = .ok (.aload_n 0, 1) := by decide +kernel
theorem dX6_takeMoved_46 : decode cX6_takeMoved 46 = .ok (.aload_n 1, 1) := by decide +kernel
theorem dX6_takeMoved_47 : decode cX6_takeMoved 47 = .ok (.getfield 27, 3) := by decide +kernel
theorem dX6_takeMoved_50 : decode cX6_takeMoved 50 = .ok (.putfield 27, 3) := by decide +kernel
theorem dX6_takeMoved_53 : decode cX6_takeMoved 53 = .ok (.return_, 1) := by decide +kernel
set_option maxRecDepth 20000 in
theorem ggX6_takeAll_X6_takeMoved : GoodIn wsX6_takeAll wsX6_takeMoved := goodIn_r _ [7, 8, 9, 10, 11, 12, 13, 14, 15, 16, 17, 18, 19, 20, 21] (by decide +kernel) (by decide +kernel)
set_option maxRecDepth 20000 in
theorem gX6_takeAll_X6_takeMoved : GoodIn wsX6_takeAll (wsV RX6 31 RX6 yX6_takeMoved wsX6_takeMoved) := goodIn_app (goodIn_of _ (by decide +kernel)) ggX6_takeAll_X6_takeMoved
theorem dX6_takeAll_0 : decode cX6_takeAll 0 = .ok (.aload_n 0, 1) := by decide +kernel
theorem dX6_takeAll_1 : decode cX6_takeAll 1 = .ok (.aload_n 1, 1) := by decide +kernel
theorem dX6_takeAll_2 : decode cX6_takeAll 2 = .ok (.invokevirtual 31, 3) := by decide +kernel
theorem dX6_takeAll_5 : decode cX6_takeAll 5 = .ok (.aload_n 0, 1) := by decide +kernel
theorem dX6_takeAll_6 : decode cX6_takeAll 6 = .ok (.aload_n 1, 1) := by decide +kernel
theorem dX6_takeAll_7 : decode cX6_takeAll 7 = .ok (.getfield 35, 3) := by decide +kernel
theorem dX6_takeAll_10 : decode cX6_takeAll 10 = .ok (.putfield 35, 3) := by decide +kernel
theorem dX6_takeAll_13 : decode cX6_takeAll 13 = .ok (.aload_n 0, 1) := by decide +kernel
theorem dX6_takeAll_14 : decode cX6_takeAll 14 = .ok (.aload_n 1, 1) := by decide +kernel
theorem dX6_takeAll_15 : decode cX6_takeAll 15 = .ok (.getfield 38, 3) := by decide +kernel
theorem dX6_takeAll_18 : decode cX6_takeAll 18 = .ok (.putfield 38, 3) := by decide +kernel
theorem dX6_takeAll_21 : decode cX6_takeAll 21 = .ok (.return_, 1) := by decide +kernel
theorem dX7_init_0 : decode cX7_init 0 = .ok (.aload_n 0, 1) := by decide +kernel
theorem dX7_init_1 : decode cX7_init 1 = .ok (.invokespecial 3, 3) := by decide +kernel
theorem dX7_init_4 : decode cX7_init 4 = .ok (.aload_n 0, 1) := by decide +kernel
theorem dX7_init_5 : decode cX7_init 5 = .ok (.bipush 60, 2) := by decide +kernel
theorem dX7_init_7 : decode cX7_init 7 = .ok (.newarray .int, 2) := by decide +kernel
theorem dX7_init_9 : decode cX7_init 9 = .ok (.putfield 9, 3) := by decide +kernel
theorem dX7_init_12 : decode cX7_init 12 = .ok (.return_, 1) := by decide +kernel
theorem dX7_renew_0 : decode cX7_renew 0 = .ok (.aload_n 0, 1) := by decide +kernel
theorem dX7_renew_1 : decode cX7_renew 1 = .ok (.iconst 1, 1) := by decide +kernel
theorem dX7_renew_2 : decode cX7_renew 2 = .ok (.putfield 15, 3) := by decide +kernel
theorem dX7_renew_5 : decode cX7_renew 5 = .ok (.aload_n 0, 1) := by decide +kernel
theorem dX7_renew_6 : decode cX7_renew 6 = .ok (.iload_n 1, 1) := by decide +kernel
theorem dX7_renew_7 : decode cX7_renew 7 = .ok (.putfield 19, 3) := by decide +kernel
theorem dX7_renew_10 : decode cX7_renew 10 = .ok (.aload_n 0, 1) := by decide +kernel
theorem dX7_renew_11 : decode cX7_renew 11 = .ok (.iload_n 2, 1) := by decide +kernel
theorem dX7_renew_12 : decode cX7_renew 12 = .ok (.putfield 23, 3) := by decide +kernel
theorem dX7_renew_15 : decode cX7_renew 15 = .ok (.iconst 0, 1) := by decide +kernel
theorem dX7_renew_16 : decode cX7_renew 16 = .ok (.istore_n 3, 1) := by decide +kernel
theorem dX7_renew_17 : decode cX7_renew 17 = .ok (.iload_n 3, 1) := by decide +kernel
theorem dX7_renew_18 : decode cX7_renew 18 = .ok (.iload_n 2, 1) := by decide +kernel
theorem dX7_renew_19 : decode cX7_renew 19 = .ok (.if_icmp .ge 16, 3) := by decide +kernel
theorem dX7_renew_22 : decode cX7_renew 22 = .ok (.aload_n 0, 1) := by decide +kernel
theorem dX7_renew_23 : decode cX7_renew 23 = .ok (.getfield 9, 3) := by decide +kernel
theorem dX7_renew_26 : decode cX7_renew 26 = .ok (.iload_n 3, 1) := by decide +kernel
theorem dX7_renew_27 : decode cX7_renew 27 = .ok (.iconst 0, 1) := by decide +kernel
theorem dX7_renew_28 : decode cX7_renew 28 = .ok (.iastore, 1) := by decide +kernel
theorem dX7_renew_29 : decode cX7_renew 29 = .ok (.iinc 3 1, 3) := by decide +kernel
theorem dX7_renew_32 : decode cX7_renew 32 = .ok (.goto (-15), 3) := by decide +kernel
theorem dX7_renew_35 : decode cX7_renew 35 = .ok (.return_, 1) := by decide +kernel
theorem dX7_set_0 : decode cX7_set 0 = .ok (.aload_n 0, 1) := by decide +kernel
theorem dX7_set_1 : decode cX7_set 1 = .ok (.getfield 9, 3) := by decide +kernel
theorem dX7_set_4 : decode cX7_set 4 = .ok (.iload_n 1, 1) := by decide +kernel
theorem dX7_set_5 : decode cX7_set 5 = .ok (.aload_n 0, 1) := by decide +kernel
theorem dX7_set_6 : decode cX7_set 6 = .ok (.getfield 19, 3) := by decide +kernel
theorem dX7_set_9 : decode cX7_set 9 = .ok (.ifCond .ne 8, 3) := by decide +kernel
theorem dX7_set_12 : decode cX7_set 12 = .ok (.iload_n 2, 1) := by decide +kernel
theorem dX7_set_13 : decode cX7_set 13 = .ok (.i2b, 1) := by decide +kernel
theorem dX7_set_14 : decode cX7_set 14 = .ok (.goto 17, 3) := by decide +kernel
theorem dX7_set_17 : decode cX7_set 17 = .ok (.aload_n 0, 1) := by decide +kernel
theorem dX7_set_18 : decode cX7_set 18 = .ok (.getfield 19, 3) := by decide +kernel
theorem dX7_set_21 : decode cX7_set 21 = .ok (.iconst 1, 1) := by decide +kernel
theorem dX7_set_22 : decode cX7_set 22 = .ok (.if_icmp .ne 8, 3) := by decide +kernel
theorem dX7_set_25 : decode cX7_set 25 = .ok (.iload_n 2, 1) := by decide +kernel
theorem dX7_set_26 : decode cX7_set 26 = .ok (.i2s, 1) := by decide +kernel
theorem dX7_set_27 : decode cX7_set 27 = .ok (.goto 4, 3) := by decide +kernel
theorem dX7_set_30 : decode cX7_set 30 = .ok (.iload_n 2, 1) := by decide +kernel
theorem dX7_set_31 : decode cX7_set 31 = .ok (.iastore, 1) := by decide +kernel
theorem dX7_set_32 : decode cX7_set 32 = .ok (.return_, 1) := by decide +kernel
theorem dX7_hasCells_0 : decode cX7_hasCells 0 = .ok (.iload_n 1, 1) := by decide +kernel
theorem dX7_hasCells_1 : decode cX7_hasCells 1 = .ok (.ifCond .lt 25, 3) := by decide +kernel
theorem dX7_hasCells_4 : decode cX7_hasCells 4 = .ok (.iload_n 1, 1) := by decide +kernel
theorem dX7_hasCells_5 : decode cX7_hasCells 5 = .ok (.aload_n 0, 1) := by decide +kernel
theorem dX7_hasCells_6 : decode cX7_hasCells 6 = .ok (.getfield 23, 3) := by decide +kernel
theorem dX7_hasCells_9 : decode cX7_hasCells 9 = .ok (.if_icmp .gt 17, 3) := by decide +kernel
theorem dX7_hasCells_12 : decode cX7_hasCells 12 = .ok (.iload_n 2, 1) := by decide +kernel
theorem dX7_hasCells_13 : decode cX7_hasCells 13 = .ok (.aload_n 0, 1) := by decide +kernel
theorem dX7_hasCells_14 : decode cX7_hasCells 14 = .ok (.getfield 23, 3) := by decide +kernel
theorem dX7_hasCells_17 : decode cX7_hasCells 17 = .ok (.iload_n 1, 1) := by decide +kernel
theorem dX7_hasCells_18 : decode cX7_hasCells 18 = .ok (.isub, 1) := by decide +kernel
theorem dX7_hasCells_19 : decode cX7_hasCells 19 = .ok (.if_icmp .gt 7, 3) := by decide +kernel
theorem dX7_hasCells_22 : decode cX7_hasCells 22 = .ok (.iconst 1, 1) := by decide +kernel
theorem dX7_hasCells_23 : decode cX7_hasCells 23 = .ok (.goto 4, 3) := by decide +kernel
theorem dX7_hasCells_26 : decode cX7_hasCells 26 = .ok (.iconst 0, 1) := by decide +kernel
theorem dX7_hasCells_27 : decode cX7_hasCells 27 = .ok (.ireturn, 1) := by decide +kernel
set_option maxRecDepth 20000 in
theorem ggX7_faultOf_X7_hasCells : GoodIn wsX7_faultOf wsX7_hasCells := goodIn_r _ [7, 8, 9, 10, 11, 12] (by decide +kernel) (by decide +kernel)
set_option maxRecDepth 20000 in
theorem gX7_faultOf_X7_hasCells : GoodIn wsX7_faultOf (wsV RX7 26 RX7 yX7_hasCells wsX7_hasCells) := goodIn_app (goodIn_of _ (by decide +kernel)) ggX7_faultOf_X7_hasCells
theorem dX7_faultOf_0 : decode cX7_faultOf 0 = .ok (.aload_n 0, 1) := by decide +kernel
theorem dX7_faultOf_1 : decode cX7_faultOf 1 = .ok (.getfield 15, 3) := by decide +kernel
theorem dX7_faultOf_4 : decode cX7_faultOf 4 = .ok (.ifCond .ne 5, 3) := by decide +kernel
theorem dX7_faultOf_7 : decode cX7_faultOf 7 = .ok (.iconst 1, 1) := by decide +kernel
theorem dX7_faultOf_8 : decode cX7_faultOf 8 = .ok (.ireturn, 1) := by decide +kernel
theorem dX7_faultOf_9 : decode cX7_faultOf 9 = .ok (.aload_n 0, 1) := by decide +kernel
theorem dX7_faultOf_10 : decode cX7_faultOf 10 = .ok (.getfield 19, 3) := by decide +kernel
theorem dX7_faultOf_13 : decode cX7_faultOf 13 = .ok (.iload_n 1, 1) := by decide +kernel
theorem dX7_faultOf_14 : decode cX7_faultOf 14 = .ok (.if_icmp .eq 5, 3) := by decide +kernel
theorem dX7_faultOf_17 : decode cX7_faultOf 17 = .ok (.iconst 2, 1) := by decide +kernel
theorem dX7_faultOf_18 : decode cX7_faultOf 18 = .ok (.ireturn, 1) := by decide +kernel
theorem dX7_faultOf_19 : decode cX7_faultOf 19 = .ok (.iload_n 3, 1) := by decide +kernel
theorem dX7_faultOf_20 : decode cX7_faultOf 20 = .ok (.ifCond .ge 5, 3) := by decide +kernel
theorem dX7_faultOf_23 : decode cX7_faultOf 23 = .ok (.iconst 4, 1) := by decide +kernel
theorem dX7_faultOf_24 : decode cX7_faultOf 24 = .ok (.ireturn, 1) := by decide +kernel
theorem dX7_faultOf_25 : decode cX7_faultOf 25 = .ok (.aload_n 0, 1) := by decide +kernel
theorem dX7_faultOf_26 : decode cX7_faultOf 26 = .ok (.iload_n 2, 1) := by decide +kernel
theorem dX7_faultOf_27 : decode cX7_faultOf 27 = .ok (.iload_n 3, 1) := by decide +kernel
theorem dX7_faultOf_28 : decode cX7_faultOf 28 = .ok (.invokevirtual 26, 3) := by decide +kernel
theorem dX7_faultOf_31 : decode cX7_faultOf 31 = .ok (.ifCond .eq 7, 3) := by decide +kernel
theorem dX7_faultOf_34 : decode cX7_faultOf 34 = .ok (.iconst 0, 1) := by decide +kernel
theorem dX7_faultOf_35 : decode cX7_faultOf 35 = .ok (.goto 4, 3) := by decide +kernel
theorem dX7_faultOf_38 : decode cX7_faultOf 38 = .ok (.iconst 3, 1) := by decide +kernel
theorem dX7_faultOf_39 : decode cX7_faultOf 39 = .ok (.ireturn, 1) := by decide +kernel
theorem dX8_init_0 : decode cX8_init 0 = .ok (.aload_n 0, 1) := by decide +kernel
theorem dX8_init_1 : decode cX8_init 1 = .ok (.invokespecial 3, 3) := by decide +kernel
theorem dX8_init_4 : decode cX8_init 4 = .ok (.aload_n 0, 1) := by decide +kernel
theorem dX8_init_5 : decode cX8_init 5 = .ok (.bipush 32, 2) := by decide +kernel
theorem dX8_init_7 : decode cX8_init 7 = .ok (.newarray .int, 2) := by decide +kernel
theorem dX8_init_9 : decode cX8_init 9 = .ok (.putfield 11, 3) := by decide +kernel
theorem dX8_init_12 : decode cX8_init 12 = .ok (.aload_n 0, 1) := by decide +kernel
theorem dX8_init_13 : decode cX8_init 13 = .ok (.bipush 32, 2) := by decide +kernel
theorem dX8_init_15 : decode cX8_init 15 = .ok (.newarray .int, 2) := by decide +kernel
theorem dX8_init_17 : decode cX8_init 17 = .ok (.putfield 15, 3) := by decide +kernel
theorem dX8_init_20 : decode cX8_init 20 = .ok (.aload_n 0, 1) := by decide +kernel
theorem dX8_init_21 : decode cX8_init 21 = .ok (.bipush 8, 2) := by decide +kernel
theorem dX8_init_23 : decode cX8_init 23 = .ok (.newarray .int, 2) := by decide +kernel
theorem dX8_init_25 : decode cX8_init 25 = .ok (.putfield 18, 3) := by decide +kernel
theorem dX8_init_28 : decode cX8_init 28 = .ok (.aload_n 0, 1) := by decide +kernel
theorem dX8_init_29 : decode cX8_init 29 = .ok (.bipush 8, 2) := by decide +kernel
theorem dX8_init_31 : decode cX8_init 31 = .ok (.newarray .int, 2) := by decide +kernel
theorem dX8_init_33 : decode cX8_init 33 = .ok (.putfield 21, 3) := by decide +kernel
theorem dX8_init_36 : decode cX8_init 36 = .ok (.aload_n 0, 1) := by decide +kernel
theorem dX8_init_37 : decode cX8_init 37 = .ok (.iconst 5, 1) := by decide +kernel
theorem dX8_init_38 : decode cX8_init 38 = .ok (.newarray .int, 2) := by decide +kernel
theorem dX8_init_40 : decode cX8_init 40 = .ok (.putfield 24, 3) := by decide +kernel
theorem dX8_init_43 : decode cX8_init 43 = .ok (.aload_n 0, 1) := by decide +kernel
theorem dX8_init_44 : decode cX8_init 44 = .ok (.iconst 5, 1) := by decide +kernel
theorem dX8_init_45 : decode cX8_init 45 = .ok (.newarray .int, 2) := by decide +kernel
theorem dX8_init_47 : decode cX8_init 47 = .ok (.putfield 27, 3) := by decide +kernel
theorem dX8_init_50 : decode cX8_init 50 = .ok (.return_, 1) := by decide +kernel
set_option maxRecDepth 20000 in
theorem ggX8_find_X8_nextBehind : GoodIn wsX8_find wsX8_nextBehind := goodIn_r _ [9, 10, 11, 12, 13, 14, 15, 16, 1, 17, 18, 19, 20, 8, 21, 22, 23, 24, 25, 26, 27, 28, 29, 30, 31, 32, 33, 34, 35, 36, 37, 38, 39, 40, 41, 42, 43, 44, 45, 46, 47, 48, 49, 50, 51, 52, 85, 86, 87, 88, 89, 90, 91, 92, 93, 94, 78, 79, 80, 81, 82, 83, 84, 75, 76, 77] (by decide +kernel) (by decide +kernel)
set_option maxRecDepth 20000 in
theorem gX8_find_X8_nextBehind : GoodIn wsX8_find (wsV RX8 36 RX8 yX8_nextBehind wsX8_nextBehind) := goodIn_app (goodIn_of _ (by decide +kernel)) ggX8_find_X8_nextBehind
set_option maxRecDepth 20000 in
theorem ggX8_find_X8_fewestBehind : GoodIn wsX8_find wsX8_fewestBehind := goodIn_r _ [56, 3, 2, 57, 58, 43, 59, 78, 79, 80, 81, 82, 83, 84] (by decide +kernel) (by decide +kernel)
set_option maxRecDepth 20000 in
theorem gX8_find_X8_fewestBehind : GoodIn wsX8_find (wsV RX8 40 RX8 yX8_fewestBehind wsX8_fewestBehind) := goodIn_app (goodIn_of _ (by decide +kernel)) ggX8_find_X8_fewestBehind
set_option maxRecDepth 20000 in
theorem ggX8_find_X8_chooseRow : GoodIn wsX8_find wsX8_chooseRow := goodIn_r _ [63, 4, 64, 65, 66, 8, 67, 68, 69, 46, 43, 47, 70, 71, 72, 73, 74, 3, 78, 79, 80, 81, 82, 83, 84] (by decide +kernel) (by decide +kernel)
set_option maxRecDepth 20000 in
theorem gX8_find_X8_chooseRow : GoodIn wsX8_find (wsV RX8 47 RX8 yX8_chooseRow wsX8_chooseRow) := goodIn_app (goodIn_of _ (by decide +kernel)) ggX8_find_X8_chooseRow
theorem dX8_find_0 : decode cX8_find 0 = .ok (.iconst 1, 1) := by decide +kernel
theorem dX8_find_1 : decode cX8_find 1 = .ok (.aload_n 2, 1) := by decide +kernel
theorem dX8_find_2 : decode cX8_find 2 = .ok (.getfield 30, 3) := by decide +kernel
theorem dX8_find_5 : decode cX8_find 5 = .ok (.ishl, 1) := by decide +kernel
theorem dX8_find_6 : decode cX8_find 6 = .ok (.iconst 1, 1) := by decide +kernel
theorem dX8_find_7 : decode cX8_find 7 = .ok (.isub, 1) := by decide +kernel
theorem dX8_find_8 : decode cX8_find 8 = .ok (.istore_n 3, 1) := by decide +kernel
theorem dX8_find_9 : decode cX8_find 9 = .ok (.aload_n 0, 1) := by decide +kernel
theorem dX8_find_10 : decode cX8_find 10 = .ok (.getfield 15, 3) := by decide +kernel
theorem dX8_find_13 : decode cX8_find 13 = .ok (.iload_n 3, 1) := by decide +kernel
theorem dX8_find_14 : decode cX8_find 14 = .ok (.iconst 0, 1) := by decide +kernel
theorem dX8_find_15 : decode cX8_find 15 = .ok (.iastore, 1) := by decide +kernel
theorem dX8_find_16 : decode cX8_find 16 = .ok (.iload_n 3, 1) := by decide +kernel
theorem dX8_find_17 : decode cX8_find 17 = .ok (.iconst 1, 1) := by decide +kernel
theorem dX8_find_18 : decode cX8_find 18 = .ok (.isub, 1) := by decide +kernel
theorem dX8_find_19 : decode cX8_find 19 = .ok (.istore 4, 2) := by decide +kernel
theorem dX8_find_21 : decode cX8_find 21 = .ok (.iload 4, 2) := by decide +kernel
theorem dX8_find_23 : decode cX8_find 23 = .ok (.ifCond .lt 38, 3) := by decide +kernel
theorem dX8_find_26 : decode cX8_find 26 = .ok (.aload_n 0, 1) := by decide +kernel
theorem dX8_find_27 : decode cX8_find 27 = .ok (.getfield 11, 3) := by decide +kernel
theorem dX8_find_30 : decode cX8_find 30 = .ok (.iload 4, 2) := by decide +kernel
theorem dX8_find_32 : decode cX8_find 32 = .ok (.aload_n 0, 1) := by decide +kernel
theorem dX8_find_33 : decode cX8_find 33 = .ok (.aload_n 1, 1) := by decide +kernel
theorem dX8_find_34 : decode cX8_find 34 = .ok (.aload_n 2, 1) := by decide +kernel
theorem dX8_find_35 : decode cX8_find 35 = .ok (.iload 4, 2) := by decide +kernel
theorem dX8_find_37 : decode cX8_find 37 = .ok (.invokevirtual 36, 3) := by decide +kernel
theorem dX8_find_40 : decode cX8_find 40 = .ok (.iastore, 1) := by decide +kernel
theorem dX8_find_41 : decode cX8_find 41 = .ok (.aload_n 0, 1) := by decide +kernel
theorem dX8_find_42 : decode cX8_find 42 = .ok (.getfield 15, 3) := by decide +kernel
theorem dX8_find_45 : decode cX8_find 45 = .ok (.iload 4, 2) := by decide +kernel
theorem dX8_find_47 : decode cX8_find 47 = .ok (.aload_n 0, 1) := by decide +kernel
theorem dX8_find_48 : decode cX8_find 48 = .ok (.iload 4, 2) := by decide +kernel
theorem dX8_find_50 : decode cX8_find 50 = .ok (.iload_n 3, 1) := by decide +kernel
theorem dX8_find_51 : decode cX8_find 51 = .ok (.invokevirtual 40, 3) := by decide +kernel
theorem dX8_find_54 : decode cX8_find 54 = .ok (.iastore, 1) := by decide +kernel
theorem dX8_find_55 : decode cX8_find 55 = .ok (.iinc 4 (-1), 3) := by decide +kernel
theorem dX8_find_58 : decode cX8_find 58 = .ok (.goto (-37), 3) := by decide +kernel
theorem dX8_find_61 : decode cX8_find 61 = .ok (.aload_n 0, 1) := by decide +kernel
theorem dX8_find_62 : decode cX8_find 62 = .ok (.aload_n 0, 1) := by decide +kernel
theorem dX8_find_63 : decode cX8_find 63 = .ok (.getfield 15, 3) := by decide +kernel
theorem dX8_find_66 : decode cX8_find 66 = .ok (.iconst 0, 1) := by decide +kernel
theorem dX8_find_67 : decode cX8_find 67 = .ok (.iaload, 1) := by decide +kernel
theorem dX8_find_68 : decode cX8_find 68 = .ok (.putfield 44, 3) := by decide +kernel
theorem dX8_find_71 : decode cX8_find 71 = .ok (.aload_n 0, 1) := by decide +kernel
theorem dX8_find_72 : decode cX8_find 72 = .ok (.getfield 44, 3) := by decide +kernel
theorem dX8_find_75 : decode cX8_find 75 = .ok (.bipush (-9), 2) := by decide +kernel
theorem dX8_find_77 : decode cX8_find 77 = .ok (.if_icmp .eq 18, 3) := by decide +kernel
theorem dX8_find_80 : decode cX8_find 80 = .ok (.aload_n 0, 1) := by decide +kernel
theorem dX8_find_81 : decode cX8_find 81 = .ok (.aload_n 2, 1) := by decide +kernel
theorem dX8_find_82 : decode cX8_find 82 = .ok (.getfield 30, 3) := by decide +kernel
theorem dX8_find_85 : decode cX8_find 85 = .ok (.invokevirtual 47, 3) := by decide +kernel
theorem dX8_find_88 : decode cX8_find 88 = .ok (.ifCond .eq 7, 3) := by decide +kernel
theorem dX8_find_91 : decode cX8_find 91 = .ok (.iconst 1, 1) := by decide +kernel
theorem dX8_find_92 : decode cX8_find 92 = .ok (.goto 4, 3) := by decide +kernel
theorem dX8_find_95 : decode cX8_find 95 = .ok (.iconst 0, 1) := by decide +kernel
theorem dX8_find_96 : decode cX8_find 96 = .ok (.ireturn, 1) := by decide +kernel
set_option maxRecDepth 20000 in
theorem ggX8_nextBehind_X8_bring : GoodIn wsX8_nextBehind wsX8_bring := goodIn_r _ [14, 8, 15, 16, 63, 64, 65] (by decide +kernel) (by decide +kernel)
set_option maxRecDepth 20000 in
theorem gX8_nextBehind_X8_bring : GoodIn wsX8_nextBehind (va_wsS RX8 68 yX8_bring wsX8_bring) := goodIn_app (goodIn_of _ (by decide +kernel)) ggX8_nextBehind_X8_bring
set_option maxRecDepth 20000 in
theorem ggX8_nextBehind_X1_canBe : GoodIn wsX8_nextBehind wsX1_canBe := goodIn_r _ [21, 22, 23, 24, 25, 20, 26, 27, 28, 29, 30, 31, 32, 33, 34, 35, 36, 37, 38, 39, 40, 41, 42, 43, 44, 45, 46, 47, 48, 49, 50, 51, 52, 53, 54, 55] (by decide +kernel) (by decide +kernel)
set_option maxRecDepth 20000 in
theorem gX8_nextBehind_X1_canBe : GoodIn wsX8_nextBehind (wsV RX8 75 RX1 yX1_canBe wsX1_canBe) := goodIn_app (goodIn_of _ (by decide +kernel)) ggX8_nextBehind_X1_canBe
theorem dX8_nextBehind_0 : decode cX8_nextBehind 0 = .ok (.iconst 0, 1) := by decide +kernel
theorem dX8_nextBehind_1 : decode cX8_nextBehind 1 = .ok (.istore 4, 2) := by decide +kernel
theorem dX8_nextBehind_3 : decode cX8_nextBehind 3 = .ok (.aload_n 1, 1) := by decide +kernel
theorem dX8_nextBehind_4 : decode cX8_nextBehind 4 = .ok (.getfield 51, 3) := by decide +kernel
theorem dX8_nextBehind_7 : decode cX8_nextBehind 7 = .ok (.getfield 57, 3) := by decide +kernel
theorem dX8_nextBehind_10 : decode cX8_nextBehind 10 = .ok (.iconst 0, 1) := by decide +kernel
theorem dX8_nextBehind_11 : decode cX8_nextBehind 11 = .ok (.aload_n 0, 1) := by decide +kernel
theorem dX8_nextBehind_12 : decode cX8_nextBehind 12 = .ok (.getfield 18, 3) := by decide +kernel
theorem dX8_nextBehind_15 : decode cX8_nextBehind 15 = .ok (.iconst 0, 1) := by decide +kernel
theorem dX8_nextBehind_16 : decode cX8_nextBehind 16 = .ok (.bipush 8, 2) := by decide +kernel
theorem dX8_nextBehind_18 : decode cX8_nextBehind 18 = .ok (.invokestatic 62, 3) := by decide +kernel
theorem dX8_nextBehind_21 : decode cX8_nextBehind 21 = .ok (.aload_n 2, 1) := by decide +kernel
theorem dX8_nextBehind_22 : decode cX8_nextBehind 22 = .ok (.iload_n 3, 1) := by decide +kernel
theorem dX8_nextBehind_23 : decode cX8_nextBehind 23 = .ok (.aload_n 0, 1) := by decide +kernel
theorem dX8_nextBehind_24 : decode cX8_nextBehind 24 = .ok (.getfield 18, 3) := by decide +kernel
theorem dX8_nextBehind_27 : decode cX8_nextBehind 27 = .ok (.invokestatic 68, 3) := by decide +kernel
theorem dX8_nextBehind_30 : decode cX8_nextBehind 30 = .ok (.iconst 1, 1) := by decide +kernel
theorem dX8_nextBehind_31 : decode cX8_nextBehind 31 = .ok (.istore 5, 2) := by decide +kernel
theorem dX8_nextBehind_33 : decode cX8_nextBehind 33 = .ok (.iload 5, 2) := by decide +kernel
theorem dX8_nextBehind_35 : decode cX8_nextBehind 35 = .ok (.iconst 1, 1) := by decide +kernel
theorem dX8_nextBehind_36 : decode cX8_nextBehind 36 = .ok (.aload_n 2, 1) := by decide +kernel
theorem dX8_nextBehind_37 : decode cX8_nextBehind 37 = .ok (.getfield 30, 3) := by decide +kernel
theorem dX8_nextBehind_40 : decode cX8_nextBehind 40 = .ok (.ishl, 1) := by decide +kernel
theorem dX8_nextBehind_41 : decode cX8_nextBehind 41 = .ok (.if_icmp .ge 76, 3) := by decide +kernel
theorem dX8_nextBehind_44 : decode cX8_nextBehind 44 = .ok (.iload 5, 2) := by decide +kernel
theorem dX8_nextBehind_46 : decode cX8_nextBehind 46 = .ok (.iload_n 3, 1) := by decide +kernel
theorem dX8_nextBehind_47 : decode cX8_nextBehind 47 = .ok (.iand, 1) := by decide +kernel
theorem dX8_nextBehind_48 : decode cX8_nextBehind 48 = .ok (.ifCond .ne 63, 3) := by decide +kernel
theorem dX8_nextBehind_51 : decode cX8_nextBehind 51 = .ok (.aload_n 0, 1) := by decide +kernel
theorem dX8_nextBehind_52 : decode cX8_nextBehind 52 = .ok (.getfield 18, 3) := by decide +kernel
theorem dX8_nextBehind_55 : decode cX8_nextBehind 55 = .ok (.iconst 0, 1) := by decide +kernel
theorem dX8_nextBehind_56 : decode cX8_nextBehind 56 = .ok (.aload_n 0, 1) := by decide +kernel
theorem dX8_nextBehind_57 : decode cX8_nextBehind 57 = .ok (.getfield 21, 3) := by decide +kernel
theorem dX8_nextBehind_60 : decode cX8_nextBehind 60 = .ok (.iconst 0, 1) := by decide +kernel
theorem dX8_nextBehind_61 : decode cX8_nextBehind 61 = .ok (.bipush 8, 2) := by decide +kernel
theorem dX8_nextBehind_63 : decode cX8_nextBehind 63 = .ok (.invokestatic 62, 3) := by decide +kernel
theorem dX8_nextBehind_66 : decode cX8_nextBehind 66 = .ok (.aload_n 2, 1) := by decide +kernel
theorem dX8_nextBehind_67 : decode cX8_nextBehind 67 = .ok (.iload 5, 2) := by decide +kernel
theorem dX8_nextBehind_69 : decode cX8_nextBehind 69 = .ok (.aload_n 0, 1) := by decide +kernel
theorem dX8_nextBehind_70 : decode cX8_nextBehind 70 = .ok (.getfield 21, 3) := by decide +kernel
theorem dX8_nextBehind_73 : decode cX8_nextBehind 73 = .ok (.invokestatic 68, 3) := by decide +kernel
theorem dX8_nextBehind_76 : decode cX8_nextBehind 76 = .ok (.iload 4, 2) := by decide +kernel
theorem dX8_nextBehind_78 : decode cX8_nextBehind 78 = .ok (.aload_n 1, 1) := by decide +kernel
theorem dX8_nextBehind_79 : decode cX8_nextBehind 79 = .ok (.aload_n 0, 1) := by decide +kernel
theorem dX8_nextBehind_80 : decode cX8_nextBehind 80 = .ok (.getfield 18, 3) := by decide +kernel
theorem dX8_nextBehind_83 : decode cX8_nextBehind 83 = .ok (.aload_n 0, 1) := by decide +kernel
theorem dX8_nextBehind_84 : decode cX8_nextBehind 84 = .ok (.getfield 21, 3) := by decide +kernel
theorem dX8_nextBehind_87 : decode cX8_nextBehind 87 = .ok (.aload_n 1, 1) := by decide +kernel
theorem dX8_nextBehind_88 : decode cX8_nextBehind 88 = .ok (.getfield 51, 3) := by decide +kernel
theorem dX8_nextBehind_91 : decode cX8_nextBehind 91 = .ok (.getfield 72, 3) := by decide +kernel
theorem dX8_nextBehind_94 : decode cX8_nextBehind 94 = .ok (.invokevirtual 75, 3) := by decide +kernel
theorem dX8_nextBehind_97 : decode cX8_nextBehind 97 = .ok (.ifCond .eq 10, 3) := by decide +kernel
theorem dX8_nextBehind_100 : decode cX8_nextBehind 100 = .ok (.iconst 1, 1) := by decide +kernel
theorem dX8_nextBehind_101 : decode cX8_nextBehind 101 = .ok (.iload 5, 2) := by decide +kernel
theorem dX8_nextBehind_103 : decode cX8_nextBehind 103 = .ok (.ishl, 1) := by decide +kernel
theorem dX8_nextBehind_104 : decode cX8_nextBehind 104 = .ok (.goto 4, 3) := by decide +kernel
theorem dX8_nextBehind_107 : decode cX8_nextBehind 107 = .ok (.iconst 0, 1) := by decide +kernel
theorem dX8_nextBehind_108 : decode cX8_nextBehind 108 = .ok (.ior, 1) := by decide +kernel
theorem dX8_nextBehind_109 : decode cX8_nextBehind 109 = .ok (.istore 4, 2) := by decide +kernel
theorem dX8_nextBehind_111 : decode cX8_nextBehind 111 = .ok (.iinc 5 1, 3) := by decide +kernel
theorem dX8_nextBehind_114 : decode cX8_nextBehind 114 = .ok (.goto (-81), 3) := by decide +kernel
theorem dX8_nextBehind_117 : decode cX8_nextBehind 117 = .ok (.iload 4, 2) := by decide +kernel
theorem dX8_nextBehind_119 : decode cX8_nextBehind 119 = .ok (.ireturn, 1) := by decide +kernel
theorem dX8_bring_0 : decode cX8_bring 0 = .ok (.iconst 0, 1) := by decide +kernel
theorem dX8_bring_1 : decode cX8_bring 1 = .ok (.istore_n 3, 1) := by decide +kernel
theorem dX8_bring_2 : decode cX8_bring 2 = .ok (.iload_n 3, 1) := by decide +kernel
theorem dX8_bring_3 : decode cX8_bring 3 = .ok (.aload_n 0, 1) := by decide +kernel
theorem dX8_bring_4 : decode cX8_bring 4 = .ok (.getfield 30, 3) := by decide +kernel
theorem dX8_bring_7 : decode cX8_bring 7 = .ok (.if_icmp .ge 32, 3) := by decide +kernel
theorem dX8_bring_10 : decode cX8_bring 10 = .ok (.iload_n 1, 1) := by decide +kernel
theorem dX8_bring_11 : decode cX8_bring 11 = .ok (.iload_n 3, 1) := by decide +kernel
theorem dX8_bring_12 : decode cX8_bring 12 = .ok (.ishr, 1) := by decide +kernel
theorem dX8_bring_13 : decode cX8_bring 13 = .ok (.iconst 1, 1) := by decide +kernel
theorem dX8_bring_14 : decode cX8_bring 14 = .ok (.iand, 1) := by decide +kernel
theorem dX8_bring_15 : decode cX8_bring 15 = .ok (.iconst 1, 1) := by decide +kernel
theorem dX8_bring_16 : decode cX8_bring 16 = .ok (.if_icmp .ne 17, 3) := by decide +kernel
theorem dX8_bring_19 : decode cX8_bring 19 = .ok (.aload_n 2, 1) := by decide +kernel
theorem dX8_bring_20 : decode cX8_bring 20 = .ok (.aload_n 0, 1) := by decide +kernel
theorem dX8_bring_21 : decode cX8_bring 21 = .ok (.getfield 79, 3) := by decide +kernel
theorem dX8_bring_24 : decode cX8_bring 24 = .ok (.iload_n 3, 1) := by decide +kernel
theorem dX8_bring_25 : decode cX8_bring 25 = .ok (.iaload, 1) := by decide +kernel
theorem dX8_bring_26 : decode cX8_bring 26 = .ok (.aload_n 0, 1) := by decide +kernel
theorem dX8_bring_27 : decode cX8_bring 27 = .ok (.getfield 82, 3) := by decide +kernel
theorem dX8_bring_30 : decode cX8_bring 30 = .ok (.iload_n 3, 1) := by decide +kernel
theorem dX8_bring_31 : decode cX8_bring 31 = .ok (.iaload, 1) := by decide +kernel
theorem dX8_bring_32 : decode cX8_bring 32 = .ok (.iastore, 1) := by decide +kernel
theorem dX8_bring_33 : decode cX8_bring 33 = .ok (.iinc 3 1, 3) := by decide +kernel
theorem dX8_bring_36 : decode cX8_bring 36 = .ok (.goto (-34), 3) := by decide +kernel
theorem dX8_bring_39 : decode cX8_bring 39 = .ok (.return_, 1) := by decide +kernel
theorem dX8_fewestBehind_0 : decode cX8_fewestBehind 0 = .ok (.bipush (-9), 2) := by decide +kernel
