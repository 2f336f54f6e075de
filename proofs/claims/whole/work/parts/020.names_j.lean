theorem dX11_reading_70 : decode cX11_reading 70 = .ok (.getfield 138, 3) := by decide +kernel
theorem dX11_reading_73 : decode cX11_reading 73 = .ok (.iload_n 3, 1) := by decide +kernel
theorem dX11_reading_74 : decode cX11_reading 74 = .ok (.iastore, 1) := by decide +kernel
theorem dX11_reading_75 : decode cX11_reading 75 = .ok (.aload_n 0, 1) := by decide +kernel
theorem dX11_reading_76 : decode cX11_reading 76 = .ok (.dup, 1) := by decide +kernel
theorem dX11_reading_77 : decode cX11_reading 77 = .ok (.getfield 138, 3) := by decide +kernel
theorem dX11_reading_80 : decode cX11_reading 80 = .ok (.iconst 1, 1) := by decide +kernel
theorem dX11_reading_81 : decode cX11_reading 81 = .ok (.iadd, 1) := by decide +kernel
theorem dX11_reading_82 : decode cX11_reading 82 = .ok (.putfield 138, 3) := by decide +kernel
theorem dX11_reading_85 : decode cX11_reading 85 = .ok (.aload_n 0, 1) := by decide +kernel
theorem dX11_reading_86 : decode cX11_reading 86 = .ok (.getfield 138, 3) := by decide +kernel
theorem dX11_reading_89 : decode cX11_reading 89 = .ok (.iconst 1, 1) := by decide +kernel
theorem dX11_reading_90 : decode cX11_reading 90 = .ok (.isub, 1) := by decide +kernel
theorem dX11_reading_91 : decode cX11_reading 91 = .ok (.ireturn, 1) := by decide +kernel
set_option maxRecDepth 20000 in
theorem ggX11_back_X11_within : GoodIn wsX11_back wsX11_within := goodIn_r _ [5] (by decide +kernel) (by decide +kernel)
set_option maxRecDepth 20000 in
theorem gX11_back_X11_within : GoodIn wsX11_back (va_wsS RX11 83 yX11_within wsX11_within) := goodIn_app (goodIn_of _ (by decide +kernel)) ggX11_back_X11_within
theorem dX11_back_0 : decode cX11_back 0 = .ok (.iload_n 1, 1) := by decide +kernel
theorem dX11_back_1 : decode cX11_back 1 = .ok (.iconst 0, 1) := by decide +kernel
theorem dX11_back_2 : decode cX11_back 2 = .ok (.aload_n 0, 1) := by decide +kernel
theorem dX11_back_3 : decode cX11_back 3 = .ok (.getfield 138, 3) := by decide +kernel
theorem dX11_back_6 : decode cX11_back 6 = .ok (.invokestatic 83, 3) := by decide +kernel
theorem dX11_back_9 : decode cX11_back 9 = .ok (.ifCond .ne 6, 3) := by decide +kernel
theorem dX11_back_12 : decode cX11_back 12 = .ok (.bipush (-2), 2) := by decide +kernel
theorem dX11_back_14 : decode cX11_back 14 = .ok (.ireturn, 1) := by decide +kernel
theorem dX11_back_15 : decode cX11_back 15 = .ok (.aload_n 0, 1) := by decide +kernel
theorem dX11_back_16 : decode cX11_back 16 = .ok (.dup, 1) := by decide +kernel
theorem dX11_back_17 : decode cX11_back 17 = .ok (.getfield 138, 3) := by decide +kernel
theorem dX11_back_20 : decode cX11_back 20 = .ok (.iload_n 1, 1) := by decide +kernel
theorem dX11_back_21 : decode cX11_back 21 = .ok (.isub, 1) := by decide +kernel
theorem dX11_back_22 : decode cX11_back 22 = .ok (.putfield 138, 3) := by decide +kernel
theorem dX11_back_25 : decode cX11_back 25 = .ok (.aload_n 0, 1) := by decide +kernel
theorem dX11_back_26 : decode cX11_back 26 = .ok (.getfield 138, 3) := by decide +kernel
theorem dX11_back_29 : decode cX11_back 29 = .ok (.ireturn, 1) := by decide +kernel
set_option maxRecDepth 20000 in
theorem ggX11_areSo_X11_pullOf : GoodIn wsX11_areSo wsX11_pullOf := goodIn_r _ [9, 10, 11, 12, 13, 14, 15, 16, 17, 18, 19, 20, 21, 22, 23, 24, 25, 26, 27, 28, 29, 30, 31, 32, 33, 34, 35, 36, 37, 38, 39, 40, 41, 42, 43, 44, 45, 46, 47, 48, 49, 50, 51] (by decide +kernel) (by decide +kernel)
set_option maxRecDepth 20000 in
theorem gX11_areSo_X11_pullOf : GoodIn wsX11_areSo (wsV RX11 155 RX11 yX11_pullOf wsX11_pullOf) := goodIn_app (goodIn_of _ (by decide +kernel)) ggX11_areSo_X11_pullOf
theorem dX11_areSo_0 : decode cX11_areSo 0 = .ok (.iconst 0, 1) := by decide +kernel
theorem dX11_areSo_1 : decode cX11_areSo 1 = .ok (.istore_n 1, 1) := by decide +kernel
theorem dX11_areSo_2 : decode cX11_areSo 2 = .ok (.iload_n 1, 1) := by decide +kernel
theorem dX11_areSo_3 : decode cX11_areSo 3 = .ok (.aload_n 0, 1) := by decide +kernel
theorem dX11_areSo_4 : decode cX11_areSo 4 = .ok (.getfield 138, 3) := by decide +kernel
theorem dX11_areSo_7 : decode cX11_areSo 7 = .ok (.if_icmp .ge 37, 3) := by decide +kernel
theorem dX11_areSo_10 : decode cX11_areSo 10 = .ok (.aload_n 0, 1) := by decide +kernel
theorem dX11_areSo_11 : decode cX11_areSo 11 = .ok (.aload_n 0, 1) := by decide +kernel
theorem dX11_areSo_12 : decode cX11_areSo 12 = .ok (.getfield 68, 3) := by decide +kernel
theorem dX11_areSo_15 : decode cX11_areSo 15 = .ok (.iload_n 1, 1) := by decide +kernel
theorem dX11_areSo_16 : decode cX11_areSo 16 = .ok (.iaload, 1) := by decide +kernel
theorem dX11_areSo_17 : decode cX11_areSo 17 = .ok (.invokevirtual 155, 3) := by decide +kernel
theorem dX11_areSo_20 : decode cX11_areSo 20 = .ok (.aload_n 0, 1) := by decide +kernel
theorem dX11_areSo_21 : decode cX11_areSo 21 = .ok (.getfield 71, 3) := by decide +kernel
theorem dX11_areSo_24 : decode cX11_areSo 24 = .ok (.iload_n 1, 1) := by decide +kernel
theorem dX11_areSo_25 : decode cX11_areSo 25 = .ok (.iaload, 1) := by decide +kernel
theorem dX11_areSo_26 : decode cX11_areSo 26 = .ok (.imul, 1) := by decide +kernel
theorem dX11_areSo_27 : decode cX11_areSo 27 = .ok (.aload_n 0, 1) := by decide +kernel
theorem dX11_areSo_28 : decode cX11_areSo 28 = .ok (.getfield 74, 3) := by decide +kernel
theorem dX11_areSo_31 : decode cX11_areSo 31 = .ok (.iload_n 1, 1) := by decide +kernel
theorem dX11_areSo_32 : decode cX11_areSo 32 = .ok (.iaload, 1) := by decide +kernel
theorem dX11_areSo_33 : decode cX11_areSo 33 = .ok (.if_icmp .eq 5, 3) := by decide +kernel
theorem dX11_areSo_36 : decode cX11_areSo 36 = .ok (.iconst 0, 1) := by decide +kernel
theorem dX11_areSo_37 : decode cX11_areSo 37 = .ok (.ireturn, 1) := by decide +kernel
theorem dX11_areSo_38 : decode cX11_areSo 38 = .ok (.iinc 1 1, 3) := by decide +kernel
theorem dX11_areSo_41 : decode cX11_areSo 41 = .ok (.goto (-39), 3) := by decide +kernel
theorem dX11_areSo_44 : decode cX11_areSo 44 = .ok (.iconst 1, 1) := by decide +kernel
theorem dX11_areSo_45 : decode cX11_areSo 45 = .ok (.ireturn, 1) := by decide +kernel
set_option maxRecDepth 20000 in
theorem ggX11_loads_X11_isBatten : GoodIn wsX11_loads wsX11_isBatten := goodIn_r _ [6, 7, 22, 23, 24, 25, 26, 27, 28, 29, 30, 31, 32, 33, 34, 35, 36, 37, 38, 39, 40, 41, 42, 43, 44, 45, 46, 47, 48, 49, 50, 51, 52, 53, 54, 55, 56, 57, 58, 59, 60] (by decide +kernel) (by decide +kernel)
set_option maxRecDepth 20000 in
theorem gX11_loads_X11_isBatten : GoodIn wsX11_loads (wsV RX11 152 RX11 yX11_isBatten wsX11_isBatten) := goodIn_app (goodIn_of _ (by decide +kernel)) ggX11_loads_X11_isBatten
set_option maxRecDepth 20000 in
theorem ggX11_loads_X11_areSo : GoodIn wsX11_loads wsX11_areSo := goodIn_r _ [11, 12, 13, 14, 15, 16, 17, 18, 5, 19, 1, 20, 21, 22, 23, 24, 25, 26, 27, 28, 29, 30, 31, 32, 33, 34, 35, 36, 37, 38, 39, 40, 41, 42, 43, 44, 45, 46, 47, 48, 49, 50, 51, 52, 53, 54, 55, 56, 57, 58, 59, 60] (by decide +kernel) (by decide +kernel)
set_option maxRecDepth 20000 in
theorem gX11_loads_X11_areSo : GoodIn wsX11_loads (wsV RX11 256 RX11 yX11_areSo wsX11_areSo) := goodIn_app (goodIn_of _ (by decide +kernel)) ggX11_loads_X11_areSo
theorem dX11_loads_0 : decode cX11_loads 0 = .ok (.aload_n 0, 1) := by decide +kernel
theorem dX11_loads_1 : decode cX11_loads 1 = .ok (.iload_n 1, 1) := by decide +kernel
theorem dX11_loads_2 : decode cX11_loads 2 = .ok (.invokevirtual 152, 3) := by decide +kernel
theorem dX11_loads_5 : decode cX11_loads 5 = .ok (.ifCond .ne 5, 3) := by decide +kernel
theorem dX11_loads_8 : decode cX11_loads 8 = .ok (.iconst (-1), 1) := by decide +kernel
theorem dX11_loads_9 : decode cX11_loads 9 = .ok (.ireturn, 1) := by decide +kernel
theorem dX11_loads_10 : decode cX11_loads 10 = .ok (.aload_n 0, 1) := by decide +kernel
theorem dX11_loads_11 : decode cX11_loads 11 = .ok (.getfield 22, 3) := by decide +kernel
theorem dX11_loads_14 : decode cX11_loads 14 = .ok (.iload_n 1, 1) := by decide +kernel
theorem dX11_loads_15 : decode cX11_loads 15 = .ok (.iaload, 1) := by decide +kernel
theorem dX11_loads_16 : decode cX11_loads 16 = .ok (.istore_n 2, 1) := by decide +kernel
theorem dX11_loads_17 : decode cX11_loads 17 = .ok (.iconst 0, 1) := by decide +kernel
theorem dX11_loads_18 : decode cX11_loads 18 = .ok (.istore_n 3, 1) := by decide +kernel
theorem dX11_loads_19 : decode cX11_loads 19 = .ok (.iconst 0, 1) := by decide +kernel
theorem dX11_loads_20 : decode cX11_loads 20 = .ok (.istore 4, 2) := by decide +kernel
theorem dX11_loads_22 : decode cX11_loads 22 = .ok (.iload 4, 2) := by decide +kernel
theorem dX11_loads_24 : decode cX11_loads 24 = .ok (.bipush 9, 2) := by decide +kernel
theorem dX11_loads_26 : decode cX11_loads 26 = .ok (.if_icmp .gt 35, 3) := by decide +kernel
theorem dX11_loads_29 : decode cX11_loads 29 = .ok (.aload_n 0, 1) := by decide +kernel
theorem dX11_loads_30 : decode cX11_loads 30 = .ok (.getfield 22, 3) := by decide +kernel
theorem dX11_loads_33 : decode cX11_loads 33 = .ok (.iload_n 1, 1) := by decide +kernel
theorem dX11_loads_34 : decode cX11_loads 34 = .ok (.iload 4, 2) := by decide +kernel
theorem dX11_loads_36 : decode cX11_loads 36 = .ok (.iastore, 1) := by decide +kernel
theorem dX11_loads_37 : decode cX11_loads 37 = .ok (.iload_n 3, 1) := by decide +kernel
theorem dX11_loads_38 : decode cX11_loads 38 = .ok (.aload_n 0, 1) := by decide +kernel
theorem dX11_loads_39 : decode cX11_loads 39 = .ok (.invokevirtual 256, 3) := by decide +kernel
theorem dX11_loads_42 : decode cX11_loads 42 = .ok (.ifCond .eq 10, 3) := by decide +kernel
theorem dX11_loads_45 : decode cX11_loads 45 = .ok (.iconst 1, 1) := by decide +kernel
theorem dX11_loads_46 : decode cX11_loads 46 = .ok (.iload 4, 2) := by decide +kernel
theorem dX11_loads_48 : decode cX11_loads 48 = .ok (.ishl, 1) := by decide +kernel
theorem dX11_loads_49 : decode cX11_loads 49 = .ok (.goto 4, 3) := by decide +kernel
theorem dX11_loads_52 : decode cX11_loads 52 = .ok (.iconst 0, 1) := by decide +kernel
theorem dX11_loads_53 : decode cX11_loads 53 = .ok (.ior, 1) := by decide +kernel
theorem dX11_loads_54 : decode cX11_loads 54 = .ok (.istore_n 3, 1) := by decide +kernel
theorem dX11_loads_55 : decode cX11_loads 55 = .ok (.iinc 4 1, 3) := by decide +kernel
theorem dX11_loads_58 : decode cX11_loads 58 = .ok (.goto (-36), 3) := by decide +kernel
theorem dX11_loads_61 : decode cX11_loads 61 = .ok (.aload_n 0, 1) := by decide +kernel
theorem dX11_loads_62 : decode cX11_loads 62 = .ok (.getfield 22, 3) := by decide +kernel
theorem dX11_loads_65 : decode cX11_loads 65 = .ok (.iload_n 1, 1) := by decide +kernel
theorem dX11_loads_66 : decode cX11_loads 66 = .ok (.iload_n 2, 1) := by decide +kernel
theorem dX11_loads_67 : decode cX11_loads 67 = .ok (.iastore, 1) := by decide +kernel
theorem dX11_loads_68 : decode cX11_loads 68 = .ok (.iload_n 3, 1) := by decide +kernel
theorem dX11_loads_69 : decode cX11_loads 69 = .ok (.ireturn, 1) := by decide +kernel
set_option maxRecDepth 20000 in
theorem ggX11_weights_X11_isBatten : GoodIn wsX11_weights wsX11_isBatten := goodIn_r _ [6, 7, 22, 23, 24, 25, 26, 27, 28, 29, 30, 31, 32, 33, 34, 35, 36, 37, 38, 39, 40, 41, 42, 43, 44, 45, 46, 47, 48, 49, 50, 51, 52, 53, 54, 55, 56, 57, 58, 59, 60] (by decide +kernel) (by decide +kernel)
set_option maxRecDepth 20000 in
theorem gX11_weights_X11_isBatten : GoodIn wsX11_weights (wsV RX11 152 RX11 yX11_isBatten wsX11_isBatten) := goodIn_app (goodIn_of _ (by decide +kernel)) ggX11_weights_X11_isBatten
set_option maxRecDepth 20000 in
theorem ggX11_weights_X11_areSo : GoodIn wsX11_weights wsX11_areSo := goodIn_r _ [11, 12, 13, 14, 15, 16, 17, 18, 5, 19, 20, 1, 21, 22, 23, 24, 25, 26, 27, 28, 29, 30, 31, 32, 33, 34, 35, 36, 37, 38, 39, 40, 41, 42, 43, 44, 45, 46, 47, 48, 49, 50, 51, 52, 53, 54, 55, 56, 57, 58, 59, 60] (by decide +kernel) (by decide +kernel)
set_option maxRecDepth 20000 in
theorem gX11_weights_X11_areSo : GoodIn wsX11_weights (wsV RX11 256 RX11 yX11_areSo wsX11_areSo) := goodIn_app (goodIn_of _ (by decide +kernel)) ggX11_weights_X11_areSo
theorem dX11_weights_0 : decode cX11_weights 0 = .ok (.aload_n 0, 1) := by decide +kernel
theorem dX11_weights_1 : decode cX11_weights 1 = .ok (.iload_n 1, 1) := by decide +kernel
theorem dX11_weights_2 : decode cX11_weights 2 = .ok (.invokevirtual 152, 3) := by decide +kernel
theorem dX11_weights_5 : decode cX11_weights 5 = .ok (.ifCond .ne 5, 3) := by decide +kernel
theorem dX11_weights_8 : decode cX11_weights 8 = .ok (.iconst (-1), 1) := by decide +kernel
theorem dX11_weights_9 : decode cX11_weights 9 = .ok (.ireturn, 1) := by decide +kernel
theorem dX11_weights_10 : decode cX11_weights 10 = .ok (.aload_n 0, 1) := by decide +kernel
theorem dX11_weights_11 : decode cX11_weights 11 = .ok (.getfield 25, 3) := by decide +kernel
theorem dX11_weights_14 : decode cX11_weights 14 = .ok (.iload_n 1, 1) := by decide +kernel
theorem dX11_weights_15 : decode cX11_weights 15 = .ok (.iaload, 1) := by decide +kernel
theorem dX11_weights_16 : decode cX11_weights 16 = .ok (.istore_n 2, 1) := by decide +kernel
theorem dX11_weights_17 : decode cX11_weights 17 = .ok (.iconst 0, 1) := by decide +kernel
theorem dX11_weights_18 : decode cX11_weights 18 = .ok (.istore_n 3, 1) := by decide +kernel
theorem dX11_weights_19 : decode cX11_weights 19 = .ok (.iconst 0, 1) := by decide +kernel
theorem dX11_weights_20 : decode cX11_weights 20 = .ok (.istore 4, 2) := by decide +kernel
theorem dX11_weights_22 : decode cX11_weights 22 = .ok (.iload 4, 2) := by decide +kernel
theorem dX11_weights_24 : decode cX11_weights 24 = .ok (.bipush 9, 2) := by decide +kernel
theorem dX11_weights_26 : decode cX11_weights 26 = .ok (.if_icmp .gt 35, 3) := by decide +kernel
theorem dX11_weights_29 : decode cX11_weights 29 = .ok (.aload_n 0, 1) := by decide +kernel
theorem dX11_weights_30 : decode cX11_weights 30 = .ok (.getfield 25, 3) := by decide +kernel
theorem dX11_weights_33 : decode cX11_weights 33 = .ok (.iload_n 1, 1) := by decide +kernel
theorem dX11_weights_34 : decode cX11_weights 34 = .ok (.iload 4, 2) := by decide +kernel
theorem dX11_weights_36 : decode cX11_weights 36 = .ok (.iastore, 1) := by decide +kernel
theorem dX11_weights_37 : decode cX11_weights 37 = .ok (.iload_n 3, 1) := by decide +kernel
theorem dX11_weights_38 : decode cX11_weights 38 = .ok (.aload_n 0, 1) := by decide +kernel
theorem dX11_weights_39 : decode cX11_weights 39 = .ok (.invokevirtual 256, 3) := by decide +kernel
theorem dX11_weights_42 : decode cX11_weights 42 = .ok (.ifCond .eq 10, 3) := by decide +kernel
theorem dX11_weights_45 : decode cX11_weights 45 = .ok (.iconst 1, 1) := by decide +kernel
theorem dX11_weights_46 : decode cX11_weights 46 = .ok (.iload 4, 2) := by decide +kernel
theorem dX11_weights_48 : decode cX11_weights 48 = .ok (.ishl, 1) := by decide +kernel
theorem dX11_weights_49 : decode cX11_weights 49 = .ok (.goto 4, 3) := by decide +kernel
theorem dX11_weights_52 : decode cX11_weights 52 = .ok (.iconst 0, 1) := by decide +kernel
theorem dX11_weights_53 : decode cX11_weights 53 = .ok (.ior, 1) := by decide +kernel
theorem dX11_weights_54 : decode cX11_weights 54 = .ok (.istore_n 3, 1) := by decide +kernel
theorem dX11_weights_55 : decode cX11_weights 55 = .ok (.iinc 4 1, 3) := by decide +kernel
theorem dX11_weights_58 : decode cX11_weights 58 = .ok (.goto (-36), 3) := by decide +kernel
theorem dX11_weights_61 : decode cX11_weights 61 = .ok (.aload_n 0, 1) := by decide +kernel
theorem dX11_weights_62 : decode cX11_weights 62 = .ok (.getfield 25, 3) := by decide +kernel
theorem dX11_weights_65 : decode cX11_weights 65 = .ok (.iload_n 1, 1) := by decide +kernel
theorem dX11_weights_66 : decode cX11_weights 66 = .ok (.iload_n 2, 1) := by decide +kernel
theorem dX11_weights_67 : decode cX11_weights 67 = .ok (.iastore, 1) := by decide +kernel
theorem dX11_weights_68 : decode cX11_weights 68 = .ok (.iload_n 3, 1) := by decide +kernel
theorem dX11_weights_69 : decode cX11_weights 69 = .ok (.ireturn, 1) := by decide +kernel
set_option maxRecDepth 20000 in
theorem ggX11_kinds_X11_isBatten : GoodIn wsX11_kinds wsX11_isBatten := goodIn_r _ [6, 7, 22, 23, 24, 25, 26, 27, 28, 29, 30, 31, 32, 33, 34, 35, 36, 37, 38, 39, 40, 41, 42, 43, 44, 45, 46, 47, 48, 49, 50, 51, 52, 53, 54, 55, 56, 57, 58, 59, 60] (by decide +kernel) (by decide +kernel)
set_option maxRecDepth 20000 in
theorem gX11_kinds_X11_isBatten : GoodIn wsX11_kinds (wsV RX11 152 RX11 yX11_isBatten wsX11_isBatten) := goodIn_app (goodIn_of _ (by decide +kernel)) ggX11_kinds_X11_isBatten
set_option maxRecDepth 20000 in
theorem ggX11_kinds_X11_areSo : GoodIn wsX11_kinds wsX11_areSo := goodIn_r _ [11, 12, 13, 14, 15, 16, 17, 18, 5, 19, 20, 21, 1, 22, 23, 24, 25, 26, 27, 28, 29, 30, 31, 32, 33, 34, 35, 36, 37, 38, 39, 40, 41, 42, 43, 44, 45, 46, 47, 48, 49, 50, 51, 52, 53, 54, 55, 56, 57, 58, 59, 60] (by decide +kernel) (by decide +kernel)
set_option maxRecDepth 20000 in
theorem gX11_kinds_X11_areSo : GoodIn wsX11_kinds (wsV RX11 256 RX11 yX11_areSo wsX11_areSo) := goodIn_app (goodIn_of _ (by decide +kernel)) ggX11_kinds_X11_areSo
theorem dX11_kinds_0 : decode cX11_kinds 0 = .ok (.aload_n 0, 1) := by decide +kernel
theorem dX11_kinds_1 : decode cX11_kinds 1 = .ok (.iload_n 1, 1) := by decide +kernel
theorem dX11_kinds_2 : decode cX11_kinds 2 = .ok (.invokevirtual 152, 3) := by decide +kernel
theorem dX11_kinds_5 : decode cX11_kinds 5 = .ok (.ifCond .ne 5, 3) := by decide +kernel
theorem dX11_kinds_8 : decode cX11_kinds 8 = .ok (.iconst (-1), 1) := by decide +kernel
theorem dX11_kinds_9 : decode cX11_kinds 9 = .ok (.ireturn, 1) := by decide +kernel
theorem dX11_kinds_10 : decode cX11_kinds 10 = .ok (.aload_n 0, 1) := by decide +kernel
theorem dX11_kinds_11 : decode cX11_kinds 11 = .ok (.getfield 19, 3) := by decide +kernel
theorem dX11_kinds_14 : decode cX11_kinds 14 = .ok (.iload_n 1, 1) := by decide +kernel
theorem dX11_kinds_15 : decode cX11_kinds 15 = .ok (.iaload, 1) := by decide +kernel
theorem dX11_kinds_16 : decode cX11_kinds 16 = .ok (.istore_n 2, 1) := by decide +kernel
theorem dX11_kinds_17 : decode cX11_kinds 17 = .ok (.iconst 0, 1) := by decide +kernel
theorem dX11_kinds_18 : decode cX11_kinds 18 = .ok (.istore_n 3, 1) := by decide +kernel
theorem dX11_kinds_19 : decode cX11_kinds 19 = .ok (.iconst 0, 1) := by decide +kernel
theorem dX11_kinds_20 : decode cX11_kinds 20 = .ok (.istore 4, 2) := by decide +kernel
theorem dX11_kinds_22 : decode cX11_kinds 22 = .ok (.iload 4, 2) := by decide +kernel
theorem dX11_kinds_24 : decode cX11_kinds 24 = .ok (.iconst 3, 1) := by decide +kernel
theorem dX11_kinds_25 : decode cX11_kinds 25 = .ok (.if_icmp .ge 35, 3) := by decide +kernel
theorem dX11_kinds_28 : decode cX11_kinds 28 = .ok (.aload_n 0, 1) := by decide +kernel
theorem dX11_kinds_29 : decode cX11_kinds 29 = .ok (.getfield 19, 3) := by decide +kernel
theorem dX11_kinds_32 : decode cX11_kinds 32 = .ok (.iload_n 1, 1) := by decide +kernel
theorem dX11_kinds_33 : decode cX11_kinds 33 = .ok (.iload 4, 2) := by decide +kernel
theorem dX11_kinds_35 : decode cX11_kinds 35 = .ok (.iastore, 1) := by decide +kernel
theorem dX11_kinds_36 : decode cX11_kinds 36 = .ok (.iload_n 3, 1) := by decide +kernel
theorem dX11_kinds_37 : decode cX11_kinds 37 = .ok (.aload_n 0, 1) := by decide +kernel
theorem dX11_kinds_38 : decode cX11_kinds 38 = .ok (.invokevirtual 256, 3) := by decide +kernel
theorem dX11_kinds_41 : decode cX11_kinds 41 = .ok (.ifCond .eq 10, 3) := by decide +kernel
theorem dX11_kinds_44 : decode cX11_kinds 44 = .ok (.iconst 1, 1) := by decide +kernel
theorem dX11_kinds_45 : decode cX11_kinds 45 = .ok (.iload 4, 2) := by decide +kernel
theorem dX11_kinds_47 : decode cX11_kinds 47 = .ok (.ishl, 1) := by decide +kernel
theorem dX11_kinds_48 : decode cX11_kinds 48 = .ok (.goto 4, 3) := by decide +kernel
theorem dX11_kinds_51 : decode cX11_kinds 51 = .ok (.iconst 0, 1) := by decide +kernel
theorem dX11_kinds_52 : decode cX11_kinds 52 = .ok (.ior, 1) := by decide +kernel
theorem dX11_kinds_53 : decode cX11_kinds 53 = .ok (.istore_n 3, 1) := by decide +kernel
theorem dX11_kinds_54 : decode cX11_kinds 54 = .ok (.iinc 4 1, 3) := by decide +kernel
theorem dX11_kinds_57 : decode cX11_kinds 57 = .ok (.goto (-35), 3) := by decide +kernel
theorem dX11_kinds_60 : decode cX11_kinds 60 = .ok (.aload_n 0, 1) := by decide +kernel
theorem dX11_kinds_61 : decode cX11_kinds 61 = .ok (.getfield 19, 3) := by decide +kernel
theorem dX11_kinds_64 : decode cX11_kinds 64 = .ok (.iload_n 1, 1) := by decide +kernel
theorem dX11_kinds_65 : decode cX11_kinds 65 = .ok (.iload_n 2, 1) := by decide +kernel
theorem dX11_kinds_66 : decode cX11_kinds 66 = .ok (.iastore, 1) := by decide +kernel
theorem dX11_kinds_67 : decode cX11_kinds 67 = .ok (.iload_n 3, 1) := by decide +kernel
theorem dX11_kinds_68 : decode cX11_kinds 68 = .ok (.ireturn, 1) := by decide +kernel
theorem dX11_inLeastTerms_0 : decode cX11_inLeastTerms 0 = .ok (.lload_n 0, 1) := by decide +kernel
theorem dX11_inLeastTerms_1 : decode cX11_inLeastTerms 1 = .ok (.lstore 5, 2) := by decide +kernel
theorem dX11_inLeastTerms_3 : decode cX11_inLeastTerms 3 = .ok (.lload_n 2, 1) := by decide +kernel
theorem dX11_inLeastTerms_4 : decode cX11_inLeastTerms 4 = .ok (.lstore 7, 2) := by decide +kernel
theorem dX11_inLeastTerms_6 : decode cX11_inLeastTerms 6 = .ok (.lload 7, 2) := by decide +kernel
theorem dX11_inLeastTerms_8 : decode cX11_inLeastTerms 8 = .ok (.lconst 0, 1) := by decide +kernel
theorem dX11_inLeastTerms_9 : decode cX11_inLeastTerms 9 = .ok (.lcmp, 1) := by decide +kernel
theorem dX11_inLeastTerms_10 : decode cX11_inLeastTerms 10 = .ok (.ifCond .eq 21, 3) := by decide +kernel
theorem dX11_inLeastTerms_13 : decode cX11_inLeastTerms 13 = .ok (.lload 5, 2) := by decide +kernel
theorem dX11_inLeastTerms_15 : decode cX11_inLeastTerms 15 = .ok (.lload 7, 2) := by decide +kernel
theorem dX11_inLeastTerms_17 : decode cX11_inLeastTerms 17 = .ok (.lrem, 1) := by decide +kernel
theorem dX11_inLeastTerms_18 : decode cX11_inLeastTerms 18 = .ok (.lstore 9, 2) := by decide +kernel
theorem dX11_inLeastTerms_20 : decode cX11_inLeastTerms 20 = .ok (.lload 7, 2) := by decide +kernel
theorem dX11_inLeastTerms_22 : decode cX11_inLeastTerms 22 = .ok (.lstore 5, 2) := by decide +kernel
theorem dX11_inLeastTerms_24 : decode cX11_inLeastTerms 24 = .ok (.lload 9, 2) := by decide +kernel
theorem dX11_inLeastTerms_26 : decode cX11_inLeastTerms 26 = .ok (.lstore 7, 2) := by decide +kernel
theorem dX11_inLeastTerms_28 : decode cX11_inLeastTerms 28 = .ok (.goto (-22), 3) := by decide +kernel
theorem dX11_inLeastTerms_31 : decode cX11_inLeastTerms 31 = .ok (.iload 4, 2) := by decide +kernel
theorem dX11_inLeastTerms_33 : decode cX11_inLeastTerms 33 = .ok (.ifCond .ne 10, 3) := by decide +kernel
theorem dX11_inLeastTerms_36 : decode cX11_inLeastTerms 36 = .ok (.lload_n 0, 1) := by decide +kernel
theorem dX11_inLeastTerms_37 : decode cX11_inLeastTerms 37 = .ok (.lload 5, 2) := by decide +kernel
theorem dX11_inLeastTerms_39 : decode cX11_inLeastTerms 39 = .ok (.ldiv, 1) := by decide +kernel
theorem dX11_inLeastTerms_40 : decode cX11_inLeastTerms 40 = .ok (.goto 7, 3) := by decide +kernel
theorem dX11_inLeastTerms_43 : decode cX11_inLeastTerms 43 = .ok (.lload_n 2, 1) := by decide +kernel
theorem dX11_inLeastTerms_44 : decode cX11_inLeastTerms 44 = .ok (.lload 5, 2) := by decide +kernel
theorem dX11_inLeastTerms_46 : decode cX11_inLeastTerms 46 = .ok (.ldiv, 1) := by decide +kernel
theorem dX11_inLeastTerms_47 : decode cX11_inLeastTerms 47 = .ok (.lreturn, 1) := by decide +kernel
set_option maxRecDepth 20000 in
theorem ggX11_odds_X11_isBatten : GoodIn wsX11_odds wsX11_isBatten := goodIn_r _ [8, 2, 34, 35, 36, 37, 38, 39, 40, 41, 42, 43, 44, 45, 46, 47, 48, 49, 50, 51, 52, 53, 54, 55, 56, 57, 58, 59, 60, 61, 62, 63, 64, 65, 66, 67, 68, 69, 70, 71, 72] (by decide +kernel) (by decide +kernel)
set_option maxRecDepth 20000 in
theorem gX11_odds_X11_isBatten : GoodIn wsX11_odds (wsV RX11 152 RX11 yX11_isBatten wsX11_isBatten) := goodIn_app (goodIn_of _ (by decide +kernel)) ggX11_odds_X11_isBatten
set_option maxRecDepth 20000 in
theorem ggX11_odds_X11_within : GoodIn wsX11_odds wsX11_within := goodIn_r _ [11] (by decide +kernel) (by decide +kernel)
set_option maxRecDepth 20000 in
theorem gX11_odds_X11_within : GoodIn wsX11_odds (va_wsS RX11 83 yX11_within wsX11_within) := goodIn_app (goodIn_of _ (by decide +kernel)) ggX11_odds_X11_within
set_option maxRecDepth 20000 in
theorem ggX11_odds_X11_keepHeights : GoodIn wsX11_odds wsX11_keepHeights := goodIn_r _ [15, 16, 3, 34, 35, 36, 37, 38, 39, 40, 41, 42, 43, 44, 45, 46, 47, 48, 49, 50, 51, 52, 53, 54, 55, 56, 57, 58, 59, 60, 61, 62, 63, 64, 65, 66, 67, 68, 69, 70, 71, 72] (by decide +kernel) (by decide +kernel)
set_option maxRecDepth 20000 in
theorem gX11_odds_X11_keepHeights : GoodIn wsX11_odds (wsV RX11 219 RX11 yX11_keepHeights wsX11_keepHeights) := goodIn_app (goodIn_of _ (by decide +kernel)) ggX11_odds_X11_keepHeights
set_option maxRecDepth 20000 in
theorem ggX11_odds_X11_seenNow : GoodIn wsX11_odds wsX11_seenNow := goodIn_r _ [20, 21, 2, 22, 23, 24, 7, 25, 3, 26, 34, 35, 36, 37, 38, 39, 40, 41, 42, 43, 44, 45, 46, 47, 48, 49, 50, 51, 52, 53, 54, 55, 56, 57, 58, 59, 60, 61, 62, 63, 64, 65, 66, 67, 68, 69, 70, 71, 72] (by decide +kernel) (by decide +kernel)
set_option maxRecDepth 20000 in
theorem gX11_odds_X11_seenNow : GoodIn wsX11_odds (wsV RX11 161 RX11 yX11_seenNow wsX11_seenNow) := goodIn_app (goodIn_of _ (by decide +kernel)) ggX11_odds_X11_seenNow
set_option maxRecDepth 20000 in
theorem ggX11_odds_X11_putHeights : GoodIn wsX11_odds wsX11_putHeights := goodIn_r _ [30, 3, 16, 34, 35, 36, 37, 38, 39, 40, 41, 42, 43, 44, 45, 46, 47, 48, 49, 50, 51, 52, 53, 54, 55, 56, 57, 58, 59, 60, 61, 62, 63, 64, 65, 66, 67, 68, 69, 70, 71, 72] (by decide +kernel) (by decide +kernel)
set_option maxRecDepth 20000 in
theorem gX11_odds_X11_putHeights : GoodIn wsX11_odds (wsV RX11 228 RX11 yX11_putHeights wsX11_putHeights) := goodIn_app (goodIn_of _ (by decide +kernel)) ggX11_odds_X11_putHeights
set_option maxRecDepth 20000 in
theorem ggX11_odds_X11_inLeastTerms : GoodIn wsX11_odds wsX11_inLeastTerms := goodIn_r _ [33] (by decide +kernel) (by decide +kernel)
set_option maxRecDepth 20000 in
theorem gX11_odds_X11_inLeastTerms : GoodIn wsX11_odds (va_wsS RX11 259 yX11_inLeastTerms wsX11_inLeastTerms) := goodIn_app (goodIn_of _ (by decide +kernel)) ggX11_odds_X11_inLeastTerms
theorem dX11_odds_0 : decode cX11_odds 0 = .ok (.aload_n 0, 1) := by decide +kernel
theorem dX11_odds_1 : decode cX11_odds 1 = .ok (.iload_n 1, 1) := by decide +kernel
theorem dX11_odds_2 : decode cX11_odds 2 = .ok (.invokevirtual 152, 3) := by decide +kernel
theorem dX11_odds_5 : decode cX11_odds 5 = .ok (.ifCond .eq 12, 3) := by decide +kernel
theorem dX11_odds_8 : decode cX11_odds 8 = .ok (.iload_n 2, 1) := by decide +kernel
theorem dX11_odds_9 : decode cX11_odds 9 = .ok (.iconst 0, 1) := by decide +kernel
theorem dX11_odds_10 : decode cX11_odds 10 = .ok (.iconst 1, 1) := by decide +kernel
theorem dX11_odds_11 : decode cX11_odds 11 = .ok (.invokestatic 83, 3) := by decide +kernel
theorem dX11_odds_14 : decode cX11_odds 14 = .ok (.ifCond .ne 7, 3) := by decide +kernel
theorem dX11_odds_17 : decode cX11_odds 17 = .ok (.ldc2_w 81, 3) := by decide +kernel
theorem dX11_odds_20 : decode cX11_odds 20 = .ok (.lreturn, 1) := by decide +kernel
theorem dX11_odds_21 : decode cX11_odds 21 = .ok (.aload_n 0, 1) := by decide +kernel
theorem dX11_odds_22 : decode cX11_odds 22 = .ok (.invokevirtual 219, 3) := by decide +kernel
theorem dX11_odds_25 : decode cX11_odds 25 = .ok (.iconst 0, 1) := by decide +kernel
theorem dX11_odds_26 : decode cX11_odds 26 = .ok (.istore_n 3, 1) := by decide +kernel
theorem dX11_odds_27 : decode cX11_odds 27 = .ok (.iconst 0, 1) := by decide +kernel
theorem dX11_odds_28 : decode cX11_odds 28 = .ok (.istore 4, 2) := by decide +kernel
theorem dX11_odds_30 : decode cX11_odds 30 = .ok (.iload 4, 2) := by decide +kernel
theorem dX11_odds_32 : decode cX11_odds 32 = .ok (.iconst 1, 1) := by decide +kernel
theorem dX11_odds_33 : decode cX11_odds 33 = .ok (.aload_n 0, 1) := by decide +kernel
theorem dX11_odds_34 : decode cX11_odds 34 = .ok (.getfield 87, 3) := by decide +kernel
theorem dX11_odds_37 : decode cX11_odds 37 = .ok (.ishl, 1) := by decide +kernel
theorem dX11_odds_38 : decode cX11_odds 38 = .ok (.if_icmp .ge 62, 3) := by decide +kernel
theorem dX11_odds_41 : decode cX11_odds 41 = .ok (.iconst 0, 1) := by decide +kernel
theorem dX11_odds_42 : decode cX11_odds 42 = .ok (.istore 5, 2) := by decide +kernel
theorem dX11_odds_44 : decode cX11_odds 44 = .ok (.iload 5, 2) := by decide +kernel
theorem dX11_odds_46 : decode cX11_odds 46 = .ok (.aload_n 0, 1) := by decide +kernel
theorem dX11_odds_47 : decode cX11_odds 47 = .ok (.getfield 87, 3) := by decide +kernel
theorem dX11_odds_50 : decode cX11_odds 50 = .ok (.if_icmp .ge 33, 3) := by decide +kernel
theorem dX11_odds_53 : decode cX11_odds 53 = .ok (.aload_n 0, 1) := by decide +kernel
theorem dX11_odds_54 : decode cX11_odds 54 = .ok (.getfield 28, 3) := by decide +kernel
theorem dX11_odds_57 : decode cX11_odds 57 = .ok (.iload 5, 2) := by decide +kernel
theorem dX11_odds_59 : decode cX11_odds 59 = .ok (.iload 4, 2) := by decide +kernel
theorem dX11_odds_61 : decode cX11_odds 61 = .ok (.iload 5, 2) := by decide +kernel
theorem dX11_odds_63 : decode cX11_odds 63 = .ok (.ishr, 1) := by decide +kernel
theorem dX11_odds_64 : decode cX11_odds 64 = .ok (.iconst 1, 1) := by decide +kernel
theorem dX11_odds_65 : decode cX11_odds 65 = .ok (.iand, 1) := by decide +kernel
theorem dX11_odds_66 : decode cX11_odds 66 = .ok (.iconst 1, 1) := by decide +kernel
theorem dX11_odds_67 : decode cX11_odds 67 = .ok (.if_icmp .ne 8, 3) := by decide +kernel
theorem dX11_odds_70 : decode cX11_odds 70 = .ok (.bipush 9, 2) := by decide +kernel
theorem dX11_odds_72 : decode cX11_odds 72 = .ok (.goto 4, 3) := by decide +kernel
theorem dX11_odds_75 : decode cX11_odds 75 = .ok (.iconst 0, 1) := by decide +kernel
theorem dX11_odds_76 : decode cX11_odds 76 = .ok (.iastore, 1) := by decide +kernel
theorem dX11_odds_77 : decode cX11_odds 77 = .ok (.iinc 5 1, 3) := by decide +kernel
theorem dX11_odds_80 : decode cX11_odds 80 = .ok (.goto (-36), 3) := by decide +kernel
theorem dX11_odds_83 : decode cX11_odds 83 = .ok (.iload_n 3, 1) := by decide +kernel
theorem dX11_odds_84 : decode cX11_odds 84 = .ok (.aload_n 0, 1) := by decide +kernel
theorem dX11_odds_85 : decode cX11_odds 85 = .ok (.invokevirtual 161, 3) := by decide +kernel
theorem dX11_odds_88 : decode cX11_odds 88 = .ok (.iload_n 1, 1) := by decide +kernel
theorem dX11_odds_89 : decode cX11_odds 89 = .ok (.ishr, 1) := by decide +kernel
theorem dX11_odds_90 : decode cX11_odds 90 = .ok (.iconst 1, 1) := by decide +kernel
theorem dX11_odds_91 : decode cX11_odds 91 = .ok (.iand, 1) := by decide +kernel
theorem dX11_odds_92 : decode cX11_odds 92 = .ok (.iadd, 1) := by decide +kernel
theorem dX11_odds_93 : decode cX11_odds 93 = .ok (.istore_n 3, 1) := by decide +kernel
theorem dX11_odds_94 : decode cX11_odds 94 = .ok (.iinc 4 1, 3) := by decide +kernel
theorem dX11_odds_97 : decode cX11_odds 97 = .ok (.goto (-67), 3) := by decide +kernel
theorem dX11_odds_100 : decode cX11_odds 100 = .ok (.aload_n 0, 1) := by decide +kernel
theorem dX11_odds_101 : decode cX11_odds 101 = .ok (.invokevirtual 228, 3) := by decide +kernel
theorem dX11_odds_104 : decode cX11_odds 104 = .ok (.iload_n 3, 1) := by decide +kernel
theorem dX11_odds_105 : decode cX11_odds 105 = .ok (.i2l, 1) := by decide +kernel
theorem dX11_odds_106 : decode cX11_odds 106 = .ok (.lconst 1, 1) := by decide +kernel
theorem dX11_odds_107 : decode cX11_odds 107 = .ok (.aload_n 0, 1) := by decide +kernel
theorem dX11_odds_108 : decode cX11_odds 108 = .ok (.getfield 87, 3) := by decide +kernel
theorem dX11_odds_111 : decode cX11_odds 111 = .ok (.lshl, 1) := by decide +kernel
theorem dX11_odds_112 : decode cX11_odds 112 = .ok (.iload_n 2, 1) := by decide +kernel
theorem dX11_odds_113 : decode cX11_odds 113 = .ok (.invokestatic 259, 3) := by decide +kernel
theorem dX11_odds_116 : decode cX11_odds 116 = .ok (.lreturn, 1) := by decide +kernel
set_option maxRecDepth 20000 in
theorem ggX11_sheet_X11_isSheet : GoodIn wsX11_sheet wsX11_isSheet := goodIn_r _ [8, 9, 10, 7, 11] (by decide +kernel) (by decide +kernel)
set_option maxRecDepth 20000 in
theorem gX11_sheet_X11_isSheet : GoodIn wsX11_sheet (va_wsS RX11 93 yX11_isSheet wsX11_isSheet) := goodIn_app (goodIn_of _ (by decide +kernel)) ggX11_sheet_X11_isSheet
set_option maxRecDepth 20000 in
theorem ggX11_sheet_X11_isSort : GoodIn wsX11_sheet wsX11_isSort := goodIn_r _ [14, 9, 10, 7, 11] (by decide +kernel) (by decide +kernel)
set_option maxRecDepth 20000 in
theorem gX11_sheet_X11_isSort : GoodIn wsX11_sheet (va_wsS RX11 97 yX11_isSort wsX11_isSort) := goodIn_app (goodIn_of _ (by decide +kernel)) ggX11_sheet_X11_isSort
set_option maxRecDepth 20000 in
theorem ggX11_sheet_X11_fails : GoodIn wsX11_sheet wsX11_fails := goodIn_r _ [18, 1, 19, 20, 21, 22, 23, 24, 25, 26, 27, 28, 29, 30, 31, 32, 33, 34, 35, 36, 37, 38, 39, 40, 41, 42, 43, 44, 45, 46, 47, 48, 49, 50, 51, 52, 53, 54, 55, 56, 57] (by decide +kernel) (by decide +kernel)
set_option maxRecDepth 20000 in
theorem gX11_sheet_X11_fails : GoodIn wsX11_sheet (wsV RX11 104 RX11 yX11_fails wsX11_fails) := goodIn_app (goodIn_of _ (by decide +kernel)) ggX11_sheet_X11_fails
theorem dX11_sheet_0 : decode cX11_sheet 0 = .ok (.aload_n 0, 1) := by decide +kernel
theorem dX11_sheet_1 : decode cX11_sheet 1 = .ok (.iconst 0, 1) := by decide +kernel
theorem dX11_sheet_2 : decode cX11_sheet 2 = .ok (.putfield 77, 3) := by decide +kernel
theorem dX11_sheet_5 : decode cX11_sheet 5 = .ok (.iload_n 1, 1) := by decide +kernel
theorem dX11_sheet_6 : decode cX11_sheet 6 = .ok (.invokestatic 93, 3) := by decide +kernel
theorem dX11_sheet_9 : decode cX11_sheet 9 = .ok (.ifCond .ne 5, 3) := by decide +kernel
theorem dX11_sheet_12 : decode cX11_sheet 12 = .ok (.iconst (-1), 1) := by decide +kernel
theorem dX11_sheet_13 : decode cX11_sheet 13 = .ok (.ireturn, 1) := by decide +kernel
theorem dX11_sheet_14 : decode cX11_sheet 14 = .ok (.iload_n 2, 1) := by decide +kernel
theorem dX11_sheet_15 : decode cX11_sheet 15 = .ok (.invokestatic 97, 3) := by decide +kernel
theorem dX11_sheet_18 : decode cX11_sheet 18 = .ok (.ifCond .eq 9, 3) := by decide +kernel
theorem dX11_sheet_21 : decode cX11_sheet 21 = .ok (.iload_n 3, 1) := by decide +kernel
theorem dX11_sheet_22 : decode cX11_sheet 22 = .ok (.bipush 60, 2) := by decide +kernel
theorem dX11_sheet_24 : decode cX11_sheet 24 = .ok (.if_icmp .le 6, 3) := by decide +kernel
theorem dX11_sheet_27 : decode cX11_sheet 27 = .ok (.bipush (-2), 2) := by decide +kernel
theorem dX11_sheet_29 : decode cX11_sheet 29 = .ok (.ireturn, 1) := by decide +kernel
theorem dX11_sheet_30 : decode cX11_sheet 30 = .ok (.iload_n 3, 1) := by decide +kernel
theorem dX11_sheet_31 : decode cX11_sheet 31 = .ok (.ifCond .ge 9, 3) := by decide +kernel
theorem dX11_sheet_34 : decode cX11_sheet 34 = .ok (.aload_n 0, 1) := by decide +kernel
theorem dX11_sheet_35 : decode cX11_sheet 35 = .ok (.iconst 4, 1) := by decide +kernel
theorem dX11_sheet_36 : decode cX11_sheet 36 = .ok (.invokevirtual 104, 3) := by decide +kernel
theorem dX11_sheet_39 : decode cX11_sheet 39 = .ok (.ireturn, 1) := by decide +kernel
theorem dX11_sheet_40 : decode cX11_sheet 40 = .ok (.aload_n 0, 1) := by decide +kernel
theorem dX11_sheet_41 : decode cX11_sheet 41 = .ok (.getfield 9, 3) := by decide +kernel
theorem dX11_sheet_44 : decode cX11_sheet 44 = .ok (.iload_n 1, 1) := by decide +kernel
theorem dX11_sheet_45 : decode cX11_sheet 45 = .ok (.iload_n 2, 1) := by decide +kernel
theorem dX11_sheet_46 : decode cX11_sheet 46 = .ok (.iastore, 1) := by decide +kernel
theorem dX11_sheet_47 : decode cX11_sheet 47 = .ok (.aload_n 0, 1) := by decide +kernel
theorem dX11_sheet_48 : decode cX11_sheet 48 = .ok (.getfield 13, 3) := by decide +kernel
theorem dX11_sheet_51 : decode cX11_sheet 51 = .ok (.iload_n 1, 1) := by decide +kernel
theorem dX11_sheet_52 : decode cX11_sheet 52 = .ok (.iload_n 3, 1) := by decide +kernel
theorem dX11_sheet_53 : decode cX11_sheet 53 = .ok (.iastore, 1) := by decide +kernel
theorem dX11_sheet_54 : decode cX11_sheet 54 = .ok (.iconst 0, 1) := by decide +kernel
theorem dX11_sheet_55 : decode cX11_sheet 55 = .ok (.istore 4, 2) := by decide +kernel
theorem dX11_sheet_57 : decode cX11_sheet 57 = .ok (.iload 4, 2) := by decide +kernel
theorem dX11_sheet_59 : decode cX11_sheet 59 = .ok (.bipush 60, 2) := by decide +kernel
theorem dX11_sheet_61 : decode cX11_sheet 61 = .ok (.if_icmp .ge 22, 3) := by decide +kernel
theorem dX11_sheet_64 : decode cX11_sheet 64 = .ok (.aload_n 0, 1) := by decide +kernel
theorem dX11_sheet_65 : decode cX11_sheet 65 = .ok (.getfield 16, 3) := by decide +kernel
theorem dX11_sheet_68 : decode cX11_sheet 68 = .ok (.bipush 60, 2) := by decide +kernel
theorem dX11_sheet_70 : decode cX11_sheet 70 = .ok (.iload_n 1, 1) := by decide +kernel
theorem dX11_sheet_71 : decode cX11_sheet 71 = .ok (.imul, 1) := by decide +kernel
theorem dX11_sheet_72 : decode cX11_sheet 72 = .ok (.iload 4, 2) := by decide +kernel
theorem dX11_sheet_74 : decode cX11_sheet 74 = .ok (.iadd, 1) := by decide +kernel
theorem dX11_sheet_75 : decode cX11_sheet 75 = .ok (.iconst 0, 1) := by decide +kernel
theorem dX11_sheet_76 : decode cX11_sheet 76 = .ok (.iastore, 1) := by decide +kernel
theorem dX11_sheet_77 : decode cX11_sheet 77 = .ok (.iinc 4 1, 3) := by decide +kernel
theorem dX11_sheet_80 : decode cX11_sheet 80 = .ok (.goto (-23), 3) := by decide +kernel
theorem dX11_sheet_83 : decode cX11_sheet 83 = .ok (.iconst 1, 1) := by decide +kernel
theorem dX11_sheet_84 : decode cX11_sheet 84 = .ok (.ireturn, 1) := by decide +kernel
set_option maxRecDepth 20000 in
theorem ggX11_lose_X11_isSheet : GoodIn wsX11_lose wsX11_isSheet := goodIn_r _ [5, 6, 7, 4, 8] (by decide +kernel) (by decide +kernel)
set_option maxRecDepth 20000 in
theorem gX11_lose_X11_isSheet : GoodIn wsX11_lose (va_wsS RX11 93 yX11_isSheet wsX11_isSheet) := goodIn_app (goodIn_of _ (by decide +kernel)) ggX11_lose_X11_isSheet
theorem dX11_lose_0 : decode cX11_lose 0 = .ok (.iload_n 1, 1) := by decide +kernel
theorem dX11_lose_1 : decode cX11_lose 1 = .ok (.invokestatic 93, 3) := by decide +kernel
theorem dX11_lose_4 : decode cX11_lose 4 = .ok (.ifCond .ne 5, 3) := by decide +kernel
theorem dX11_lose_7 : decode cX11_lose 7 = .ok (.iconst (-1), 1) := by decide +kernel
theorem dX11_lose_8 : decode cX11_lose 8 = .ok (.ireturn, 1) := by decide +kernel
theorem dX11_lose_9 : decode cX11_lose 9 = .ok (.aload_n 0, 1) := by decide +kernel
theorem dX11_lose_10 : decode cX11_lose 10 = .ok (.getfield 9, 3) := by decide +kernel
theorem dX11_lose_13 : decode cX11_lose 13 = .ok (.iload_n 1, 1) := by decide +kernel
theorem dX11_lose_14 : decode cX11_lose 14 = .ok (.iaload, 1) := by decide +kernel
theorem dX11_lose_15 : decode cX11_lose 15 = .ok (.bipush (-9), 2) := by decide +kernel
theorem dX11_lose_17 : decode cX11_lose 17 = .ok (.if_icmp .ne 7, 3) := by decide +kernel
theorem dX11_lose_20 : decode cX11_lose 20 = .ok (.iconst 0, 1) := by decide +kernel
theorem dX11_lose_21 : decode cX11_lose 21 = .ok (.goto 4, 3) := by decide +kernel
theorem dX11_lose_24 : decode cX11_lose 24 = .ok (.iconst 1, 1) := by decide +kernel
theorem dX11_lose_25 : decode cX11_lose 25 = .ok (.istore_n 2, 1) := by decide +kernel
theorem dX11_lose_26 : decode cX11_lose 26 = .ok (.aload_n 0, 1) := by decide +kernel
theorem dX11_lose_27 : decode cX11_lose 27 = .ok (.getfield 9, 3) := by decide +kernel
theorem dX11_lose_30 : decode cX11_lose 30 = .ok (.iload_n 1, 1) := by decide +kernel
theorem dX11_lose_31 : decode cX11_lose 31 = .ok (.bipush (-9), 2) := by decide +kernel
theorem dX11_lose_33 : decode cX11_lose 33 = .ok (.iastore, 1) := by decide +kernel
theorem dX11_lose_34 : decode cX11_lose 34 = .ok (.iload_n 2, 1) := by decide +kernel
theorem dX11_lose_35 : decode cX11_lose 35 = .ok (.ireturn, 1) := by decide +kernel
set_option maxRecDepth 20000 in
theorem ggX11_put_X11_isSheet : GoodIn wsX11_put wsX11_isSheet := goodIn_r _ [8, 9, 10, 7, 11] (by decide +kernel) (by decide +kernel)
set_option maxRecDepth 20000 in
theorem gX11_put_X11_isSheet : GoodIn wsX11_put (va_wsS RX11 93 yX11_isSheet wsX11_isSheet) := goodIn_app (goodIn_of _ (by decide +kernel)) ggX11_put_X11_isSheet
set_option maxRecDepth 20000 in
theorem ggX11_put_X11_fails : GoodIn wsX11_put wsX11_fails := goodIn_r _ [15, 1, 16, 17, 18, 19, 20, 21, 22, 23, 24, 25, 26, 27, 28, 29, 30, 31, 32, 33, 34, 35, 36, 37, 38, 39, 40, 41, 42, 43, 44, 45, 46, 47, 48, 49, 50, 51, 52, 53, 54] (by decide +kernel) (by decide +kernel)
set_option maxRecDepth 20000 in
theorem gX11_put_X11_fails : GoodIn wsX11_put (wsV RX11 104 RX11 yX11_fails wsX11_fails) := goodIn_app (goodIn_of _ (by decide +kernel)) ggX11_put_X11_fails
set_option maxRecDepth 20000 in
theorem ggX11_put_X11_within : GoodIn wsX11_put wsX11_within := goodIn_r _ [11] (by decide +kernel) (by decide +kernel)
set_option maxRecDepth 20000 in
theorem gX11_put_X11_within : GoodIn wsX11_put (va_wsS RX11 83 yX11_within wsX11_within) := goodIn_app (goodIn_of _ (by decide +kernel)) ggX11_put_X11_within
theorem dX11_put_0 : decode cX11_put 0 = .ok (.aload_n 0, 1) := by decide +kernel
theorem dX11_put_1 : decode cX11_put 1 = .ok (.iconst 0, 1) := by decide +kernel
theorem dX11_put_2 : decode cX11_put 2 = .ok (.putfield 77, 3) := by decide +kernel
theorem dX11_put_5 : decode cX11_put 5 = .ok (.iload_n 1, 1) := by decide +kernel
theorem dX11_put_6 : decode cX11_put 6 = .ok (.invokestatic 93, 3) := by decide +kernel
theorem dX11_put_9 : decode cX11_put 9 = .ok (.ifCond .ne 5, 3) := by decide +kernel
theorem dX11_put_12 : decode cX11_put 12 = .ok (.iconst (-1), 1) := by decide +kernel
theorem dX11_put_13 : decode cX11_put 13 = .ok (.ireturn, 1) := by decide +kernel
theorem dX11_put_14 : decode cX11_put 14 = .ok (.aload_n 0, 1) := by decide +kernel
theorem dX11_put_15 : decode cX11_put 15 = .ok (.getfield 9, 3) := by decide +kernel
theorem dX11_put_18 : decode cX11_put 18 = .ok (.iload_n 1, 1) := by decide +kernel
theorem dX11_put_19 : decode cX11_put 19 = .ok (.iaload, 1) := by decide +kernel
theorem dX11_put_20 : decode cX11_put 20 = .ok (.bipush (-9), 2) := by decide +kernel
theorem dX11_put_22 : decode cX11_put 22 = .ok (.if_icmp .ne 9, 3) := by decide +kernel
theorem dX11_put_25 : decode cX11_put 25 = .ok (.aload_n 0, 1) := by decide +kernel
theorem dX11_put_26 : decode cX11_put 26 = .ok (.iconst 1, 1) := by decide +kernel
theorem dX11_put_27 : decode cX11_put 27 = .ok (.invokevirtual 104, 3) := by decide +kernel
theorem dX11_put_30 : decode cX11_put 30 = .ok (.ireturn, 1) := by decide +kernel
theorem dX11_put_31 : decode cX11_put 31 = .ok (.iload_n 2, 1) := by decide +kernel
theorem dX11_put_32 : decode cX11_put 32 = .ok (.iconst 0, 1) := by decide +kernel
theorem dX11_put_33 : decode cX11_put 33 = .ok (.aload_n 0, 1) := by decide +kernel
theorem dX11_put_34 : decode cX11_put 34 = .ok (.getfield 13, 3) := by decide +kernel
theorem dX11_put_37 : decode cX11_put 37 = .ok (.iload_n 1, 1) := by decide +kernel
theorem dX11_put_38 : decode cX11_put 38 = .ok (.iaload, 1) := by decide +kernel
theorem dX11_put_39 : decode cX11_put 39 = .ok (.iconst 1, 1) := by decide +kernel
theorem dX11_put_40 : decode cX11_put 40 = .ok (.isub, 1) := by decide +kernel
theorem dX11_put_41 : decode cX11_put 41 = .ok (.invokestatic 83, 3) := by decide +kernel
theorem dX11_put_44 : decode cX11_put 44 = .ok (.ifCond .ne 9, 3) := by decide +kernel
theorem dX11_put_47 : decode cX11_put 47 = .ok (.aload_n 0, 1) := by decide +kernel
theorem dX11_put_48 : decode cX11_put 48 = .ok (.iconst 3, 1) := by decide +kernel
theorem dX11_put_49 : decode cX11_put 49 = .ok (.invokevirtual 104, 3) := by decide +kernel
theorem dX11_put_52 : decode cX11_put 52 = .ok (.ireturn, 1) := by decide +kernel
theorem dX11_put_53 : decode cX11_put 53 = .ok (.aload_n 0, 1) := by decide +kernel
theorem dX11_put_54 : decode cX11_put 54 = .ok (.getfield 16, 3) := by decide +kernel
theorem dX11_put_57 : decode cX11_put 57 = .ok (.bipush 60, 2) := by decide +kernel
theorem dX11_put_59 : decode cX11_put 59 = .ok (.iload_n 1, 1) := by decide +kernel
theorem dX11_put_60 : decode cX11_put 60 = .ok (.imul, 1) := by decide +kernel
theorem dX11_put_61 : decode cX11_put 61 = .ok (.iload_n 2, 1) := by decide +kernel
theorem dX11_put_62 : decode cX11_put 62 = .ok (.iadd, 1) := by decide +kernel
theorem dX11_put_63 : decode cX11_put 63 = .ok (.aload_n 0, 1) := by decide +kernel
theorem dX11_put_64 : decode cX11_put 64 = .ok (.getfield 9, 3) := by decide +kernel
theorem dX11_put_67 : decode cX11_put 67 = .ok (.iload_n 1, 1) := by decide +kernel
theorem dX11_put_68 : decode cX11_put 68 = .ok (.iaload, 1) := by decide +kernel
theorem dX11_put_69 : decode cX11_put 69 = .ok (.ifCond .ne 8, 3) := by decide +kernel
theorem dX11_put_72 : decode cX11_put 72 = .ok (.iload_n 3, 1) := by decide +kernel
theorem dX11_put_73 : decode cX11_put 73 = .ok (.i2b, 1) := by decide +kernel
theorem dX11_put_74 : decode cX11_put 74 = .ok (.goto 19, 3) := by decide +kernel
theorem dX11_put_77 : decode cX11_put 77 = .ok (.aload_n 0, 1) := by decide +kernel
theorem dX11_put_78 : decode cX11_put 78 = .ok (.getfield 9, 3) := by decide +kernel
theorem dX11_put_81 : decode cX11_put 81 = .ok (.iload_n 1, 1) := by decide +kernel
theorem dX11_put_82 : decode cX11_put 82 = .ok (.iaload, 1) := by decide +kernel
theorem dX11_put_83 : decode cX11_put 83 = .ok (.iconst 1, 1) := by decide +kernel
theorem dX11_put_84 : decode cX11_put 84 = .ok (.if_icmp .ne 8, 3) := by decide +kernel
theorem dX11_put_87 : decode cX11_put 87 = .ok (.iload_n 3, 1) := by decide +kernel
theorem dX11_put_88 : decode cX11_put 88 = .ok (.i2s, 1) := by decide +kernel
theorem dX11_put_89 : decode cX11_put 89 = .ok (.goto 4, 3) := by decide +kernel
theorem dX11_put_92 : decode cX11_put 92 = .ok (.iload_n 3, 1) := by decide +kernel
theorem dX11_put_93 : decode cX11_put 93 = .ok (.iastore, 1) := by decide +kernel
theorem dX11_put_94 : decode cX11_put 94 = .ok (.iconst 1, 1) := by decide +kernel
theorem dX11_put_95 : decode cX11_put 95 = .ok (.ireturn, 1) := by decide +kernel
set_option maxRecDepth 20000 in
theorem ggX11_cell_X11_isSheet : GoodIn wsX11_cell wsX11_isSheet := goodIn_r _ [9, 10, 11, 8, 12] (by decide +kernel) (by decide +kernel)
set_option maxRecDepth 20000 in
theorem gX11_cell_X11_isSheet : GoodIn wsX11_cell (va_wsS RX11 93 yX11_isSheet wsX11_isSheet) := goodIn_app (goodIn_of _ (by decide +kernel)) ggX11_cell_X11_isSheet
set_option maxRecDepth 20000 in
theorem ggX11_cell_X11_isSort : GoodIn wsX11_cell wsX11_isSort := goodIn_r _ [15, 10, 11, 8, 12] (by decide +kernel) (by decide +kernel)
set_option maxRecDepth 20000 in
theorem gX11_cell_X11_isSort : GoodIn wsX11_cell (va_wsS RX11 97 yX11_isSort wsX11_isSort) := goodIn_app (goodIn_of _ (by decide +kernel)) ggX11_cell_X11_isSort
set_option maxRecDepth 20000 in
theorem ggX11_cell_X11_lost : GoodIn wsX11_cell wsX11_lost := goodIn_r _ [19, 1, 2, 20, 21, 22, 23, 24, 25, 26, 27, 28, 29, 30, 31, 32, 33, 34, 35, 36, 37, 38, 39, 40, 41, 42, 43, 44, 45, 46, 47, 48, 49, 50, 51, 52, 53, 54, 55, 56, 57, 58] (by decide +kernel) (by decide +kernel)
set_option maxRecDepth 20000 in
theorem gX11_cell_X11_lost : GoodIn wsX11_cell (wsV RX11 263 RX11 yX11_lost wsX11_lost) := goodIn_app (goodIn_of _ (by decide +kernel)) ggX11_cell_X11_lost
set_option maxRecDepth 20000 in
theorem ggX11_cell_X11_within : GoodIn wsX11_cell wsX11_within := goodIn_r _ [12] (by decide +kernel) (by decide +kernel)
set_option maxRecDepth 20000 in
theorem gX11_cell_X11_within : GoodIn wsX11_cell (va_wsS RX11 83 yX11_within wsX11_within) := goodIn_app (goodIn_of _ (by decide +kernel)) ggX11_cell_X11_within
theorem dX11_cell_0 : decode cX11_cell 0 = .ok (.aload_n 0, 1) := by decide +kernel
theorem dX11_cell_1 : decode cX11_cell 1 = .ok (.iconst 0, 1) := by decide +kernel
theorem dX11_cell_2 : decode cX11_cell 2 = .ok (.putfield 77, 3) := by decide +kernel
theorem dX11_cell_5 : decode cX11_cell 5 = .ok (.iload_n 1, 1) := by decide +kernel
theorem dX11_cell_6 : decode cX11_cell 6 = .ok (.invokestatic 93, 3) := by decide +kernel
theorem dX11_cell_9 : decode cX11_cell 9 = .ok (.ifCond .eq 10, 3) := by decide +kernel
theorem dX11_cell_12 : decode cX11_cell 12 = .ok (.iload_n 3, 1) := by decide +kernel
theorem dX11_cell_13 : decode cX11_cell 13 = .ok (.invokestatic 97, 3) := by decide +kernel
theorem dX11_cell_16 : decode cX11_cell 16 = .ok (.ifCond .ne 7, 3) := by decide +kernel
theorem dX11_cell_19 : decode cX11_cell 19 = .ok (.ldc2_w 81, 3) := by decide +kernel
theorem dX11_cell_22 : decode cX11_cell 22 = .ok (.lreturn, 1) := by decide +kernel
theorem dX11_cell_23 : decode cX11_cell 23 = .ok (.aload_n 0, 1) := by decide +kernel
theorem dX11_cell_24 : decode cX11_cell 24 = .ok (.getfield 9, 3) := by decide +kernel
theorem dX11_cell_27 : decode cX11_cell 27 = .ok (.iload_n 1, 1) := by decide +kernel
theorem dX11_cell_28 : decode cX11_cell 28 = .ok (.iaload, 1) := by decide +kernel
theorem dX11_cell_29 : decode cX11_cell 29 = .ok (.bipush (-9), 2) := by decide +kernel
theorem dX11_cell_31 : decode cX11_cell 31 = .ok (.if_icmp .eq 19, 3) := by decide +kernel
theorem dX11_cell_34 : decode cX11_cell 34 = .ok (.aload_n 0, 1) := by decide +kernel
theorem dX11_cell_35 : decode cX11_cell 35 = .ok (.getfield 9, 3) := by decide +kernel
theorem dX11_cell_38 : decode cX11_cell 38 = .ok (.iload_n 1, 1) := by decide +kernel
theorem dX11_cell_39 : decode cX11_cell 39 = .ok (.iaload, 1) := by decide +kernel
theorem dX11_cell_40 : decode cX11_cell 40 = .ok (.iload_n 3, 1) := by decide +kernel
theorem dX11_cell_41 : decode cX11_cell 41 = .ok (.if_icmp .eq 9, 3) := by decide +kernel
theorem dX11_cell_44 : decode cX11_cell 44 = .ok (.aload_n 0, 1) := by decide +kernel
theorem dX11_cell_45 : decode cX11_cell 45 = .ok (.iconst 2, 1) := by decide +kernel
theorem dX11_cell_46 : decode cX11_cell 46 = .ok (.invokevirtual 263, 3) := by decide +kernel
theorem dX11_cell_49 : decode cX11_cell 49 = .ok (.lreturn, 1) := by decide +kernel
theorem dX11_cell_50 : decode cX11_cell 50 = .ok (.aload_n 0, 1) := by decide +kernel
theorem dX11_cell_51 : decode cX11_cell 51 = .ok (.getfield 9, 3) := by decide +kernel
theorem dX11_cell_54 : decode cX11_cell 54 = .ok (.iload_n 1, 1) := by decide +kernel
theorem dX11_cell_55 : decode cX11_cell 55 = .ok (.iaload, 1) := by decide +kernel
theorem dX11_cell_56 : decode cX11_cell 56 = .ok (.bipush (-9), 2) := by decide +kernel
theorem dX11_cell_58 : decode cX11_cell 58 = .ok (.if_icmp .ne 9, 3) := by decide +kernel
theorem dX11_cell_61 : decode cX11_cell 61 = .ok (.aload_n 0, 1) := by decide +kernel
theorem dX11_cell_62 : decode cX11_cell 62 = .ok (.iconst 1, 1) := by decide +kernel
theorem dX11_cell_63 : decode cX11_cell 63 = .ok (.invokevirtual 263, 3) := by decide +kernel
theorem dX11_cell_66 : decode cX11_cell 66 = .ok (.lreturn, 1) := by decide +kernel
theorem dX11_cell_67 : decode cX11_cell 67 = .ok (.iload_n 2, 1) := by decide +kernel
theorem dX11_cell_68 : decode cX11_cell 68 = .ok (.iconst 0, 1) := by decide +kernel
theorem dX11_cell_69 : decode cX11_cell 69 = .ok (.aload_n 0, 1) := by decide +kernel
theorem dX11_cell_70 : decode cX11_cell 70 = .ok (.getfield 13, 3) := by decide +kernel
theorem dX11_cell_73 : decode cX11_cell 73 = .ok (.iload_n 1, 1) := by decide +kernel
theorem dX11_cell_74 : decode cX11_cell 74 = .ok (.iaload, 1) := by decide +kernel
theorem dX11_cell_75 : decode cX11_cell 75 = .ok (.iconst 1, 1) := by decide +kernel
theorem dX11_cell_76 : decode cX11_cell 76 = .ok (.isub, 1) := by decide +kernel
theorem dX11_cell_77 : decode cX11_cell 77 = .ok (.invokestatic 83, 3) := by decide +kernel
theorem dX11_cell_80 : decode cX11_cell 80 = .ok (.ifCond .ne 9, 3) := by decide +kernel
theorem dX11_cell_83 : decode cX11_cell 83 = .ok (.aload_n 0, 1) := by decide +kernel
theorem dX11_cell_84 : decode cX11_cell 84 = .ok (.iconst 3, 1) := by decide +kernel
theorem dX11_cell_85 : decode cX11_cell 85 = .ok (.invokevirtual 263, 3) := by decide +kernel
theorem dX11_cell_88 : decode cX11_cell 88 = .ok (.lreturn, 1) := by decide +kernel
theorem dX11_cell_89 : decode cX11_cell 89 = .ok (.aload_n 0, 1) := by decide +kernel
theorem dX11_cell_90 : decode cX11_cell 90 = .ok (.getfield 16, 3) := by decide +kernel
theorem dX11_cell_93 : decode cX11_cell 93 = .ok (.bipush 60, 2) := by decide +kernel
theorem dX11_cell_95 : decode cX11_cell 95 = .ok (.iload_n 1, 1) := by decide +kernel
theorem dX11_cell_96 : decode cX11_cell 96 = .ok (.imul, 1) := by decide +kernel
theorem dX11_cell_97 : decode cX11_cell 97 = .ok (.iload_n 2, 1) := by decide +kernel
theorem dX11_cell_98 : decode cX11_cell 98 = .ok (.iadd, 1) := by decide +kernel
theorem dX11_cell_99 : decode cX11_cell 99 = .ok (.iaload, 1) := by decide +kernel
theorem dX11_cell_100 : decode cX11_cell 100 = .ok (.i2l, 1) := by decide +kernel
theorem dX11_cell_101 : decode cX11_cell 101 = .ok (.lreturn, 1) := by decide +kernel
set_option maxRecDepth 20000 in
theorem ggX11_copy_X11_isSheet : GoodIn wsX11_copy wsX11_isSheet := goodIn_r _ [8, 9, 10, 7, 11] (by decide +kernel) (by decide +kernel)
set_option maxRecDepth 20000 in
theorem gX11_copy_X11_isSheet : GoodIn wsX11_copy (va_wsS RX11 93 yX11_isSheet wsX11_isSheet) := goodIn_app (goodIn_of _ (by decide +kernel)) ggX11_copy_X11_isSheet
set_option maxRecDepth 20000 in
theorem ggX11_copy_X11_fails : GoodIn wsX11_copy wsX11_fails := goodIn_r _ [15, 1, 16, 17, 18, 19, 20, 21, 22, 23, 24, 25, 26, 27, 28, 29, 30, 31, 32, 33, 34, 35, 36, 37, 38, 39, 40, 41, 42, 43, 44, 45, 46, 47, 48, 49, 50, 51, 52, 53, 54] (by decide +kernel) (by decide +kernel)
set_option maxRecDepth 20000 in
theorem gX11_copy_X11_fails : GoodIn wsX11_copy (wsV RX11 104 RX11 yX11_fails wsX11_fails) := goodIn_app (goodIn_of _ (by decide +kernel)) ggX11_copy_X11_fails
theorem dX11_copy_0 : decode cX11_copy 0 = .ok (.aload_n 0, 1) := by decide +kernel
theorem dX11_copy_1 : decode cX11_copy 1 = .ok (.iconst 0, 1) := by decide +kernel
theorem dX11_copy_2 : decode cX11_copy 2 = .ok (.putfield 77, 3) := by decide +kernel
theorem dX11_copy_5 : decode cX11_copy 5 = .ok (.iload_n 1, 1) := by decide +kernel
theorem dX11_copy_6 : decode cX11_copy 6 = .ok (.invokestatic 93, 3) := by decide +kernel
theorem dX11_copy_9 : decode cX11_copy 9 = .ok (.ifCond .eq 10, 3) := by decide +kernel
theorem dX11_copy_12 : decode cX11_copy 12 = .ok (.iload_n 3, 1) := by decide +kernel
theorem dX11_copy_13 : decode cX11_copy 13 = .ok (.invokestatic 93, 3) := by decide +kernel
theorem dX11_copy_16 : decode cX11_copy 16 = .ok (.ifCond .ne 5, 3) := by decide +kernel
theorem dX11_copy_19 : decode cX11_copy 19 = .ok (.iconst (-1), 1) := by decide +kernel
theorem dX11_copy_20 : decode cX11_copy 20 = .ok (.ireturn, 1) := by decide +kernel
theorem dX11_copy_21 : decode cX11_copy 21 = .ok (.aload_n 0, 1) := by decide +kernel
theorem dX11_copy_22 : decode cX11_copy 22 = .ok (.getfield 9, 3) := by decide +kernel
theorem dX11_copy_25 : decode cX11_copy 25 = .ok (.iload_n 1, 1) := by decide +kernel
theorem dX11_copy_26 : decode cX11_copy 26 = .ok (.iaload, 1) := by decide +kernel
theorem dX11_copy_27 : decode cX11_copy 27 = .ok (.bipush (-9), 2) := by decide +kernel
theorem dX11_copy_29 : decode cX11_copy 29 = .ok (.if_icmp .eq 14, 3) := by decide +kernel
theorem dX11_copy_32 : decode cX11_copy 32 = .ok (.aload_n 0, 1) := by decide +kernel
theorem dX11_copy_33 : decode cX11_copy 33 = .ok (.getfield 9, 3) := by decide +kernel
theorem dX11_copy_36 : decode cX11_copy 36 = .ok (.iload_n 3, 1) := by decide +kernel
theorem dX11_copy_37 : decode cX11_copy 37 = .ok (.iaload, 1) := by decide +kernel
theorem dX11_copy_38 : decode cX11_copy 38 = .ok (.bipush (-9), 2) := by decide +kernel
theorem dX11_copy_40 : decode cX11_copy 40 = .ok (.if_icmp .ne 9, 3) := by decide +kernel
theorem dX11_copy_43 : decode cX11_copy 43 = .ok (.aload_n 0, 1) := by decide +kernel
theorem dX11_copy_44 : decode cX11_copy 44 = .ok (.iconst 1, 1) := by decide +kernel
theorem dX11_copy_45 : decode cX11_copy 45 = .ok (.invokevirtual 104, 3) := by decide +kernel
theorem dX11_copy_48 : decode cX11_copy 48 = .ok (.ireturn, 1) := by decide +kernel
theorem dX11_copy_49 : decode cX11_copy 49 = .ok (.aload_n 0, 1) := by decide +kernel
theorem dX11_copy_50 : decode cX11_copy 50 = .ok (.getfield 9, 3) := by decide +kernel
theorem dX11_copy_53 : decode cX11_copy 53 = .ok (.iload_n 1, 1) := by decide +kernel
theorem dX11_copy_54 : decode cX11_copy 54 = .ok (.iaload, 1) := by decide +kernel
theorem dX11_copy_55 : decode cX11_copy 55 = .ok (.aload_n 0, 1) := by decide +kernel
theorem dX11_copy_56 : decode cX11_copy 56 = .ok (.getfield 9, 3) := by decide +kernel
theorem dX11_copy_59 : decode cX11_copy 59 = .ok (.iload_n 3, 1) := by decide +kernel
theorem dX11_copy_60 : decode cX11_copy 60 = .ok (.iaload, 1) := by decide +kernel
theorem dX11_copy_61 : decode cX11_copy 61 = .ok (.if_icmp .eq 9, 3) := by decide +kernel
theorem dX11_copy_64 : decode cX11_copy 64 = .ok (.aload_n 0, 1) := by decide +kernel
theorem dX11_copy_65 : decode cX11_copy 65 = .ok (.iconst 2, 1) := by decide +kernel
theorem dX11_copy_66 : decode cX11_copy 66 = .ok (.invokevirtual 104, 3) := by decide +kernel
theorem dX11_copy_69 : decode cX11_copy 69 = .ok (.ireturn, 1) := by decide +kernel
theorem dX11_copy_70 : decode cX11_copy 70 = .ok (.iload_n 2, 1) := by decide +kernel
theorem dX11_copy_71 : decode cX11_copy 71 = .ok (.ifCond .lt 38, 3) := by decide +kernel
theorem dX11_copy_74 : decode cX11_copy 74 = .ok (.iload 4, 2) := by decide +kernel
theorem dX11_copy_76 : decode cX11_copy 76 = .ok (.ifCond .lt 33, 3) := by decide +kernel
theorem dX11_copy_79 : decode cX11_copy 79 = .ok (.iload 5, 2) := by decide +kernel
theorem dX11_copy_81 : decode cX11_copy 81 = .ok (.ifCond .lt 28, 3) := by decide +kernel
theorem dX11_copy_84 : decode cX11_copy 84 = .ok (.iload_n 2, 1) := by decide +kernel
theorem dX11_copy_85 : decode cX11_copy 85 = .ok (.aload_n 0, 1) := by decide +kernel
theorem dX11_copy_86 : decode cX11_copy 86 = .ok (.getfield 13, 3) := by decide +kernel
theorem dX11_copy_89 : decode cX11_copy 89 = .ok (.iload_n 1, 1) := by decide +kernel
theorem dX11_copy_90 : decode cX11_copy 90 = .ok (.iaload, 1) := by decide +kernel
theorem dX11_copy_91 : decode cX11_copy 91 = .ok (.if_icmp .gt 18, 3) := by decide +kernel
theorem dX11_copy_94 : decode cX11_copy 94 = .ok (.iload 4, 2) := by decide +kernel
theorem dX11_copy_96 : decode cX11_copy 96 = .ok (.aload_n 0, 1) := by decide +kernel
theorem dX11_copy_97 : decode cX11_copy 97 = .ok (.getfield 13, 3) := by decide +kernel
theorem dX11_copy_100 : decode cX11_copy 100 = .ok (.iload_n 3, 1) := by decide +kernel
theorem dX11_copy_101 : decode cX11_copy 101 = .ok (.iaload, 1) := by decide +kernel
theorem dX11_copy_102 : decode cX11_copy 102 = .ok (.if_icmp .gt 7, 3) := by decide +kernel
theorem dX11_copy_105 : decode cX11_copy 105 = .ok (.iconst 1, 1) := by decide +kernel
theorem dX11_copy_106 : decode cX11_copy 106 = .ok (.goto 4, 3) := by decide +kernel
theorem dX11_copy_109 : decode cX11_copy 109 = .ok (.iconst 0, 1) := by decide +kernel
theorem dX11_copy_110 : decode cX11_copy 110 = .ok (.istore 6, 2) := by decide +kernel
theorem dX11_copy_112 : decode cX11_copy 112 = .ok (.iload 6, 2) := by decide +kernel
theorem dX11_copy_114 : decode cX11_copy 114 = .ok (.ifCond .eq 30, 3) := by decide +kernel
theorem dX11_copy_117 : decode cX11_copy 117 = .ok (.iload 5, 2) := by decide +kernel
theorem dX11_copy_119 : decode cX11_copy 119 = .ok (.aload_n 0, 1) := by decide +kernel
theorem dX11_copy_120 : decode cX11_copy 120 = .ok (.getfield 13, 3) := by decide +kernel
theorem dX11_copy_123 : decode cX11_copy 123 = .ok (.iload_n 1, 1) := by decide +kernel
theorem dX11_copy_124 : decode cX11_copy 124 = .ok (.iaload, 1) := by decide +kernel
theorem dX11_copy_125 : decode cX11_copy 125 = .ok (.iload_n 2, 1) := by decide +kernel
theorem dX11_copy_126 : decode cX11_copy 126 = .ok (.isub, 1) := by decide +kernel
theorem dX11_copy_127 : decode cX11_copy 127 = .ok (.if_icmp .gt 17, 3) := by decide +kernel
theorem dX11_copy_130 : decode cX11_copy 130 = .ok (.iload 5, 2) := by decide +kernel
theorem dX11_copy_132 : decode cX11_copy 132 = .ok (.aload_n 0, 1) := by decide +kernel
theorem dX11_copy_133 : decode cX11_copy 133 = .ok (.getfield 13, 3) := by decide +kernel
theorem dX11_copy_136 : decode cX11_copy 136 = .ok (.iload_n 3, 1) := by decide +kernel
theorem dX11_copy_137 : decode cX11_copy 137 = .ok (.iaload, 1) := by decide +kernel
theorem dX11_copy_138 : decode cX11_copy 138 = .ok (.iload 4, 2) := by decide +kernel
theorem dX11_copy_140 : decode cX11_copy 140 = .ok (.isub, 1) := by decide +kernel
theorem dX11_copy_141 : decode cX11_copy 141 = .ok (.if_icmp .le 9, 3) := by decide +kernel
theorem dX11_copy_144 : decode cX11_copy 144 = .ok (.aload_n 0, 1) := by decide +kernel
theorem dX11_copy_145 : decode cX11_copy 145 = .ok (.iconst 3, 1) := by decide +kernel
theorem dX11_copy_146 : decode cX11_copy 146 = .ok (.invokevirtual 104, 3) := by decide +kernel
theorem dX11_copy_149 : decode cX11_copy 149 = .ok (.ireturn, 1) := by decide +kernel
theorem dX11_copy_150 : decode cX11_copy 150 = .ok (.iload_n 2, 1) := by decide +kernel
theorem dX11_copy_151 : decode cX11_copy 151 = .ok (.iload 4, 2) := by decide +kernel
theorem dX11_copy_153 : decode cX11_copy 153 = .ok (.if_icmp .ge 7, 3) := by decide +kernel
theorem dX11_copy_156 : decode cX11_copy 156 = .ok (.iconst 1, 1) := by decide +kernel
theorem dX11_copy_157 : decode cX11_copy 157 = .ok (.goto 4, 3) := by decide +kernel
theorem dX11_copy_160 : decode cX11_copy 160 = .ok (.iconst 0, 1) := by decide +kernel
theorem dX11_copy_161 : decode cX11_copy 161 = .ok (.istore 7, 2) := by decide +kernel
theorem dX11_copy_163 : decode cX11_copy 163 = .ok (.iconst 0, 1) := by decide +kernel
theorem dX11_copy_164 : decode cX11_copy 164 = .ok (.istore 8, 2) := by decide +kernel
theorem dX11_copy_166 : decode cX11_copy 166 = .ok (.iload 8, 2) := by decide +kernel
theorem dX11_copy_168 : decode cX11_copy 168 = .ok (.iload 5, 2) := by decide +kernel
theorem dX11_copy_170 : decode cX11_copy 170 = .ok (.if_icmp .ge 57, 3) := by decide +kernel
theorem dX11_copy_173 : decode cX11_copy 173 = .ok (.iload 7, 2) := by decide +kernel
theorem dX11_copy_175 : decode cX11_copy 175 = .ok (.ifCond .eq 13, 3) := by decide +kernel
theorem dX11_copy_178 : decode cX11_copy 178 = .ok (.iload 5, 2) := by decide +kernel
theorem dX11_copy_180 : decode cX11_copy 180 = .ok (.iconst 1, 1) := by decide +kernel
theorem dX11_copy_181 : decode cX11_copy 181 = .ok (.isub, 1) := by decide +kernel
theorem dX11_copy_182 : decode cX11_copy 182 = .ok (.iload 8, 2) := by decide +kernel
theorem dX11_copy_184 : decode cX11_copy 184 = .ok (.isub, 1) := by decide +kernel
theorem dX11_copy_185 : decode cX11_copy 185 = .ok (.goto 5, 3) := by decide +kernel
theorem dX11_copy_188 : decode cX11_copy 188 = .ok (.iload 8, 2) := by decide +kernel
theorem dX11_copy_190 : decode cX11_copy 190 = .ok (.istore 9, 2) := by decide +kernel
theorem dX11_copy_192 : decode cX11_copy 192 = .ok (.aload_n 0, 1) := by decide +kernel
theorem dX11_copy_193 : decode cX11_copy 193 = .ok (.getfield 16, 3) := by decide +kernel
theorem dX11_copy_196 : decode cX11_copy 196 = .ok (.bipush 60, 2) := by decide +kernel
theorem dX11_copy_198 : decode cX11_copy 198 = .ok (.iload_n 3, 1) := by decide +kernel
theorem dX11_copy_199 : decode cX11_copy 199 = .ok (.imul, 1) := by decide +kernel
theorem dX11_copy_200 : decode cX11_copy 200 = .ok (.iload 4, 2) := by decide +kernel
theorem dX11_copy_202 : decode cX11_copy 202 = .ok (.iadd, 1) := by decide +kernel
theorem dX11_copy_203 : decode cX11_copy 203 = .ok (.iload 9, 2) := by decide +kernel
theorem dX11_copy_205 : decode cX11_copy 205 = .ok (.iadd, 1) := by decide +kernel
theorem dX11_copy_206 : decode cX11_copy 206 = .ok (.aload_n 0, 1) := by decide +kernel
theorem dX11_copy_207 : decode cX11_copy 207 = .ok (.getfield 16, 3) := by decide +kernel
theorem dX11_copy_210 : decode cX11_copy 210 = .ok (.bipush 60, 2) := by decide +kernel
theorem dX11_copy_212 : decode cX11_copy 212 = .ok (.iload_n 1, 1) := by decide +kernel
theorem dX11_copy_213 : decode cX11_copy 213 = .ok (.imul, 1) := by decide +kernel
theorem dX11_copy_214 : decode cX11_copy 214 = .ok (.iload_n 2, 1) := by decide +kernel
theorem dX11_copy_215 : decode cX11_copy 215 = .ok (.iadd, 1) := by decide +kernel
theorem dX11_copy_216 : decode cX11_copy 216 = .ok (.iload 9, 2) := by decide +kernel
theorem dX11_copy_218 : decode cX11_copy 218 = .ok (.iadd, 1) := by decide +kernel
theorem dX11_copy_219 : decode cX11_copy 219 = .ok (.iaload, 1) := by decide +kernel
theorem dX11_copy_220 : decode cX11_copy 220 = .ok (.iastore, 1) := by decide +kernel
theorem dX11_copy_221 : decode cX11_copy 221 = .ok (.iinc 8 1, 3) := by decide +kernel
theorem dX11_copy_224 : decode cX11_copy 224 = .ok (.goto (-58), 3) := by decide +kernel
theorem dX11_copy_227 : decode cX11_copy 227 = .ok (.iload 5, 2) := by decide +kernel
theorem dX11_copy_229 : decode cX11_copy 229 = .ok (.ireturn, 1) := by decide +kernel
theorem dX11_begins_0 : decode cX11_begins 0 = .ok (.aload_n 0, 1) := by decide +kernel
theorem dX11_begins_1 : decode cX11_begins 1 = .ok (.bipush 31, 2) := by decide +kernel
theorem dX11_begins_3 : decode cX11_begins 3 = .ok (.aload_n 0, 1) := by decide +kernel
theorem dX11_begins_4 : decode cX11_begins 4 = .ok (.getfield 267, 3) := by decide +kernel
theorem dX11_begins_7 : decode cX11_begins 7 = .ok (.imul, 1) := by decide +kernel
theorem dX11_begins_8 : decode cX11_begins 8 = .ok (.iload_n 1, 1) := by decide +kernel
theorem dX11_begins_9 : decode cX11_begins 9 = .ok (.iadd, 1) := by decide +kernel
theorem dX11_begins_10 : decode cX11_begins 10 = .ok (.putfield 267, 3) := by decide +kernel
theorem dX11_begins_13 : decode cX11_begins 13 = .ok (.return_, 1) := by decide +kernel
set_option maxRecDepth 20000 in
theorem ggX11_tell_X11_isBatten : GoodIn wsX11_tell wsX11_isBatten := goodIn_r _ [7, 8, 14, 15, 16, 17, 18, 19, 20, 21, 22, 23, 24, 25, 26, 27, 28, 29, 30, 31, 32, 33, 34, 35, 36, 37, 38, 39, 40, 41, 42, 43, 44, 45, 46, 47, 48, 49, 50, 51, 52] (by decide +kernel) (by decide +kernel)
set_option maxRecDepth 20000 in
theorem gX11_tell_X11_isBatten : GoodIn wsX11_tell (wsV RX11 152 RX11 yX11_isBatten wsX11_isBatten) := goodIn_app (goodIn_of _ (by decide +kernel)) ggX11_tell_X11_isBatten
set_option maxRecDepth 20000 in
theorem ggX11_tell_X11_begins : GoodIn wsX11_tell wsX11_begins := goodIn_r _ [12, 13, 14, 15, 16, 17, 18, 19, 20, 21, 22, 23, 24, 25, 26, 27, 28, 29, 30, 31, 32, 33, 34, 35, 36, 37, 38, 39, 40, 41, 42, 43, 44, 45, 46, 47, 48, 49, 50, 51, 52] (by decide +kernel) (by decide +kernel)
set_option maxRecDepth 20000 in
theorem gX11_tell_X11_begins : GoodIn wsX11_tell (wsV RX11 270 RX11 yX11_begins wsX11_begins) := goodIn_app (goodIn_of _ (by decide +kernel)) ggX11_tell_X11_begins
theorem dX11_tell_0 : decode cX11_tell 0 = .ok (.aload_n 0, 1) := by decide +kernel
theorem dX11_tell_1 : decode cX11_tell 1 = .ok (.iload_n 1, 1) := by decide +kernel
theorem dX11_tell_2 : decode cX11_tell 2 = .ok (.invokevirtual 152, 3) := by decide +kernel
theorem dX11_tell_5 : decode cX11_tell 5 = .ok (.ifCond .ne 5, 3) := by decide +kernel
theorem dX11_tell_8 : decode cX11_tell 8 = .ok (.iconst (-1), 1) := by decide +kernel
theorem dX11_tell_9 : decode cX11_tell 9 = .ok (.ireturn, 1) := by decide +kernel
theorem dX11_tell_10 : decode cX11_tell 10 = .ok (.aload_n 0, 1) := by decide +kernel
theorem dX11_tell_11 : decode cX11_tell 11 = .ok (.getfield 22, 3) := by decide +kernel
theorem dX11_tell_14 : decode cX11_tell 14 = .ok (.iload_n 1, 1) := by decide +kernel
theorem dX11_tell_15 : decode cX11_tell 15 = .ok (.iaload, 1) := by decide +kernel
theorem dX11_tell_16 : decode cX11_tell 16 = .ok (.istore_n 2, 1) := by decide +kernel
theorem dX11_tell_17 : decode cX11_tell 17 = .ok (.aload_n 0, 1) := by decide +kernel
theorem dX11_tell_18 : decode cX11_tell 18 = .ok (.getfield 19, 3) := by decide +kernel
theorem dX11_tell_21 : decode cX11_tell 21 = .ok (.iload_n 1, 1) := by decide +kernel
theorem dX11_tell_22 : decode cX11_tell 22 = .ok (.iaload, 1) := by decide +kernel
theorem dX11_tell_23 : decode cX11_tell 23 = .ok (.lookupswitch 67 #[(1, 25), (2, 40)], 25) := by decide +kernel
theorem dX11_tell_48 : decode cX11_tell 48 = .ok (.aload_n 0, 1) := by decide +kernel
theorem dX11_tell_49 : decode cX11_tell 49 = .ok (.iconst 2, 1) := by decide +kernel
theorem dX11_tell_50 : decode cX11_tell 50 = .ok (.invokevirtual 270, 3) := by decide +kernel
theorem dX11_tell_53 : decode cX11_tell 53 = .ok (.aload_n 0, 1) := by decide +kernel
theorem dX11_tell_54 : decode cX11_tell 54 = .ok (.iconst 1, 1) := by decide +kernel
theorem dX11_tell_55 : decode cX11_tell 55 = .ok (.invokevirtual 270, 3) := by decide +kernel
theorem dX11_tell_58 : decode cX11_tell 58 = .ok (.iload_n 2, 1) := by decide +kernel
theorem dX11_tell_59 : decode cX11_tell 59 = .ok (.bipush 100, 2) := by decide +kernel
theorem dX11_tell_61 : decode cX11_tell 61 = .ok (.iadd, 1) := by decide +kernel
theorem dX11_tell_62 : decode cX11_tell 62 = .ok (.ireturn, 1) := by decide +kernel
theorem dX11_tell_63 : decode cX11_tell 63 = .ok (.aload_n 0, 1) := by decide +kernel
theorem dX11_tell_64 : decode cX11_tell 64 = .ok (.iconst 3, 1) := by decide +kernel
theorem dX11_tell_65 : decode cX11_tell 65 = .ok (.invokevirtual 270, 3) := by decide +kernel
theorem dX11_tell_68 : decode cX11_tell 68 = .ok (.aload_n 0, 1) := by decide +kernel
theorem dX11_tell_69 : decode cX11_tell 69 = .ok (.iconst 2, 1) := by decide +kernel
theorem dX11_tell_70 : decode cX11_tell 70 = .ok (.invokevirtual 270, 3) := by decide +kernel
theorem dX11_tell_73 : decode cX11_tell 73 = .ok (.aload_n 0, 1) := by decide +kernel
theorem dX11_tell_74 : decode cX11_tell 74 = .ok (.iconst 1, 1) := by decide +kernel
theorem dX11_tell_75 : decode cX11_tell 75 = .ok (.invokevirtual 270, 3) := by decide +kernel
theorem dX11_tell_78 : decode cX11_tell 78 = .ok (.aload_n 0, 1) := by decide +kernel
theorem dX11_tell_79 : decode cX11_tell 79 = .ok (.iconst 1, 1) := by decide +kernel
theorem dX11_tell_80 : decode cX11_tell 80 = .ok (.invokevirtual 270, 3) := by decide +kernel
theorem dX11_tell_83 : decode cX11_tell 83 = .ok (.iconst 2, 1) := by decide +kernel
theorem dX11_tell_84 : decode cX11_tell 84 = .ok (.iload_n 2, 1) := by decide +kernel
theorem dX11_tell_85 : decode cX11_tell 85 = .ok (.imul, 1) := by decide +kernel
theorem dX11_tell_86 : decode cX11_tell 86 = .ok (.bipush 100, 2) := by decide +kernel
theorem dX11_tell_88 : decode cX11_tell 88 = .ok (.iadd, 1) := by decide +kernel
theorem dX11_tell_89 : decode cX11_tell 89 = .ok (.ireturn, 1) := by decide +kernel
theorem dX11_tell_90 : decode cX11_tell 90 = .ok (.aload_n 0, 1) := by decide +kernel
theorem dX11_tell_91 : decode cX11_tell 91 = .ok (.iconst 1, 1) := by decide +kernel
theorem dX11_tell_92 : decode cX11_tell 92 = .ok (.invokevirtual 270, 3) := by decide +kernel
theorem dX11_tell_95 : decode cX11_tell 95 = .ok (.iload_n 2, 1) := by decide +kernel
theorem dX11_tell_96 : decode cX11_tell 96 = .ok (.ireturn, 1) := by decide +kernel
set_option maxRecDepth 20000 in
theorem ggX11_call_X11_isBatten : GoodIn wsX11_call wsX11_isBatten := goodIn_r _ [6, 7, 13, 14, 15, 16, 17, 18, 19, 20, 21, 22, 23, 24, 25, 26, 27, 28, 29, 30, 31, 32, 33, 34, 35, 36, 37, 38, 39, 40, 41, 42, 43, 44, 45, 46, 47, 48, 49, 50, 51] (by decide +kernel) (by decide +kernel)
set_option maxRecDepth 20000 in
theorem gX11_call_X11_isBatten : GoodIn wsX11_call (wsV RX11 152 RX11 yX11_isBatten wsX11_isBatten) := goodIn_app (goodIn_of _ (by decide +kernel)) ggX11_call_X11_isBatten
set_option maxRecDepth 20000 in
theorem ggX11_call_X11_begins : GoodIn wsX11_call wsX11_begins := goodIn_r _ [11, 12, 13, 14, 15, 16, 17, 18, 19, 20, 21, 22, 23, 24, 25, 26, 27, 28, 29, 30, 31, 32, 33, 34, 35, 36, 37, 38, 39, 40, 41, 42, 43, 44, 45, 46, 47, 48, 49, 50, 51] (by decide +kernel) (by decide +kernel)
set_option maxRecDepth 20000 in
theorem gX11_call_X11_begins : GoodIn wsX11_call (wsV RX11 270 RX11 yX11_begins wsX11_begins) := goodIn_app (goodIn_of _ (by decide +kernel)) ggX11_call_X11_begins
theorem dX11_call_0 : decode cX11_call 0 = .ok (.aload_n 0, 1) := by decide +kernel
theorem dX11_call_1 : decode cX11_call 1 = .ok (.iload_n 1, 1) := by decide +kernel
theorem dX11_call_2 : decode cX11_call 2 = .ok (.invokevirtual 152, 3) := by decide +kernel
theorem dX11_call_5 : decode cX11_call 5 = .ok (.ifCond .ne 5, 3) := by decide +kernel
theorem dX11_call_8 : decode cX11_call 8 = .ok (.iconst (-1), 1) := by decide +kernel
theorem dX11_call_9 : decode cX11_call 9 = .ok (.ireturn, 1) := by decide +kernel
theorem dX11_call_10 : decode cX11_call 10 = .ok (.aload_n 0, 1) := by decide +kernel
theorem dX11_call_11 : decode cX11_call 11 = .ok (.aload_n 0, 1) := by decide +kernel
theorem dX11_call_12 : decode cX11_call 12 = .ok (.getfield 19, 3) := by decide +kernel
theorem dX11_call_15 : decode cX11_call 15 = .ok (.iload_n 1, 1) := by decide +kernel
theorem dX11_call_16 : decode cX11_call 16 = .ok (.iaload, 1) := by decide +kernel
theorem dX11_call_17 : decode cX11_call 17 = .ok (.iconst 2, 1) := by decide +kernel
theorem dX11_call_18 : decode cX11_call 18 = .ok (.if_icmp .ne 7, 3) := by decide +kernel
theorem dX11_call_21 : decode cX11_call 21 = .ok (.iconst 5, 1) := by decide +kernel
theorem dX11_call_22 : decode cX11_call 22 = .ok (.goto 4, 3) := by decide +kernel
theorem dX11_call_25 : decode cX11_call 25 = .ok (.iconst 4, 1) := by decide +kernel
theorem dX11_call_26 : decode cX11_call 26 = .ok (.invokevirtual 270, 3) := by decide +kernel
theorem dX11_call_29 : decode cX11_call 29 = .ok (.aload_n 0, 1) := by decide +kernel
theorem dX11_call_30 : decode cX11_call 30 = .ok (.getfield 19, 3) := by decide +kernel
theorem dX11_call_33 : decode cX11_call 33 = .ok (.iload_n 1, 1) := by decide +kernel
theorem dX11_call_34 : decode cX11_call 34 = .ok (.iaload, 1) := by decide +kernel
theorem dX11_call_35 : decode cX11_call 35 = .ok (.iconst 2, 1) := by decide +kernel
theorem dX11_call_36 : decode cX11_call 36 = .ok (.if_icmp .ne 8, 3) := by decide +kernel
theorem dX11_call_39 : decode cX11_call 39 = .ok (.bipush 40, 2) := by decide +kernel
theorem dX11_call_41 : decode cX11_call 41 = .ok (.goto 4, 3) := by decide +kernel
theorem dX11_call_44 : decode cX11_call 44 = .ok (.iload_n 1, 1) := by decide +kernel
theorem dX11_call_45 : decode cX11_call 45 = .ok (.ireturn, 1) := by decide +kernel
set_option maxRecDepth 20000 in
theorem ggX11_as_X11_isBatten : GoodIn wsX11_as wsX11_isBatten := goodIn_r _ [7, 8, 16, 17, 18, 19, 20, 21, 22, 23, 24, 25, 26, 27, 28, 29, 30, 31, 32, 33, 34, 35, 36, 37, 38, 39, 40, 41, 42, 43, 44, 45, 46, 47, 48, 49, 50, 51, 52, 53, 54] (by decide +kernel) (by decide +kernel)
set_option maxRecDepth 20000 in
theorem gX11_as_X11_isBatten : GoodIn wsX11_as (wsV RX11 152 RX11 yX11_isBatten wsX11_isBatten) := goodIn_app (goodIn_of _ (by decide +kernel)) ggX11_as_X11_isBatten
set_option maxRecDepth 20000 in
theorem ggX11_as_X11_within : GoodIn wsX11_as wsX11_within := goodIn_r _ [11] (by decide +kernel) (by decide +kernel)
set_option maxRecDepth 20000 in
theorem gX11_as_X11_within : GoodIn wsX11_as (va_wsS RX11 83 yX11_within wsX11_within) := goodIn_app (goodIn_of _ (by decide +kernel)) ggX11_as_X11_within
set_option maxRecDepth 20000 in
theorem ggX11_as_X11_fails : GoodIn wsX11_as wsX11_fails := goodIn_r _ [15, 1, 16, 17, 18, 19, 20, 21, 22, 23, 24, 25, 26, 27, 28, 29, 30, 31, 32, 33, 34, 35, 36, 37, 38, 39, 40, 41, 42, 43, 44, 45, 46, 47, 48, 49, 50, 51, 52, 53, 54] (by decide +kernel) (by decide +kernel)
set_option maxRecDepth 20000 in
theorem gX11_as_X11_fails : GoodIn wsX11_as (wsV RX11 104 RX11 yX11_fails wsX11_fails) := goodIn_app (goodIn_of _ (by decide +kernel)) ggX11_as_X11_fails
theorem dX11_as_0 : decode cX11_as 0 = .ok (.aload_n 0, 1) := by decide +kernel
theorem dX11_as_1 : decode cX11_as 1 = .ok (.iconst 0, 1) := by decide +kernel
theorem dX11_as_2 : decode cX11_as 2 = .ok (.putfield 77, 3) := by decide +kernel
theorem dX11_as_5 : decode cX11_as 5 = .ok (.aload_n 0, 1) := by decide +kernel
theorem dX11_as_6 : decode cX11_as 6 = .ok (.iload_n 1, 1) := by decide +kernel
theorem dX11_as_7 : decode cX11_as 7 = .ok (.invokevirtual 152, 3) := by decide +kernel
theorem dX11_as_10 : decode cX11_as 10 = .ok (.ifCond .ne 5, 3) := by decide +kernel
theorem dX11_as_13 : decode cX11_as 13 = .ok (.iconst (-1), 1) := by decide +kernel
theorem dX11_as_14 : decode cX11_as 14 = .ok (.ireturn, 1) := by decide +kernel
theorem dX11_as_15 : decode cX11_as 15 = .ok (.iload_n 2, 1) := by decide +kernel
theorem dX11_as_16 : decode cX11_as 16 = .ok (.iconst 0, 1) := by decide +kernel
theorem dX11_as_17 : decode cX11_as 17 = .ok (.iconst 2, 1) := by decide +kernel
theorem dX11_as_18 : decode cX11_as 18 = .ok (.invokestatic 83, 3) := by decide +kernel
theorem dX11_as_21 : decode cX11_as 21 = .ok (.ifCond .ne 6, 3) := by decide +kernel
theorem dX11_as_24 : decode cX11_as 24 = .ok (.bipush (-2), 2) := by decide +kernel
theorem dX11_as_26 : decode cX11_as 26 = .ok (.ireturn, 1) := by decide +kernel
theorem dX11_as_27 : decode cX11_as 27 = .ok (.aload_n 0, 1) := by decide +kernel
theorem dX11_as_28 : decode cX11_as 28 = .ok (.getfield 19, 3) := by decide +kernel
theorem dX11_as_31 : decode cX11_as 31 = .ok (.iload_n 1, 1) := by decide +kernel
theorem dX11_as_32 : decode cX11_as 32 = .ok (.iaload, 1) := by decide +kernel
theorem dX11_as_33 : decode cX11_as 33 = .ok (.iload_n 2, 1) := by decide +kernel
theorem dX11_as_34 : decode cX11_as 34 = .ok (.if_icmp .lt 7, 3) := by decide +kernel
theorem dX11_as_37 : decode cX11_as 37 = .ok (.iconst 1, 1) := by decide +kernel
theorem dX11_as_38 : decode cX11_as 38 = .ok (.goto 8, 3) := by decide +kernel
theorem dX11_as_41 : decode cX11_as 41 = .ok (.aload_n 0, 1) := by decide +kernel
theorem dX11_as_42 : decode cX11_as 42 = .ok (.iconst 2, 1) := by decide +kernel
theorem dX11_as_43 : decode cX11_as 43 = .ok (.invokevirtual 104, 3) := by decide +kernel
theorem dX11_as_46 : decode cX11_as 46 = .ok (.ireturn, 1) := by decide +kernel
theorem dX11_trace_0 : decode cX11_trace 0 = .ok (.aload_n 0, 1) := by decide +kernel
theorem dX11_trace_1 : decode cX11_trace 1 = .ok (.getfield 267, 3) := by decide +kernel
theorem dX11_trace_4 : decode cX11_trace 4 = .ok (.ireturn, 1) := by decide +kernel
theorem dX11_fault_0 : decode cX11_fault 0 = .ok (.aload_n 0, 1) := by decide +kernel
theorem dX11_fault_1 : decode cX11_fault 1 = .ok (.getfield 77, 3) := by decide +kernel
theorem dX11_fault_4 : decode cX11_fault 4 = .ok (.ireturn, 1) := by decide +kernel
theorem dX11_many_0 : decode cX11_many 0 = .ok (.iload_n 1, 1) := by decide +kernel
theorem dX11_many_1 : decode cX11_many 1 = .ok (.tableswitch 69 0 5 #[39, 44, 49, 54, 59, 64], 39) := by decide +kernel
theorem dX11_many_40 : decode cX11_many 40 = .ok (.aload_n 0, 1) := by decide +kernel
theorem dX11_many_41 : decode cX11_many 41 = .ok (.getfield 87, 3) := by decide +kernel
theorem dX11_many_44 : decode cX11_many 44 = .ok (.ireturn, 1) := by decide +kernel
theorem dX11_many_45 : decode cX11_many 45 = .ok (.aload_n 0, 1) := by decide +kernel
theorem dX11_many_46 : decode cX11_many 46 = .ok (.getfield 117, 3) := by decide +kernel
theorem dX11_many_49 : decode cX11_many 49 = .ok (.ireturn, 1) := by decide +kernel
theorem dX11_many_50 : decode cX11_many 50 = .ok (.aload_n 0, 1) := by decide +kernel
theorem dX11_many_51 : decode cX11_many 51 = .ok (.getfield 123, 3) := by decide +kernel
theorem dX11_many_54 : decode cX11_many 54 = .ok (.ireturn, 1) := by decide +kernel
theorem dX11_many_55 : decode cX11_many 55 = .ok (.aload_n 0, 1) := by decide +kernel
theorem dX11_many_56 : decode cX11_many 56 = .ok (.getfield 129, 3) := by decide +kernel
theorem dX11_many_59 : decode cX11_many 59 = .ok (.ireturn, 1) := by decide +kernel
theorem dX11_many_60 : decode cX11_many 60 = .ok (.aload_n 0, 1) := by decide +kernel
theorem dX11_many_61 : decode cX11_many 61 = .ok (.getfield 135, 3) := by decide +kernel
theorem dX11_many_64 : decode cX11_many 64 = .ok (.ireturn, 1) := by decide +kernel
theorem dX11_many_65 : decode cX11_many 65 = .ok (.aload_n 0, 1) := by decide +kernel
theorem dX11_many_66 : decode cX11_many 66 = .ok (.getfield 138, 3) := by decide +kernel
theorem dX11_many_69 : decode cX11_many 69 = .ok (.ireturn, 1) := by decide +kernel
theorem dX11_many_70 : decode cX11_many 70 = .ok (.bipush (-2), 2) := by decide +kernel
theorem dX11_many_72 : decode cX11_many 72 = .ok (.ireturn, 1) := by decide +kernel
theorem dJ9_abs_0f7a4_0 : decode cJ9_abs_0f7a4 0 = .ok (.iload_n 0, 1) := by decide +kernel
theorem dJ9_abs_0f7a4_1 : decode cJ9_abs_0f7a4 1 = .ok (.ifCond .ge 8, 3) := by decide +kernel
theorem dJ9_abs_0f7a4_4 : decode cJ9_abs_0f7a4 4 = .ok (.iload_n 0, 1) := by decide +kernel
theorem dJ9_abs_0f7a4_5 : decode cJ9_abs_0f7a4 5 = .ok (.ineg, 1) := by decide +kernel
theorem dJ9_abs_0f7a4_6 : decode cJ9_abs_0f7a4 6 = .ok (.goto 4, 3) := by decide +kernel
theorem dJ9_abs_0f7a4_9 : decode cJ9_abs_0f7a4 9 = .ok (.iload_n 0, 1) := by decide +kernel
theorem dJ9_abs_0f7a4_10 : decode cJ9_abs_0f7a4 10 = .ok (.ireturn, 1) := by decide +kernel
theorem dJ9_max_7cf53_0 : decode cJ9_max_7cf53 0 = .ok (.iload_n 0, 1) := by decide +kernel
theorem dJ9_max_7cf53_1 : decode cJ9_max_7cf53 1 = .ok (.iload_n 1, 1) := by decide +kernel
theorem dJ9_max_7cf53_2 : decode cJ9_max_7cf53 2 = .ok (.if_icmp .lt 7, 3) := by decide +kernel
theorem dJ9_max_7cf53_5 : decode cJ9_max_7cf53 5 = .ok (.iload_n 0, 1) := by decide +kernel
theorem dJ9_max_7cf53_6 : decode cJ9_max_7cf53 6 = .ok (.goto 4, 3) := by decide +kernel
theorem dJ9_max_7cf53_9 : decode cJ9_max_7cf53 9 = .ok (.iload_n 1, 1) := by decide +kernel
theorem dJ9_max_7cf53_10 : decode cJ9_max_7cf53 10 = .ok (.ireturn, 1) := by decide +kernel
theorem dJ9_min_7cf53_0 : decode cJ9_min_7cf53 0 = .ok (.iload_n 0, 1) := by decide +kernel
theorem dJ9_min_7cf53_1 : decode cJ9_min_7cf53 1 = .ok (.iload_n 1, 1) := by decide +kernel
theorem dJ9_min_7cf53_2 : decode cJ9_min_7cf53 2 = .ok (.if_icmp .gt 7, 3) := by decide +kernel
theorem dJ9_min_7cf53_5 : decode cJ9_min_7cf53 5 = .ok (.iload_n 0, 1) := by decide +kernel
