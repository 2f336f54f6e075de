theorem dX11_digit_20 : decode cX11_digit 20 = .ok (.iadd, 1) := by decide +kernel
theorem dX11_digit_21 : decode cX11_digit 21 = .ok (.bipush 48, 2) := by decide +kernel
theorem dX11_digit_23 : decode cX11_digit 23 = .ok (.iload_n 3, 1) := by decide +kernel
theorem dX11_digit_24 : decode cX11_digit 24 = .ok (.iadd, 1) := by decide +kernel
theorem dX11_digit_25 : decode cX11_digit 25 = .ok (.invokestatic 83, 3) := by decide +kernel
theorem dX11_digit_28 : decode cX11_digit 28 = .ok (.ifCond .ne 6, 3) := by decide +kernel
theorem dX11_digit_31 : decode cX11_digit 31 = .ok (.bipush (-9), 2) := by decide +kernel
theorem dX11_digit_33 : decode cX11_digit 33 = .ok (.ireturn, 1) := by decide +kernel
theorem dX11_digit_34 : decode cX11_digit 34 = .ok (.aload_n 0, 1) := by decide +kernel
theorem dX11_digit_35 : decode cX11_digit 35 = .ok (.dup, 1) := by decide +kernel
theorem dX11_digit_36 : decode cX11_digit 36 = .ok (.getfield 90, 3) := by decide +kernel
theorem dX11_digit_39 : decode cX11_digit 39 = .ok (.iconst 1, 1) := by decide +kernel
theorem dX11_digit_40 : decode cX11_digit 40 = .ok (.iadd, 1) := by decide +kernel
theorem dX11_digit_41 : decode cX11_digit 41 = .ok (.putfield 90, 3) := by decide +kernel
theorem dX11_digit_44 : decode cX11_digit 44 = .ok (.aload_n 0, 1) := by decide +kernel
theorem dX11_digit_45 : decode cX11_digit 45 = .ok (.getfield 16, 3) := by decide +kernel
theorem dX11_digit_48 : decode cX11_digit 48 = .ok (.aload_n 0, 1) := by decide +kernel
theorem dX11_digit_49 : decode cX11_digit 49 = .ok (.getfield 90, 3) := by decide +kernel
theorem dX11_digit_52 : decode cX11_digit 52 = .ok (.iconst 1, 1) := by decide +kernel
theorem dX11_digit_53 : decode cX11_digit 53 = .ok (.isub, 1) := by decide +kernel
theorem dX11_digit_54 : decode cX11_digit 54 = .ok (.iaload, 1) := by decide +kernel
theorem dX11_digit_55 : decode cX11_digit 55 = .ok (.bipush 48, 2) := by decide +kernel
theorem dX11_digit_57 : decode cX11_digit 57 = .ok (.isub, 1) := by decide +kernel
theorem dX11_digit_58 : decode cX11_digit 58 = .ok (.ireturn, 1) := by decide +kernel
theorem dX11_isSign_0 : decode cX11_isSign 0 = .ok (.aload_n 0, 1) := by decide +kernel
theorem dX11_isSign_1 : decode cX11_isSign 1 = .ok (.getfield 90, 3) := by decide +kernel
theorem dX11_isSign_4 : decode cX11_isSign 4 = .ok (.iload_n 1, 1) := by decide +kernel
theorem dX11_isSign_5 : decode cX11_isSign 5 = .ok (.if_icmp .ge 16, 3) := by decide +kernel
theorem dX11_isSign_8 : decode cX11_isSign 8 = .ok (.aload_n 0, 1) := by decide +kernel
theorem dX11_isSign_9 : decode cX11_isSign 9 = .ok (.getfield 16, 3) := by decide +kernel
theorem dX11_isSign_12 : decode cX11_isSign 12 = .ok (.aload_n 0, 1) := by decide +kernel
theorem dX11_isSign_13 : decode cX11_isSign 13 = .ok (.getfield 90, 3) := by decide +kernel
theorem dX11_isSign_16 : decode cX11_isSign 16 = .ok (.iaload, 1) := by decide +kernel
theorem dX11_isSign_17 : decode cX11_isSign 17 = .ok (.iload_n 2, 1) := by decide +kernel
theorem dX11_isSign_18 : decode cX11_isSign 18 = .ok (.if_icmp .eq 5, 3) := by decide +kernel
theorem dX11_isSign_21 : decode cX11_isSign 21 = .ok (.iconst 0, 1) := by decide +kernel
theorem dX11_isSign_22 : decode cX11_isSign 22 = .ok (.ireturn, 1) := by decide +kernel
theorem dX11_isSign_23 : decode cX11_isSign 23 = .ok (.aload_n 0, 1) := by decide +kernel
theorem dX11_isSign_24 : decode cX11_isSign 24 = .ok (.dup, 1) := by decide +kernel
theorem dX11_isSign_25 : decode cX11_isSign 25 = .ok (.getfield 90, 3) := by decide +kernel
theorem dX11_isSign_28 : decode cX11_isSign 28 = .ok (.iconst 1, 1) := by decide +kernel
theorem dX11_isSign_29 : decode cX11_isSign 29 = .ok (.iadd, 1) := by decide +kernel
theorem dX11_isSign_30 : decode cX11_isSign 30 = .ok (.putfield 90, 3) := by decide +kernel
theorem dX11_isSign_33 : decode cX11_isSign 33 = .ok (.iconst 1, 1) := by decide +kernel
theorem dX11_isSign_34 : decode cX11_isSign 34 = .ok (.ireturn, 1) := by decide +kernel
set_option maxRecDepth 20000 in
theorem ggX11_loft_X11_isSheet : GoodIn wsX11_loft wsX11_isSheet := goodIn_r _ [7, 8, 9, 6, 10] (by decide +kernel) (by decide +kernel)
set_option maxRecDepth 20000 in
theorem gX11_loft_X11_isSheet : GoodIn wsX11_loft (va_wsS RX11 93 yX11_isSheet wsX11_isSheet) := goodIn_app (goodIn_of _ (by decide +kernel)) ggX11_loft_X11_isSheet
set_option maxRecDepth 20000 in
theorem ggX11_loft_X11_isSort : GoodIn wsX11_loft wsX11_isSort := goodIn_r _ [13, 8, 9, 6, 10] (by decide +kernel) (by decide +kernel)
set_option maxRecDepth 20000 in
theorem gX11_loft_X11_isSort : GoodIn wsX11_loft (va_wsS RX11 97 yX11_isSort wsX11_isSort) := goodIn_app (goodIn_of _ (by decide +kernel)) ggX11_loft_X11_isSort
set_option maxRecDepth 20000 in
theorem ggX11_loft_X11_against : GoodIn wsX11_loft wsX11_against := goodIn_r _ [17, 18, 19, 61, 62, 63, 64, 65, 66, 67, 68, 69, 70, 71, 72, 73, 74, 75, 76, 77, 78, 79, 80, 81, 82, 83, 84, 85, 86, 87, 88, 89, 90, 91, 92, 93, 94, 95, 96, 97, 98, 99] (by decide +kernel) (by decide +kernel)
set_option maxRecDepth 20000 in
theorem gX11_loft_X11_against : GoodIn wsX11_loft (wsV RX11 100 RX11 yX11_against wsX11_against) := goodIn_app (goodIn_of _ (by decide +kernel)) ggX11_loft_X11_against
set_option maxRecDepth 20000 in
theorem ggX11_loft_X11_fails : GoodIn wsX11_loft wsX11_fails := goodIn_r _ [23, 1, 61, 62, 63, 64, 65, 66, 67, 68, 69, 70, 71, 72, 73, 74, 75, 76, 77, 78, 79, 80, 81, 82, 83, 84, 85, 86, 87, 88, 89, 90, 91, 92, 93, 94, 95, 96, 97, 98, 99] (by decide +kernel) (by decide +kernel)
set_option maxRecDepth 20000 in
theorem gX11_loft_X11_fails : GoodIn wsX11_loft (wsV RX11 104 RX11 yX11_fails wsX11_fails) := goodIn_app (goodIn_of _ (by decide +kernel)) ggX11_loft_X11_fails
set_option maxRecDepth 20000 in
theorem ggX11_loft_X11_readLoft : GoodIn wsX11_loft wsX11_readLoft := goodIn_r _ [27, 28, 29, 30, 31, 2, 32, 33, 34, 6, 35, 36, 37, 38, 39, 40, 8, 9, 10, 41, 42, 43, 44, 45, 61, 62, 63, 64, 65, 66, 67, 68, 69, 70, 71, 72, 73, 74, 75, 76, 77, 78, 79, 80, 81, 82, 83, 84, 85, 86, 87, 88, 89, 90, 91, 92, 93, 94, 95, 96, 97, 98, 99] (by decide +kernel) (by decide +kernel)
set_option maxRecDepth 20000 in
theorem gX11_loft_X11_readLoft : GoodIn wsX11_loft (wsV RX11 108 RX11 yX11_readLoft wsX11_readLoft) := goodIn_app (goodIn_of _ (by decide +kernel)) ggX11_loft_X11_readLoft
set_option maxRecDepth 20000 in
theorem ggX11_loft_X11_takeLoft : GoodIn wsX11_loft wsX11_takeLoft := goodIn_r _ [49, 29, 50, 30, 51, 31, 52, 28, 3, 53, 45, 54, 55, 56, 57, 58, 59, 60, 61, 62, 63, 64, 65, 66, 67, 68, 69, 70, 71, 72, 73, 74, 75, 76, 77, 78, 79, 80, 81, 82, 83, 84, 85, 86, 87, 88, 89, 90, 91, 92, 93, 94, 95, 96, 97, 98, 99] (by decide +kernel) (by decide +kernel)
set_option maxRecDepth 20000 in
theorem gX11_loft_X11_takeLoft : GoodIn wsX11_loft (wsV RX11 111 RX11 yX11_takeLoft wsX11_takeLoft) := goodIn_app (goodIn_of _ (by decide +kernel)) ggX11_loft_X11_takeLoft
theorem dX11_loft_0 : decode cX11_loft 0 = .ok (.aload_n 0, 1) := by decide +kernel
theorem dX11_loft_1 : decode cX11_loft 1 = .ok (.iconst 0, 1) := by decide +kernel
theorem dX11_loft_2 : decode cX11_loft 2 = .ok (.putfield 77, 3) := by decide +kernel
theorem dX11_loft_5 : decode cX11_loft 5 = .ok (.iload_n 1, 1) := by decide +kernel
theorem dX11_loft_6 : decode cX11_loft 6 = .ok (.invokestatic 93, 3) := by decide +kernel
theorem dX11_loft_9 : decode cX11_loft 9 = .ok (.ifCond .ne 5, 3) := by decide +kernel
theorem dX11_loft_12 : decode cX11_loft 12 = .ok (.iconst (-1), 1) := by decide +kernel
theorem dX11_loft_13 : decode cX11_loft 13 = .ok (.ireturn, 1) := by decide +kernel
theorem dX11_loft_14 : decode cX11_loft 14 = .ok (.iload_n 2, 1) := by decide +kernel
theorem dX11_loft_15 : decode cX11_loft 15 = .ok (.invokestatic 97, 3) := by decide +kernel
theorem dX11_loft_18 : decode cX11_loft 18 = .ok (.ifCond .ne 6, 3) := by decide +kernel
theorem dX11_loft_21 : decode cX11_loft 21 = .ok (.bipush (-2), 2) := by decide +kernel
theorem dX11_loft_23 : decode cX11_loft 23 = .ok (.ireturn, 1) := by decide +kernel
theorem dX11_loft_24 : decode cX11_loft 24 = .ok (.aload_n 0, 1) := by decide +kernel
theorem dX11_loft_25 : decode cX11_loft 25 = .ok (.iload_n 1, 1) := by decide +kernel
theorem dX11_loft_26 : decode cX11_loft 26 = .ok (.iload_n 2, 1) := by decide +kernel
theorem dX11_loft_27 : decode cX11_loft 27 = .ok (.iload_n 3, 1) := by decide +kernel
theorem dX11_loft_28 : decode cX11_loft 28 = .ok (.iload 4, 2) := by decide +kernel
theorem dX11_loft_30 : decode cX11_loft 30 = .ok (.invokevirtual 100, 3) := by decide +kernel
theorem dX11_loft_33 : decode cX11_loft 33 = .ok (.istore 5, 2) := by decide +kernel
theorem dX11_loft_35 : decode cX11_loft 35 = .ok (.iload 5, 2) := by decide +kernel
theorem dX11_loft_37 : decode cX11_loft 37 = .ok (.ifCond .eq 10, 3) := by decide +kernel
theorem dX11_loft_40 : decode cX11_loft 40 = .ok (.aload_n 0, 1) := by decide +kernel
theorem dX11_loft_41 : decode cX11_loft 41 = .ok (.iload 5, 2) := by decide +kernel
theorem dX11_loft_43 : decode cX11_loft 43 = .ok (.invokevirtual 104, 3) := by decide +kernel
theorem dX11_loft_46 : decode cX11_loft 46 = .ok (.ireturn, 1) := by decide +kernel
theorem dX11_loft_47 : decode cX11_loft 47 = .ok (.bipush 60, 2) := by decide +kernel
theorem dX11_loft_49 : decode cX11_loft 49 = .ok (.iload_n 1, 1) := by decide +kernel
theorem dX11_loft_50 : decode cX11_loft 50 = .ok (.imul, 1) := by decide +kernel
theorem dX11_loft_51 : decode cX11_loft 51 = .ok (.iload_n 3, 1) := by decide +kernel
theorem dX11_loft_52 : decode cX11_loft 52 = .ok (.iadd, 1) := by decide +kernel
theorem dX11_loft_53 : decode cX11_loft 53 = .ok (.istore 6, 2) := by decide +kernel
theorem dX11_loft_55 : decode cX11_loft 55 = .ok (.aload_n 0, 1) := by decide +kernel
theorem dX11_loft_56 : decode cX11_loft 56 = .ok (.iload 6, 2) := by decide +kernel
theorem dX11_loft_58 : decode cX11_loft 58 = .ok (.putfield 90, 3) := by decide +kernel
theorem dX11_loft_61 : decode cX11_loft 61 = .ok (.aload_n 0, 1) := by decide +kernel
theorem dX11_loft_62 : decode cX11_loft 62 = .ok (.iload 6, 2) := by decide +kernel
theorem dX11_loft_64 : decode cX11_loft 64 = .ok (.iload 4, 2) := by decide +kernel
theorem dX11_loft_66 : decode cX11_loft 66 = .ok (.iadd, 1) := by decide +kernel
theorem dX11_loft_67 : decode cX11_loft 67 = .ok (.invokevirtual 108, 3) := by decide +kernel
theorem dX11_loft_70 : decode cX11_loft 70 = .ok (.ifCond .ne 14, 3) := by decide +kernel
theorem dX11_loft_73 : decode cX11_loft 73 = .ok (.bipush (-100), 2) := by decide +kernel
theorem dX11_loft_75 : decode cX11_loft 75 = .ok (.aload_n 0, 1) := by decide +kernel
theorem dX11_loft_76 : decode cX11_loft 76 = .ok (.getfield 90, 3) := by decide +kernel
theorem dX11_loft_79 : decode cX11_loft 79 = .ok (.iload 6, 2) := by decide +kernel
theorem dX11_loft_81 : decode cX11_loft 81 = .ok (.isub, 1) := by decide +kernel
theorem dX11_loft_82 : decode cX11_loft 82 = .ok (.isub, 1) := by decide +kernel
theorem dX11_loft_83 : decode cX11_loft 83 = .ok (.ireturn, 1) := by decide +kernel
theorem dX11_loft_84 : decode cX11_loft 84 = .ok (.aload_n 0, 1) := by decide +kernel
theorem dX11_loft_85 : decode cX11_loft 85 = .ok (.invokevirtual 111, 3) := by decide +kernel
theorem dX11_loft_88 : decode cX11_loft 88 = .ok (.aload_n 0, 1) := by decide +kernel
theorem dX11_loft_89 : decode cX11_loft 89 = .ok (.getfield 87, 3) := by decide +kernel
theorem dX11_loft_92 : decode cX11_loft 92 = .ok (.ireturn, 1) := by decide +kernel
theorem dX11_takeLoft_0 : decode cX11_takeLoft 0 = .ok (.aload_n 0, 1) := by decide +kernel
theorem dX11_takeLoft_1 : decode cX11_takeLoft 1 = .ok (.aload_n 0, 1) := by decide +kernel
theorem dX11_takeLoft_2 : decode cX11_takeLoft 2 = .ok (.getfield 114, 3) := by decide +kernel
theorem dX11_takeLoft_5 : decode cX11_takeLoft 5 = .ok (.putfield 117, 3) := by decide +kernel
theorem dX11_takeLoft_8 : decode cX11_takeLoft 8 = .ok (.aload_n 0, 1) := by decide +kernel
theorem dX11_takeLoft_9 : decode cX11_takeLoft 9 = .ok (.aload_n 0, 1) := by decide +kernel
theorem dX11_takeLoft_10 : decode cX11_takeLoft 10 = .ok (.getfield 120, 3) := by decide +kernel
theorem dX11_takeLoft_13 : decode cX11_takeLoft 13 = .ok (.putfield 123, 3) := by decide +kernel
theorem dX11_takeLoft_16 : decode cX11_takeLoft 16 = .ok (.aload_n 0, 1) := by decide +kernel
theorem dX11_takeLoft_17 : decode cX11_takeLoft 17 = .ok (.aload_n 0, 1) := by decide +kernel
theorem dX11_takeLoft_18 : decode cX11_takeLoft 18 = .ok (.getfield 126, 3) := by decide +kernel
theorem dX11_takeLoft_21 : decode cX11_takeLoft 21 = .ok (.putfield 129, 3) := by decide +kernel
theorem dX11_takeLoft_24 : decode cX11_takeLoft 24 = .ok (.aload_n 0, 1) := by decide +kernel
theorem dX11_takeLoft_25 : decode cX11_takeLoft 25 = .ok (.aload_n 0, 1) := by decide +kernel
theorem dX11_takeLoft_26 : decode cX11_takeLoft 26 = .ok (.getfield 132, 3) := by decide +kernel
theorem dX11_takeLoft_29 : decode cX11_takeLoft 29 = .ok (.putfield 87, 3) := by decide +kernel
theorem dX11_takeLoft_32 : decode cX11_takeLoft 32 = .ok (.iconst 0, 1) := by decide +kernel
theorem dX11_takeLoft_33 : decode cX11_takeLoft 33 = .ok (.istore_n 1, 1) := by decide +kernel
theorem dX11_takeLoft_34 : decode cX11_takeLoft 34 = .ok (.iload_n 1, 1) := by decide +kernel
theorem dX11_takeLoft_35 : decode cX11_takeLoft 35 = .ok (.aload_n 0, 1) := by decide +kernel
theorem dX11_takeLoft_36 : decode cX11_takeLoft 36 = .ok (.getfield 87, 3) := by decide +kernel
theorem dX11_takeLoft_39 : decode cX11_takeLoft 39 = .ok (.if_icmp .ge 87, 3) := by decide +kernel
theorem dX11_takeLoft_42 : decode cX11_takeLoft 42 = .ok (.aload_n 0, 1) := by decide +kernel
theorem dX11_takeLoft_43 : decode cX11_takeLoft 43 = .ok (.getfield 19, 3) := by decide +kernel
theorem dX11_takeLoft_46 : decode cX11_takeLoft 46 = .ok (.iload_n 1, 1) := by decide +kernel
theorem dX11_takeLoft_47 : decode cX11_takeLoft 47 = .ok (.aload_n 0, 1) := by decide +kernel
theorem dX11_takeLoft_48 : decode cX11_takeLoft 48 = .ok (.getfield 34, 3) := by decide +kernel
theorem dX11_takeLoft_51 : decode cX11_takeLoft 51 = .ok (.iconst 5, 1) := by decide +kernel
theorem dX11_takeLoft_52 : decode cX11_takeLoft 52 = .ok (.iload_n 1, 1) := by decide +kernel
theorem dX11_takeLoft_53 : decode cX11_takeLoft 53 = .ok (.imul, 1) := by decide +kernel
theorem dX11_takeLoft_54 : decode cX11_takeLoft 54 = .ok (.iaload, 1) := by decide +kernel
theorem dX11_takeLoft_55 : decode cX11_takeLoft 55 = .ok (.iastore, 1) := by decide +kernel
theorem dX11_takeLoft_56 : decode cX11_takeLoft 56 = .ok (.aload_n 0, 1) := by decide +kernel
theorem dX11_takeLoft_57 : decode cX11_takeLoft 57 = .ok (.getfield 22, 3) := by decide +kernel
theorem dX11_takeLoft_60 : decode cX11_takeLoft 60 = .ok (.iload_n 1, 1) := by decide +kernel
theorem dX11_takeLoft_61 : decode cX11_takeLoft 61 = .ok (.aload_n 0, 1) := by decide +kernel
theorem dX11_takeLoft_62 : decode cX11_takeLoft 62 = .ok (.getfield 34, 3) := by decide +kernel
theorem dX11_takeLoft_65 : decode cX11_takeLoft 65 = .ok (.iconst 5, 1) := by decide +kernel
theorem dX11_takeLoft_66 : decode cX11_takeLoft 66 = .ok (.iload_n 1, 1) := by decide +kernel
theorem dX11_takeLoft_67 : decode cX11_takeLoft 67 = .ok (.imul, 1) := by decide +kernel
theorem dX11_takeLoft_68 : decode cX11_takeLoft 68 = .ok (.iconst 1, 1) := by decide +kernel
theorem dX11_takeLoft_69 : decode cX11_takeLoft 69 = .ok (.iadd, 1) := by decide +kernel
theorem dX11_takeLoft_70 : decode cX11_takeLoft 70 = .ok (.iaload, 1) := by decide +kernel
theorem dX11_takeLoft_71 : decode cX11_takeLoft 71 = .ok (.iastore, 1) := by decide +kernel
theorem dX11_takeLoft_72 : decode cX11_takeLoft 72 = .ok (.aload_n 0, 1) := by decide +kernel
theorem dX11_takeLoft_73 : decode cX11_takeLoft 73 = .ok (.getfield 25, 3) := by decide +kernel
theorem dX11_takeLoft_76 : decode cX11_takeLoft 76 = .ok (.iload_n 1, 1) := by decide +kernel
theorem dX11_takeLoft_77 : decode cX11_takeLoft 77 = .ok (.aload_n 0, 1) := by decide +kernel
theorem dX11_takeLoft_78 : decode cX11_takeLoft 78 = .ok (.getfield 34, 3) := by decide +kernel
theorem dX11_takeLoft_81 : decode cX11_takeLoft 81 = .ok (.iconst 5, 1) := by decide +kernel
theorem dX11_takeLoft_82 : decode cX11_takeLoft 82 = .ok (.iload_n 1, 1) := by decide +kernel
theorem dX11_takeLoft_83 : decode cX11_takeLoft 83 = .ok (.imul, 1) := by decide +kernel
theorem dX11_takeLoft_84 : decode cX11_takeLoft 84 = .ok (.iconst 2, 1) := by decide +kernel
theorem dX11_takeLoft_85 : decode cX11_takeLoft 85 = .ok (.iadd, 1) := by decide +kernel
theorem dX11_takeLoft_86 : decode cX11_takeLoft 86 = .ok (.iaload, 1) := by decide +kernel
theorem dX11_takeLoft_87 : decode cX11_takeLoft 87 = .ok (.iastore, 1) := by decide +kernel
theorem dX11_takeLoft_88 : decode cX11_takeLoft 88 = .ok (.aload_n 0, 1) := by decide +kernel
theorem dX11_takeLoft_89 : decode cX11_takeLoft 89 = .ok (.getfield 28, 3) := by decide +kernel
theorem dX11_takeLoft_92 : decode cX11_takeLoft 92 = .ok (.iload_n 1, 1) := by decide +kernel
theorem dX11_takeLoft_93 : decode cX11_takeLoft 93 = .ok (.aload_n 0, 1) := by decide +kernel
theorem dX11_takeLoft_94 : decode cX11_takeLoft 94 = .ok (.getfield 34, 3) := by decide +kernel
theorem dX11_takeLoft_97 : decode cX11_takeLoft 97 = .ok (.iconst 5, 1) := by decide +kernel
theorem dX11_takeLoft_98 : decode cX11_takeLoft 98 = .ok (.iload_n 1, 1) := by decide +kernel
theorem dX11_takeLoft_99 : decode cX11_takeLoft 99 = .ok (.imul, 1) := by decide +kernel
theorem dX11_takeLoft_100 : decode cX11_takeLoft 100 = .ok (.iconst 3, 1) := by decide +kernel
theorem dX11_takeLoft_101 : decode cX11_takeLoft 101 = .ok (.iadd, 1) := by decide +kernel
theorem dX11_takeLoft_102 : decode cX11_takeLoft 102 = .ok (.iaload, 1) := by decide +kernel
theorem dX11_takeLoft_103 : decode cX11_takeLoft 103 = .ok (.iastore, 1) := by decide +kernel
theorem dX11_takeLoft_104 : decode cX11_takeLoft 104 = .ok (.aload_n 0, 1) := by decide +kernel
theorem dX11_takeLoft_105 : decode cX11_takeLoft 105 = .ok (.getfield 31, 3) := by decide +kernel
theorem dX11_takeLoft_108 : decode cX11_takeLoft 108 = .ok (.iload_n 1, 1) := by decide +kernel
theorem dX11_takeLoft_109 : decode cX11_takeLoft 109 = .ok (.aload_n 0, 1) := by decide +kernel
theorem dX11_takeLoft_110 : decode cX11_takeLoft 110 = .ok (.getfield 34, 3) := by decide +kernel
theorem dX11_takeLoft_113 : decode cX11_takeLoft 113 = .ok (.iconst 5, 1) := by decide +kernel
theorem dX11_takeLoft_114 : decode cX11_takeLoft 114 = .ok (.iload_n 1, 1) := by decide +kernel
theorem dX11_takeLoft_115 : decode cX11_takeLoft 115 = .ok (.imul, 1) := by decide +kernel
theorem dX11_takeLoft_116 : decode cX11_takeLoft 116 = .ok (.iconst 4, 1) := by decide +kernel
theorem dX11_takeLoft_117 : decode cX11_takeLoft 117 = .ok (.iadd, 1) := by decide +kernel
theorem dX11_takeLoft_118 : decode cX11_takeLoft 118 = .ok (.iaload, 1) := by decide +kernel
theorem dX11_takeLoft_119 : decode cX11_takeLoft 119 = .ok (.iastore, 1) := by decide +kernel
theorem dX11_takeLoft_120 : decode cX11_takeLoft 120 = .ok (.iinc 1 1, 3) := by decide +kernel
theorem dX11_takeLoft_123 : decode cX11_takeLoft 123 = .ok (.goto (-89), 3) := by decide +kernel
theorem dX11_takeLoft_126 : decode cX11_takeLoft 126 = .ok (.aload_n 0, 1) := by decide +kernel
theorem dX11_takeLoft_127 : decode cX11_takeLoft 127 = .ok (.iconst 0, 1) := by decide +kernel
theorem dX11_takeLoft_128 : decode cX11_takeLoft 128 = .ok (.putfield 135, 3) := by decide +kernel
theorem dX11_takeLoft_131 : decode cX11_takeLoft 131 = .ok (.aload_n 0, 1) := by decide +kernel
theorem dX11_takeLoft_132 : decode cX11_takeLoft 132 = .ok (.getfield 43, 3) := by decide +kernel
theorem dX11_takeLoft_135 : decode cX11_takeLoft 135 = .ok (.iconst 0, 1) := by decide +kernel
theorem dX11_takeLoft_136 : decode cX11_takeLoft 136 = .ok (.iconst 0, 1) := by decide +kernel
theorem dX11_takeLoft_137 : decode cX11_takeLoft 137 = .ok (.bastore, 1) := by decide +kernel
theorem dX11_takeLoft_138 : decode cX11_takeLoft 138 = .ok (.aload_n 0, 1) := by decide +kernel
theorem dX11_takeLoft_139 : decode cX11_takeLoft 139 = .ok (.getfield 43, 3) := by decide +kernel
theorem dX11_takeLoft_142 : decode cX11_takeLoft 142 = .ok (.iconst 1, 1) := by decide +kernel
theorem dX11_takeLoft_143 : decode cX11_takeLoft 143 = .ok (.iconst 0, 1) := by decide +kernel
theorem dX11_takeLoft_144 : decode cX11_takeLoft 144 = .ok (.bastore, 1) := by decide +kernel
theorem dX11_takeLoft_145 : decode cX11_takeLoft 145 = .ok (.aload_n 0, 1) := by decide +kernel
theorem dX11_takeLoft_146 : decode cX11_takeLoft 146 = .ok (.iconst 0, 1) := by decide +kernel
theorem dX11_takeLoft_147 : decode cX11_takeLoft 147 = .ok (.putfield 138, 3) := by decide +kernel
theorem dX11_takeLoft_150 : decode cX11_takeLoft 150 = .ok (.return_, 1) := by decide +kernel
set_option maxRecDepth 20000 in
theorem ggX11_readLoft_X11_isSign : GoodIn wsX11_readLoft wsX11_isSign := goodIn_r _ [10, 5, 11, 24, 25, 26, 27, 28, 29, 30, 31, 32, 33, 34, 35, 36, 37, 38, 39, 40, 41, 42, 43, 44, 45, 46, 47, 48, 49, 50, 51, 52, 53, 54, 55, 56, 57, 58, 59, 60, 61, 62] (by decide +kernel) (by decide +kernel)
set_option maxRecDepth 20000 in
theorem gX11_readLoft_X11_isSign : GoodIn wsX11_readLoft (wsV RX11 141 RX11 yX11_isSign wsX11_isSign) := goodIn_app (goodIn_of _ (by decide +kernel)) ggX11_readLoft_X11_isSign
set_option maxRecDepth 20000 in
theorem ggX11_readLoft_X11_digit : GoodIn wsX11_readLoft wsX11_digit := goodIn_r _ [15, 5, 11, 16, 17, 9, 18, 24, 25, 26, 27, 28, 29, 30, 31, 32, 33, 34, 35, 36, 37, 38, 39, 40, 41, 42, 43, 44, 45, 46, 47, 48, 49, 50, 51, 52, 53, 54, 55, 56, 57, 58, 59, 60, 61, 62] (by decide +kernel) (by decide +kernel)
set_option maxRecDepth 20000 in
theorem gX11_readLoft_X11_digit : GoodIn wsX11_readLoft (wsV RX11 145 RX11 yX11_digit wsX11_digit) := goodIn_app (goodIn_of _ (by decide +kernel)) ggX11_readLoft_X11_digit
set_option maxRecDepth 20000 in
theorem ggX11_readLoft_X11_readBatten : GoodIn wsX11_readLoft wsX11_readBatten := goodIn_r _ [22, 5, 11, 1, 23, 12, 13, 14, 9, 15, 16, 17, 18, 24, 25, 26, 27, 28, 29, 30, 31, 32, 33, 34, 35, 36, 37, 38, 39, 40, 41, 42, 43, 44, 45, 46, 47, 48, 49, 50, 51, 52, 53, 54, 55, 56, 57, 58, 59, 60, 61, 62] (by decide +kernel) (by decide +kernel)
set_option maxRecDepth 20000 in
theorem gX11_readLoft_X11_readBatten : GoodIn wsX11_readLoft (wsV RX11 149 RX11 yX11_readBatten wsX11_readBatten) := goodIn_app (goodIn_of _ (by decide +kernel)) ggX11_readLoft_X11_readBatten
theorem dX11_readLoft_0 : decode cX11_readLoft 0 = .ok (.aload_n 0, 1) := by decide +kernel
theorem dX11_readLoft_1 : decode cX11_readLoft 1 = .ok (.iconst 0, 1) := by decide +kernel
theorem dX11_readLoft_2 : decode cX11_readLoft 2 = .ok (.putfield 132, 3) := by decide +kernel
theorem dX11_readLoft_5 : decode cX11_readLoft 5 = .ok (.aload_n 0, 1) := by decide +kernel
theorem dX11_readLoft_6 : decode cX11_readLoft 6 = .ok (.iload_n 1, 1) := by decide +kernel
theorem dX11_readLoft_7 : decode cX11_readLoft 7 = .ok (.bipush 102, 2) := by decide +kernel
theorem dX11_readLoft_9 : decode cX11_readLoft 9 = .ok (.invokevirtual 141, 3) := by decide +kernel
theorem dX11_readLoft_12 : decode cX11_readLoft 12 = .ok (.ifCond .ne 5, 3) := by decide +kernel
theorem dX11_readLoft_15 : decode cX11_readLoft 15 = .ok (.iconst 0, 1) := by decide +kernel
theorem dX11_readLoft_16 : decode cX11_readLoft 16 = .ok (.ireturn, 1) := by decide +kernel
theorem dX11_readLoft_17 : decode cX11_readLoft 17 = .ok (.aload_n 0, 1) := by decide +kernel
theorem dX11_readLoft_18 : decode cX11_readLoft 18 = .ok (.aload_n 0, 1) := by decide +kernel
theorem dX11_readLoft_19 : decode cX11_readLoft 19 = .ok (.iload_n 1, 1) := by decide +kernel
theorem dX11_readLoft_20 : decode cX11_readLoft 20 = .ok (.iconst 1, 1) := by decide +kernel
theorem dX11_readLoft_21 : decode cX11_readLoft 21 = .ok (.bipush 6, 2) := by decide +kernel
theorem dX11_readLoft_23 : decode cX11_readLoft 23 = .ok (.invokevirtual 145, 3) := by decide +kernel
theorem dX11_readLoft_26 : decode cX11_readLoft 26 = .ok (.putfield 114, 3) := by decide +kernel
theorem dX11_readLoft_29 : decode cX11_readLoft 29 = .ok (.aload_n 0, 1) := by decide +kernel
theorem dX11_readLoft_30 : decode cX11_readLoft 30 = .ok (.getfield 114, 3) := by decide +kernel
theorem dX11_readLoft_33 : decode cX11_readLoft 33 = .ok (.bipush (-9), 2) := by decide +kernel
theorem dX11_readLoft_35 : decode cX11_readLoft 35 = .ok (.if_icmp .ne 5, 3) := by decide +kernel
theorem dX11_readLoft_38 : decode cX11_readLoft 38 = .ok (.iconst 0, 1) := by decide +kernel
theorem dX11_readLoft_39 : decode cX11_readLoft 39 = .ok (.ireturn, 1) := by decide +kernel
theorem dX11_readLoft_40 : decode cX11_readLoft 40 = .ok (.aload_n 0, 1) := by decide +kernel
theorem dX11_readLoft_41 : decode cX11_readLoft 41 = .ok (.aload_n 0, 1) := by decide +kernel
theorem dX11_readLoft_42 : decode cX11_readLoft 42 = .ok (.iload_n 1, 1) := by decide +kernel
theorem dX11_readLoft_43 : decode cX11_readLoft 43 = .ok (.iconst 1, 1) := by decide +kernel
theorem dX11_readLoft_44 : decode cX11_readLoft 44 = .ok (.bipush 9, 2) := by decide +kernel
theorem dX11_readLoft_46 : decode cX11_readLoft 46 = .ok (.invokevirtual 145, 3) := by decide +kernel
theorem dX11_readLoft_49 : decode cX11_readLoft 49 = .ok (.putfield 120, 3) := by decide +kernel
theorem dX11_readLoft_52 : decode cX11_readLoft 52 = .ok (.aload_n 0, 1) := by decide +kernel
theorem dX11_readLoft_53 : decode cX11_readLoft 53 = .ok (.getfield 120, 3) := by decide +kernel
theorem dX11_readLoft_56 : decode cX11_readLoft 56 = .ok (.bipush (-9), 2) := by decide +kernel
theorem dX11_readLoft_58 : decode cX11_readLoft 58 = .ok (.if_icmp .ne 5, 3) := by decide +kernel
theorem dX11_readLoft_61 : decode cX11_readLoft 61 = .ok (.iconst 0, 1) := by decide +kernel
theorem dX11_readLoft_62 : decode cX11_readLoft 62 = .ok (.ireturn, 1) := by decide +kernel
theorem dX11_readLoft_63 : decode cX11_readLoft 63 = .ok (.aload_n 0, 1) := by decide +kernel
theorem dX11_readLoft_64 : decode cX11_readLoft 64 = .ok (.aload_n 0, 1) := by decide +kernel
theorem dX11_readLoft_65 : decode cX11_readLoft 65 = .ok (.iload_n 1, 1) := by decide +kernel
theorem dX11_readLoft_66 : decode cX11_readLoft 66 = .ok (.iconst 0, 1) := by decide +kernel
theorem dX11_readLoft_67 : decode cX11_readLoft 67 = .ok (.bipush 9, 2) := by decide +kernel
theorem dX11_readLoft_69 : decode cX11_readLoft 69 = .ok (.invokevirtual 145, 3) := by decide +kernel
theorem dX11_readLoft_72 : decode cX11_readLoft 72 = .ok (.putfield 126, 3) := by decide +kernel
theorem dX11_readLoft_75 : decode cX11_readLoft 75 = .ok (.aload_n 0, 1) := by decide +kernel
theorem dX11_readLoft_76 : decode cX11_readLoft 76 = .ok (.getfield 126, 3) := by decide +kernel
theorem dX11_readLoft_79 : decode cX11_readLoft 79 = .ok (.bipush (-9), 2) := by decide +kernel
theorem dX11_readLoft_81 : decode cX11_readLoft 81 = .ok (.if_icmp .ne 5, 3) := by decide +kernel
theorem dX11_readLoft_84 : decode cX11_readLoft 84 = .ok (.iconst 0, 1) := by decide +kernel
theorem dX11_readLoft_85 : decode cX11_readLoft 85 = .ok (.ireturn, 1) := by decide +kernel
theorem dX11_readLoft_86 : decode cX11_readLoft 86 = .ok (.aload_n 0, 1) := by decide +kernel
theorem dX11_readLoft_87 : decode cX11_readLoft 87 = .ok (.getfield 132, 3) := by decide +kernel
theorem dX11_readLoft_90 : decode cX11_readLoft 90 = .ok (.iconst 2, 1) := by decide +kernel
theorem dX11_readLoft_91 : decode cX11_readLoft 91 = .ok (.if_icmp .lt 20, 3) := by decide +kernel
theorem dX11_readLoft_94 : decode cX11_readLoft 94 = .ok (.aload_n 0, 1) := by decide +kernel
theorem dX11_readLoft_95 : decode cX11_readLoft 95 = .ok (.getfield 132, 3) := by decide +kernel
theorem dX11_readLoft_98 : decode cX11_readLoft 98 = .ok (.bipush 8, 2) := by decide +kernel
theorem dX11_readLoft_100 : decode cX11_readLoft 100 = .ok (.if_icmp .ge 31, 3) := by decide +kernel
theorem dX11_readLoft_103 : decode cX11_readLoft 103 = .ok (.aload_n 0, 1) := by decide +kernel
theorem dX11_readLoft_104 : decode cX11_readLoft 104 = .ok (.getfield 90, 3) := by decide +kernel
theorem dX11_readLoft_107 : decode cX11_readLoft 107 = .ok (.iload_n 1, 1) := by decide +kernel
theorem dX11_readLoft_108 : decode cX11_readLoft 108 = .ok (.if_icmp .ge 23, 3) := by decide +kernel
theorem dX11_readLoft_111 : decode cX11_readLoft 111 = .ok (.aload_n 0, 1) := by decide +kernel
theorem dX11_readLoft_112 : decode cX11_readLoft 112 = .ok (.iload_n 1, 1) := by decide +kernel
theorem dX11_readLoft_113 : decode cX11_readLoft 113 = .ok (.bipush 59, 2) := by decide +kernel
theorem dX11_readLoft_115 : decode cX11_readLoft 115 = .ok (.invokevirtual 141, 3) := by decide +kernel
theorem dX11_readLoft_118 : decode cX11_readLoft 118 = .ok (.ifCond .eq 11, 3) := by decide +kernel
theorem dX11_readLoft_121 : decode cX11_readLoft 121 = .ok (.aload_n 0, 1) := by decide +kernel
theorem dX11_readLoft_122 : decode cX11_readLoft 122 = .ok (.iload_n 1, 1) := by decide +kernel
theorem dX11_readLoft_123 : decode cX11_readLoft 123 = .ok (.invokevirtual 149, 3) := by decide +kernel
theorem dX11_readLoft_126 : decode cX11_readLoft 126 = .ok (.ifCond .ne (-40), 3) := by decide +kernel
theorem dX11_readLoft_129 : decode cX11_readLoft 129 = .ok (.iconst 0, 1) := by decide +kernel
theorem dX11_readLoft_130 : decode cX11_readLoft 130 = .ok (.ireturn, 1) := by decide +kernel
theorem dX11_readLoft_131 : decode cX11_readLoft 131 = .ok (.aload_n 0, 1) := by decide +kernel
theorem dX11_readLoft_132 : decode cX11_readLoft 132 = .ok (.getfield 90, 3) := by decide +kernel
theorem dX11_readLoft_135 : decode cX11_readLoft 135 = .ok (.iload_n 1, 1) := by decide +kernel
theorem dX11_readLoft_136 : decode cX11_readLoft 136 = .ok (.if_icmp .ne 7, 3) := by decide +kernel
theorem dX11_readLoft_139 : decode cX11_readLoft 139 = .ok (.iconst 1, 1) := by decide +kernel
theorem dX11_readLoft_140 : decode cX11_readLoft 140 = .ok (.goto 4, 3) := by decide +kernel
theorem dX11_readLoft_143 : decode cX11_readLoft 143 = .ok (.iconst 0, 1) := by decide +kernel
theorem dX11_readLoft_144 : decode cX11_readLoft 144 = .ok (.ireturn, 1) := by decide +kernel
set_option maxRecDepth 20000 in
theorem ggX11_readBatten_X11_digit : GoodIn wsX11_readBatten wsX11_digit := goodIn_r _ [9, 1, 2, 10, 11, 8, 12, 13, 14, 15, 16, 17, 18, 19, 20, 21, 22, 23, 24, 25, 26, 27, 28, 29, 30, 31, 32, 33, 34, 35, 36, 37, 38, 39, 40, 41, 42, 43, 44, 45, 46, 47, 48, 49, 50, 51] (by decide +kernel) (by decide +kernel)
set_option maxRecDepth 20000 in
theorem gX11_readBatten_X11_digit : GoodIn wsX11_readBatten (wsV RX11 145 RX11 yX11_digit wsX11_digit) := goodIn_app (goodIn_of _ (by decide +kernel)) ggX11_readBatten_X11_digit
theorem dX11_readBatten_0 : decode cX11_readBatten 0 = .ok (.aload_n 0, 1) := by decide +kernel
theorem dX11_readBatten_1 : decode cX11_readBatten 1 = .ok (.getfield 90, 3) := by decide +kernel
theorem dX11_readBatten_4 : decode cX11_readBatten 4 = .ok (.iload_n 1, 1) := by decide +kernel
theorem dX11_readBatten_5 : decode cX11_readBatten 5 = .ok (.if_icmp .ge 15, 3) := by decide +kernel
theorem dX11_readBatten_8 : decode cX11_readBatten 8 = .ok (.aload_n 0, 1) := by decide +kernel
theorem dX11_readBatten_9 : decode cX11_readBatten 9 = .ok (.getfield 16, 3) := by decide +kernel
theorem dX11_readBatten_12 : decode cX11_readBatten 12 = .ok (.aload_n 0, 1) := by decide +kernel
theorem dX11_readBatten_13 : decode cX11_readBatten 13 = .ok (.getfield 90, 3) := by decide +kernel
theorem dX11_readBatten_16 : decode cX11_readBatten 16 = .ok (.iaload, 1) := by decide +kernel
theorem dX11_readBatten_17 : decode cX11_readBatten 17 = .ok (.goto 4, 3) := by decide +kernel
theorem dX11_readBatten_20 : decode cX11_readBatten 20 = .ok (.iconst 0, 1) := by decide +kernel
theorem dX11_readBatten_21 : decode cX11_readBatten 21 = .ok (.istore_n 2, 1) := by decide +kernel
theorem dX11_readBatten_22 : decode cX11_readBatten 22 = .ok (.iconst 5, 1) := by decide +kernel
theorem dX11_readBatten_23 : decode cX11_readBatten 23 = .ok (.aload_n 0, 1) := by decide +kernel
theorem dX11_readBatten_24 : decode cX11_readBatten 24 = .ok (.getfield 132, 3) := by decide +kernel
theorem dX11_readBatten_27 : decode cX11_readBatten 27 = .ok (.imul, 1) := by decide +kernel
theorem dX11_readBatten_28 : decode cX11_readBatten 28 = .ok (.istore_n 3, 1) := by decide +kernel
theorem dX11_readBatten_29 : decode cX11_readBatten 29 = .ok (.aload_n 0, 1) := by decide +kernel
theorem dX11_readBatten_30 : decode cX11_readBatten 30 = .ok (.getfield 34, 3) := by decide +kernel
theorem dX11_readBatten_33 : decode cX11_readBatten 33 = .ok (.iload_n 3, 1) := by decide +kernel
theorem dX11_readBatten_34 : decode cX11_readBatten 34 = .ok (.iload_n 2, 1) := by decide +kernel
theorem dX11_readBatten_35 : decode cX11_readBatten 35 = .ok (.bipush 108, 2) := by decide +kernel
theorem dX11_readBatten_37 : decode cX11_readBatten 37 = .ok (.if_icmp .ne 7, 3) := by decide +kernel
theorem dX11_readBatten_40 : decode cX11_readBatten 40 = .ok (.iconst 0, 1) := by decide +kernel
theorem dX11_readBatten_41 : decode cX11_readBatten 41 = .ok (.goto 25, 3) := by decide +kernel
theorem dX11_readBatten_44 : decode cX11_readBatten 44 = .ok (.iload_n 2, 1) := by decide +kernel
theorem dX11_readBatten_45 : decode cX11_readBatten 45 = .ok (.bipush 97, 2) := by decide +kernel
theorem dX11_readBatten_47 : decode cX11_readBatten 47 = .ok (.if_icmp .ne 7, 3) := by decide +kernel
theorem dX11_readBatten_50 : decode cX11_readBatten 50 = .ok (.iconst 1, 1) := by decide +kernel
theorem dX11_readBatten_51 : decode cX11_readBatten 51 = .ok (.goto 15, 3) := by decide +kernel
theorem dX11_readBatten_54 : decode cX11_readBatten 54 = .ok (.iload_n 2, 1) := by decide +kernel
theorem dX11_readBatten_55 : decode cX11_readBatten 55 = .ok (.bipush 119, 2) := by decide +kernel
theorem dX11_readBatten_57 : decode cX11_readBatten 57 = .ok (.if_icmp .ne 7, 3) := by decide +kernel
theorem dX11_readBatten_60 : decode cX11_readBatten 60 = .ok (.iconst 2, 1) := by decide +kernel
theorem dX11_readBatten_61 : decode cX11_readBatten 61 = .ok (.goto 5, 3) := by decide +kernel
theorem dX11_readBatten_64 : decode cX11_readBatten 64 = .ok (.bipush (-9), 2) := by decide +kernel
theorem dX11_readBatten_66 : decode cX11_readBatten 66 = .ok (.iastore, 1) := by decide +kernel
theorem dX11_readBatten_67 : decode cX11_readBatten 67 = .ok (.aload_n 0, 1) := by decide +kernel
theorem dX11_readBatten_68 : decode cX11_readBatten 68 = .ok (.getfield 34, 3) := by decide +kernel
theorem dX11_readBatten_71 : decode cX11_readBatten 71 = .ok (.iload_n 3, 1) := by decide +kernel
theorem dX11_readBatten_72 : decode cX11_readBatten 72 = .ok (.iaload, 1) := by decide +kernel
theorem dX11_readBatten_73 : decode cX11_readBatten 73 = .ok (.bipush (-9), 2) := by decide +kernel
theorem dX11_readBatten_75 : decode cX11_readBatten 75 = .ok (.if_icmp .ne 5, 3) := by decide +kernel
theorem dX11_readBatten_78 : decode cX11_readBatten 78 = .ok (.iconst 0, 1) := by decide +kernel
theorem dX11_readBatten_79 : decode cX11_readBatten 79 = .ok (.ireturn, 1) := by decide +kernel
theorem dX11_readBatten_80 : decode cX11_readBatten 80 = .ok (.aload_n 0, 1) := by decide +kernel
theorem dX11_readBatten_81 : decode cX11_readBatten 81 = .ok (.dup, 1) := by decide +kernel
theorem dX11_readBatten_82 : decode cX11_readBatten 82 = .ok (.getfield 90, 3) := by decide +kernel
theorem dX11_readBatten_85 : decode cX11_readBatten 85 = .ok (.iconst 1, 1) := by decide +kernel
theorem dX11_readBatten_86 : decode cX11_readBatten 86 = .ok (.iadd, 1) := by decide +kernel
theorem dX11_readBatten_87 : decode cX11_readBatten 87 = .ok (.putfield 90, 3) := by decide +kernel
theorem dX11_readBatten_90 : decode cX11_readBatten 90 = .ok (.iconst 1, 1) := by decide +kernel
theorem dX11_readBatten_91 : decode cX11_readBatten 91 = .ok (.istore 4, 2) := by decide +kernel
theorem dX11_readBatten_93 : decode cX11_readBatten 93 = .ok (.iload 4, 2) := by decide +kernel
theorem dX11_readBatten_95 : decode cX11_readBatten 95 = .ok (.iconst 5, 1) := by decide +kernel
theorem dX11_readBatten_96 : decode cX11_readBatten 96 = .ok (.if_icmp .ge 52, 3) := by decide +kernel
theorem dX11_readBatten_99 : decode cX11_readBatten 99 = .ok (.aload_n 0, 1) := by decide +kernel
theorem dX11_readBatten_100 : decode cX11_readBatten 100 = .ok (.getfield 34, 3) := by decide +kernel
theorem dX11_readBatten_103 : decode cX11_readBatten 103 = .ok (.iload_n 3, 1) := by decide +kernel
theorem dX11_readBatten_104 : decode cX11_readBatten 104 = .ok (.iload 4, 2) := by decide +kernel
theorem dX11_readBatten_106 : decode cX11_readBatten 106 = .ok (.iadd, 1) := by decide +kernel
theorem dX11_readBatten_107 : decode cX11_readBatten 107 = .ok (.aload_n 0, 1) := by decide +kernel
theorem dX11_readBatten_108 : decode cX11_readBatten 108 = .ok (.iload_n 1, 1) := by decide +kernel
theorem dX11_readBatten_109 : decode cX11_readBatten 109 = .ok (.iconst 0, 1) := by decide +kernel
theorem dX11_readBatten_110 : decode cX11_readBatten 110 = .ok (.iload 4, 2) := by decide +kernel
theorem dX11_readBatten_112 : decode cX11_readBatten 112 = .ok (.iconst 4, 1) := by decide +kernel
theorem dX11_readBatten_113 : decode cX11_readBatten 113 = .ok (.if_icmp .ne 7, 3) := by decide +kernel
theorem dX11_readBatten_116 : decode cX11_readBatten 116 = .ok (.iconst 3, 1) := by decide +kernel
theorem dX11_readBatten_117 : decode cX11_readBatten 117 = .ok (.goto 5, 3) := by decide +kernel
theorem dX11_readBatten_120 : decode cX11_readBatten 120 = .ok (.bipush 9, 2) := by decide +kernel
theorem dX11_readBatten_122 : decode cX11_readBatten 122 = .ok (.invokevirtual 145, 3) := by decide +kernel
theorem dX11_readBatten_125 : decode cX11_readBatten 125 = .ok (.iastore, 1) := by decide +kernel
theorem dX11_readBatten_126 : decode cX11_readBatten 126 = .ok (.aload_n 0, 1) := by decide +kernel
theorem dX11_readBatten_127 : decode cX11_readBatten 127 = .ok (.getfield 34, 3) := by decide +kernel
theorem dX11_readBatten_130 : decode cX11_readBatten 130 = .ok (.iload_n 3, 1) := by decide +kernel
theorem dX11_readBatten_131 : decode cX11_readBatten 131 = .ok (.iload 4, 2) := by decide +kernel
theorem dX11_readBatten_133 : decode cX11_readBatten 133 = .ok (.iadd, 1) := by decide +kernel
theorem dX11_readBatten_134 : decode cX11_readBatten 134 = .ok (.iaload, 1) := by decide +kernel
theorem dX11_readBatten_135 : decode cX11_readBatten 135 = .ok (.bipush (-9), 2) := by decide +kernel
theorem dX11_readBatten_137 : decode cX11_readBatten 137 = .ok (.if_icmp .ne 5, 3) := by decide +kernel
theorem dX11_readBatten_140 : decode cX11_readBatten 140 = .ok (.iconst 0, 1) := by decide +kernel
theorem dX11_readBatten_141 : decode cX11_readBatten 141 = .ok (.ireturn, 1) := by decide +kernel
theorem dX11_readBatten_142 : decode cX11_readBatten 142 = .ok (.iinc 4 1, 3) := by decide +kernel
theorem dX11_readBatten_145 : decode cX11_readBatten 145 = .ok (.goto (-52), 3) := by decide +kernel
theorem dX11_readBatten_148 : decode cX11_readBatten 148 = .ok (.aload_n 0, 1) := by decide +kernel
theorem dX11_readBatten_149 : decode cX11_readBatten 149 = .ok (.dup, 1) := by decide +kernel
theorem dX11_readBatten_150 : decode cX11_readBatten 150 = .ok (.getfield 132, 3) := by decide +kernel
theorem dX11_readBatten_153 : decode cX11_readBatten 153 = .ok (.iconst 1, 1) := by decide +kernel
theorem dX11_readBatten_154 : decode cX11_readBatten 154 = .ok (.iadd, 1) := by decide +kernel
theorem dX11_readBatten_155 : decode cX11_readBatten 155 = .ok (.putfield 132, 3) := by decide +kernel
theorem dX11_readBatten_158 : decode cX11_readBatten 158 = .ok (.iconst 1, 1) := by decide +kernel
theorem dX11_readBatten_159 : decode cX11_readBatten 159 = .ok (.ireturn, 1) := by decide +kernel
theorem dX11_pullOf_0 : decode cX11_pullOf 0 = .ok (.aload_n 0, 1) := by decide +kernel
theorem dX11_pullOf_1 : decode cX11_pullOf 1 = .ok (.getfield 22, 3) := by decide +kernel
theorem dX11_pullOf_4 : decode cX11_pullOf 4 = .ok (.iload_n 1, 1) := by decide +kernel
theorem dX11_pullOf_5 : decode cX11_pullOf 5 = .ok (.iaload, 1) := by decide +kernel
theorem dX11_pullOf_6 : decode cX11_pullOf 6 = .ok (.aload_n 0, 1) := by decide +kernel
theorem dX11_pullOf_7 : decode cX11_pullOf 7 = .ok (.getfield 25, 3) := by decide +kernel
theorem dX11_pullOf_10 : decode cX11_pullOf 10 = .ok (.iload_n 1, 1) := by decide +kernel
theorem dX11_pullOf_11 : decode cX11_pullOf 11 = .ok (.iaload, 1) := by decide +kernel
theorem dX11_pullOf_12 : decode cX11_pullOf 12 = .ok (.if_icmp .le 19, 3) := by decide +kernel
theorem dX11_pullOf_15 : decode cX11_pullOf 15 = .ok (.aload_n 0, 1) := by decide +kernel
theorem dX11_pullOf_16 : decode cX11_pullOf 16 = .ok (.getfield 22, 3) := by decide +kernel
theorem dX11_pullOf_19 : decode cX11_pullOf 19 = .ok (.iload_n 1, 1) := by decide +kernel
theorem dX11_pullOf_20 : decode cX11_pullOf 20 = .ok (.iaload, 1) := by decide +kernel
theorem dX11_pullOf_21 : decode cX11_pullOf 21 = .ok (.aload_n 0, 1) := by decide +kernel
theorem dX11_pullOf_22 : decode cX11_pullOf 22 = .ok (.getfield 25, 3) := by decide +kernel
theorem dX11_pullOf_25 : decode cX11_pullOf 25 = .ok (.iload_n 1, 1) := by decide +kernel
theorem dX11_pullOf_26 : decode cX11_pullOf 26 = .ok (.iaload, 1) := by decide +kernel
theorem dX11_pullOf_27 : decode cX11_pullOf 27 = .ok (.isub, 1) := by decide +kernel
theorem dX11_pullOf_28 : decode cX11_pullOf 28 = .ok (.goto 16, 3) := by decide +kernel
theorem dX11_pullOf_31 : decode cX11_pullOf 31 = .ok (.aload_n 0, 1) := by decide +kernel
theorem dX11_pullOf_32 : decode cX11_pullOf 32 = .ok (.getfield 25, 3) := by decide +kernel
theorem dX11_pullOf_35 : decode cX11_pullOf 35 = .ok (.iload_n 1, 1) := by decide +kernel
theorem dX11_pullOf_36 : decode cX11_pullOf 36 = .ok (.iaload, 1) := by decide +kernel
theorem dX11_pullOf_37 : decode cX11_pullOf 37 = .ok (.aload_n 0, 1) := by decide +kernel
theorem dX11_pullOf_38 : decode cX11_pullOf 38 = .ok (.getfield 22, 3) := by decide +kernel
theorem dX11_pullOf_41 : decode cX11_pullOf 41 = .ok (.iload_n 1, 1) := by decide +kernel
theorem dX11_pullOf_42 : decode cX11_pullOf 42 = .ok (.iaload, 1) := by decide +kernel
theorem dX11_pullOf_43 : decode cX11_pullOf 43 = .ok (.isub, 1) := by decide +kernel
theorem dX11_pullOf_44 : decode cX11_pullOf 44 = .ok (.istore_n 2, 1) := by decide +kernel
theorem dX11_pullOf_45 : decode cX11_pullOf 45 = .ok (.aload_n 0, 1) := by decide +kernel
theorem dX11_pullOf_46 : decode cX11_pullOf 46 = .ok (.getfield 19, 3) := by decide +kernel
theorem dX11_pullOf_49 : decode cX11_pullOf 49 = .ok (.iload_n 1, 1) := by decide +kernel
theorem dX11_pullOf_50 : decode cX11_pullOf 50 = .ok (.iaload, 1) := by decide +kernel
theorem dX11_pullOf_51 : decode cX11_pullOf 51 = .ok (.iconst 1, 1) := by decide +kernel
theorem dX11_pullOf_52 : decode cX11_pullOf 52 = .ok (.if_icmp .ne 15, 3) := by decide +kernel
theorem dX11_pullOf_55 : decode cX11_pullOf 55 = .ok (.iload_n 2, 1) := by decide +kernel
theorem dX11_pullOf_56 : decode cX11_pullOf 56 = .ok (.ifCond .le 9, 3) := by decide +kernel
theorem dX11_pullOf_59 : decode cX11_pullOf 59 = .ok (.iload_n 2, 1) := by decide +kernel
theorem dX11_pullOf_60 : decode cX11_pullOf 60 = .ok (.iconst 1, 1) := by decide +kernel
theorem dX11_pullOf_61 : decode cX11_pullOf 61 = .ok (.isub, 1) := by decide +kernel
theorem dX11_pullOf_62 : decode cX11_pullOf 62 = .ok (.goto 4, 3) := by decide +kernel
theorem dX11_pullOf_65 : decode cX11_pullOf 65 = .ok (.iconst 0, 1) := by decide +kernel
theorem dX11_pullOf_66 : decode cX11_pullOf 66 = .ok (.ireturn, 1) := by decide +kernel
theorem dX11_pullOf_67 : decode cX11_pullOf 67 = .ok (.aload_n 0, 1) := by decide +kernel
theorem dX11_pullOf_68 : decode cX11_pullOf 68 = .ok (.getfield 19, 3) := by decide +kernel
theorem dX11_pullOf_71 : decode cX11_pullOf 71 = .ok (.iload_n 1, 1) := by decide +kernel
theorem dX11_pullOf_72 : decode cX11_pullOf 72 = .ok (.iaload, 1) := by decide +kernel
theorem dX11_pullOf_73 : decode cX11_pullOf 73 = .ok (.ifCond .ne 7, 3) := by decide +kernel
theorem dX11_pullOf_76 : decode cX11_pullOf 76 = .ok (.iload_n 2, 1) := by decide +kernel
theorem dX11_pullOf_77 : decode cX11_pullOf 77 = .ok (.goto 6, 3) := by decide +kernel
theorem dX11_pullOf_80 : decode cX11_pullOf 80 = .ok (.iload_n 2, 1) := by decide +kernel
theorem dX11_pullOf_81 : decode cX11_pullOf 81 = .ok (.iconst 2, 1) := by decide +kernel
theorem dX11_pullOf_82 : decode cX11_pullOf 82 = .ok (.idiv, 1) := by decide +kernel
theorem dX11_pullOf_83 : decode cX11_pullOf 83 = .ok (.ireturn, 1) := by decide +kernel
theorem dX11_edgeOf_0 : decode cX11_edgeOf 0 = .ok (.aload_n 0, 1) := by decide +kernel
theorem dX11_edgeOf_1 : decode cX11_edgeOf 1 = .ok (.getfield 28, 3) := by decide +kernel
theorem dX11_edgeOf_4 : decode cX11_edgeOf 4 = .ok (.iload_n 1, 1) := by decide +kernel
theorem dX11_edgeOf_5 : decode cX11_edgeOf 5 = .ok (.iaload, 1) := by decide +kernel
theorem dX11_edgeOf_6 : decode cX11_edgeOf 6 = .ok (.aload_n 0, 1) := by decide +kernel
theorem dX11_edgeOf_7 : decode cX11_edgeOf 7 = .ok (.getfield 31, 3) := by decide +kernel
theorem dX11_edgeOf_10 : decode cX11_edgeOf 10 = .ok (.iload_n 1, 1) := by decide +kernel
theorem dX11_edgeOf_11 : decode cX11_edgeOf 11 = .ok (.iaload, 1) := by decide +kernel
theorem dX11_edgeOf_12 : decode cX11_edgeOf 12 = .ok (.if_icmp .le 19, 3) := by decide +kernel
theorem dX11_edgeOf_15 : decode cX11_edgeOf 15 = .ok (.aload_n 0, 1) := by decide +kernel
theorem dX11_edgeOf_16 : decode cX11_edgeOf 16 = .ok (.getfield 28, 3) := by decide +kernel
theorem dX11_edgeOf_19 : decode cX11_edgeOf 19 = .ok (.iload_n 1, 1) := by decide +kernel
theorem dX11_edgeOf_20 : decode cX11_edgeOf 20 = .ok (.iaload, 1) := by decide +kernel
theorem dX11_edgeOf_21 : decode cX11_edgeOf 21 = .ok (.aload_n 0, 1) := by decide +kernel
theorem dX11_edgeOf_22 : decode cX11_edgeOf 22 = .ok (.getfield 31, 3) := by decide +kernel
theorem dX11_edgeOf_25 : decode cX11_edgeOf 25 = .ok (.iload_n 1, 1) := by decide +kernel
theorem dX11_edgeOf_26 : decode cX11_edgeOf 26 = .ok (.iaload, 1) := by decide +kernel
theorem dX11_edgeOf_27 : decode cX11_edgeOf 27 = .ok (.isub, 1) := by decide +kernel
theorem dX11_edgeOf_28 : decode cX11_edgeOf 28 = .ok (.goto 4, 3) := by decide +kernel
theorem dX11_edgeOf_31 : decode cX11_edgeOf 31 = .ok (.iconst 0, 1) := by decide +kernel
theorem dX11_edgeOf_32 : decode cX11_edgeOf 32 = .ok (.ireturn, 1) := by decide +kernel
set_option maxRecDepth 20000 in
theorem ggX11_ofBatten_X11_isBatten : GoodIn wsX11_ofBatten wsX11_isBatten := goodIn_r _ [10, 11, 20, 21, 22, 23, 24, 25, 26, 27, 28, 29, 30, 31, 32, 33, 34, 35, 36, 37, 38, 39, 40, 41, 42, 43, 44, 45, 46, 47, 48, 49, 50, 51, 52, 53, 54, 55, 56, 57, 58] (by decide +kernel) (by decide +kernel)
set_option maxRecDepth 20000 in
theorem gX11_ofBatten_X11_isBatten : GoodIn wsX11_ofBatten (wsV RX11 152 RX11 yX11_isBatten wsX11_isBatten) := goodIn_app (goodIn_of _ (by decide +kernel)) ggX11_ofBatten_X11_isBatten
set_option maxRecDepth 20000 in
theorem ggX11_ofBatten_X11_pullOf : GoodIn wsX11_ofBatten wsX11_pullOf := goodIn_r _ [15, 2, 3, 1, 20, 21, 22, 23, 24, 25, 26, 27, 28, 29, 30, 31, 32, 33, 34, 35, 36, 37, 38, 39, 40, 41, 42, 43, 44, 45, 46, 47, 48, 49, 50, 51, 52, 53, 54, 55, 56, 57, 58] (by decide +kernel) (by decide +kernel)
set_option maxRecDepth 20000 in
theorem gX11_ofBatten_X11_pullOf : GoodIn wsX11_ofBatten (wsV RX11 155 RX11 yX11_pullOf wsX11_pullOf) := goodIn_app (goodIn_of _ (by decide +kernel)) ggX11_ofBatten_X11_pullOf
set_option maxRecDepth 20000 in
theorem ggX11_ofBatten_X11_edgeOf : GoodIn wsX11_ofBatten wsX11_edgeOf := goodIn_r _ [19, 4, 5, 20, 21, 22, 23, 24, 25, 26, 27, 28, 29, 30, 31, 32, 33, 34, 35, 36, 37, 38, 39, 40, 41, 42, 43, 44, 45, 46, 47, 48, 49, 50, 51, 52, 53, 54, 55, 56, 57, 58] (by decide +kernel) (by decide +kernel)
set_option maxRecDepth 20000 in
theorem gX11_ofBatten_X11_edgeOf : GoodIn wsX11_ofBatten (wsV RX11 158 RX11 yX11_edgeOf wsX11_edgeOf) := goodIn_app (goodIn_of _ (by decide +kernel)) ggX11_ofBatten_X11_edgeOf
theorem dX11_ofBatten_0 : decode cX11_ofBatten 0 = .ok (.aload_n 0, 1) := by decide +kernel
theorem dX11_ofBatten_1 : decode cX11_ofBatten 1 = .ok (.iload_n 1, 1) := by decide +kernel
theorem dX11_ofBatten_2 : decode cX11_ofBatten 2 = .ok (.invokevirtual 152, 3) := by decide +kernel
theorem dX11_ofBatten_5 : decode cX11_ofBatten 5 = .ok (.ifCond .ne 5, 3) := by decide +kernel
theorem dX11_ofBatten_8 : decode cX11_ofBatten 8 = .ok (.iconst (-1), 1) := by decide +kernel
theorem dX11_ofBatten_9 : decode cX11_ofBatten 9 = .ok (.ireturn, 1) := by decide +kernel
theorem dX11_ofBatten_10 : decode cX11_ofBatten 10 = .ok (.iload_n 2, 1) := by decide +kernel
theorem dX11_ofBatten_11 : decode cX11_ofBatten 11 = .ok (.tableswitch 88 0 6 #[41, 48, 55, 62, 69, 76, 82], 41) := by decide +kernel
theorem dX11_ofBatten_52 : decode cX11_ofBatten 52 = .ok (.aload_n 0, 1) := by decide +kernel
theorem dX11_ofBatten_53 : decode cX11_ofBatten 53 = .ok (.getfield 19, 3) := by decide +kernel
theorem dX11_ofBatten_56 : decode cX11_ofBatten 56 = .ok (.iload_n 1, 1) := by decide +kernel
theorem dX11_ofBatten_57 : decode cX11_ofBatten 57 = .ok (.iaload, 1) := by decide +kernel
theorem dX11_ofBatten_58 : decode cX11_ofBatten 58 = .ok (.ireturn, 1) := by decide +kernel
theorem dX11_ofBatten_59 : decode cX11_ofBatten 59 = .ok (.aload_n 0, 1) := by decide +kernel
theorem dX11_ofBatten_60 : decode cX11_ofBatten 60 = .ok (.getfield 22, 3) := by decide +kernel
theorem dX11_ofBatten_63 : decode cX11_ofBatten 63 = .ok (.iload_n 1, 1) := by decide +kernel
theorem dX11_ofBatten_64 : decode cX11_ofBatten 64 = .ok (.iaload, 1) := by decide +kernel
theorem dX11_ofBatten_65 : decode cX11_ofBatten 65 = .ok (.ireturn, 1) := by decide +kernel
theorem dX11_ofBatten_66 : decode cX11_ofBatten 66 = .ok (.aload_n 0, 1) := by decide +kernel
theorem dX11_ofBatten_67 : decode cX11_ofBatten 67 = .ok (.getfield 25, 3) := by decide +kernel
theorem dX11_ofBatten_70 : decode cX11_ofBatten 70 = .ok (.iload_n 1, 1) := by decide +kernel
theorem dX11_ofBatten_71 : decode cX11_ofBatten 71 = .ok (.iaload, 1) := by decide +kernel
theorem dX11_ofBatten_72 : decode cX11_ofBatten 72 = .ok (.ireturn, 1) := by decide +kernel
theorem dX11_ofBatten_73 : decode cX11_ofBatten 73 = .ok (.aload_n 0, 1) := by decide +kernel
theorem dX11_ofBatten_74 : decode cX11_ofBatten 74 = .ok (.getfield 28, 3) := by decide +kernel
theorem dX11_ofBatten_77 : decode cX11_ofBatten 77 = .ok (.iload_n 1, 1) := by decide +kernel
theorem dX11_ofBatten_78 : decode cX11_ofBatten 78 = .ok (.iaload, 1) := by decide +kernel
theorem dX11_ofBatten_79 : decode cX11_ofBatten 79 = .ok (.ireturn, 1) := by decide +kernel
theorem dX11_ofBatten_80 : decode cX11_ofBatten 80 = .ok (.aload_n 0, 1) := by decide +kernel
theorem dX11_ofBatten_81 : decode cX11_ofBatten 81 = .ok (.getfield 31, 3) := by decide +kernel
theorem dX11_ofBatten_84 : decode cX11_ofBatten 84 = .ok (.iload_n 1, 1) := by decide +kernel
theorem dX11_ofBatten_85 : decode cX11_ofBatten 85 = .ok (.iaload, 1) := by decide +kernel
theorem dX11_ofBatten_86 : decode cX11_ofBatten 86 = .ok (.ireturn, 1) := by decide +kernel
theorem dX11_ofBatten_87 : decode cX11_ofBatten 87 = .ok (.aload_n 0, 1) := by decide +kernel
theorem dX11_ofBatten_88 : decode cX11_ofBatten 88 = .ok (.iload_n 1, 1) := by decide +kernel
theorem dX11_ofBatten_89 : decode cX11_ofBatten 89 = .ok (.invokevirtual 155, 3) := by decide +kernel
theorem dX11_ofBatten_92 : decode cX11_ofBatten 92 = .ok (.ireturn, 1) := by decide +kernel
theorem dX11_ofBatten_93 : decode cX11_ofBatten 93 = .ok (.aload_n 0, 1) := by decide +kernel
theorem dX11_ofBatten_94 : decode cX11_ofBatten 94 = .ok (.iload_n 1, 1) := by decide +kernel
theorem dX11_ofBatten_95 : decode cX11_ofBatten 95 = .ok (.invokevirtual 158, 3) := by decide +kernel
theorem dX11_ofBatten_98 : decode cX11_ofBatten 98 = .ok (.ireturn, 1) := by decide +kernel
theorem dX11_ofBatten_99 : decode cX11_ofBatten 99 = .ok (.bipush (-2), 2) := by decide +kernel
theorem dX11_ofBatten_101 : decode cX11_ofBatten 101 = .ok (.ireturn, 1) := by decide +kernel
set_option maxRecDepth 20000 in
theorem ggX11_seenNow_X11_edgeOf : GoodIn wsX11_seenNow wsX11_edgeOf := goodIn_r _ [7, 8, 9, 10, 11, 12, 13, 14, 15, 16, 17, 18, 19, 20, 21, 22, 23, 24, 25, 26, 27, 28, 29, 30, 31, 32, 33, 34, 35, 36, 37, 38, 39, 40, 41, 42, 43, 44, 45, 46, 47, 48] (by decide +kernel) (by decide +kernel)
set_option maxRecDepth 20000 in
theorem gX11_seenNow_X11_edgeOf : GoodIn wsX11_seenNow (wsV RX11 158 RX11 yX11_edgeOf wsX11_edgeOf) := goodIn_app (goodIn_of _ (by decide +kernel)) ggX11_seenNow_X11_edgeOf
theorem dX11_seenNow_0 : decode cX11_seenNow 0 = .ok (.iconst 0, 1) := by decide +kernel
theorem dX11_seenNow_1 : decode cX11_seenNow 1 = .ok (.istore_n 1, 1) := by decide +kernel
theorem dX11_seenNow_2 : decode cX11_seenNow 2 = .ok (.aload_n 0, 1) := by decide +kernel
theorem dX11_seenNow_3 : decode cX11_seenNow 3 = .ok (.getfield 123, 3) := by decide +kernel
theorem dX11_seenNow_6 : decode cX11_seenNow 6 = .ok (.istore_n 2, 1) := by decide +kernel
theorem dX11_seenNow_7 : decode cX11_seenNow 7 = .ok (.iconst 0, 1) := by decide +kernel
theorem dX11_seenNow_8 : decode cX11_seenNow 8 = .ok (.istore_n 3, 1) := by decide +kernel
theorem dX11_seenNow_9 : decode cX11_seenNow 9 = .ok (.iload_n 3, 1) := by decide +kernel
theorem dX11_seenNow_10 : decode cX11_seenNow 10 = .ok (.aload_n 0, 1) := by decide +kernel
theorem dX11_seenNow_11 : decode cX11_seenNow 11 = .ok (.getfield 87, 3) := by decide +kernel
theorem dX11_seenNow_14 : decode cX11_seenNow 14 = .ok (.if_icmp .ge 30, 3) := by decide +kernel
theorem dX11_seenNow_17 : decode cX11_seenNow 17 = .ok (.aload_n 0, 1) := by decide +kernel
theorem dX11_seenNow_18 : decode cX11_seenNow 18 = .ok (.iload_n 3, 1) := by decide +kernel
theorem dX11_seenNow_19 : decode cX11_seenNow 19 = .ok (.invokevirtual 158, 3) := by decide +kernel
theorem dX11_seenNow_22 : decode cX11_seenNow 22 = .ok (.iload_n 2, 1) := by decide +kernel
theorem dX11_seenNow_23 : decode cX11_seenNow 23 = .ok (.if_icmp .ge 15, 3) := by decide +kernel
theorem dX11_seenNow_26 : decode cX11_seenNow 26 = .ok (.iload_n 1, 1) := by decide +kernel
theorem dX11_seenNow_27 : decode cX11_seenNow 27 = .ok (.iconst 1, 1) := by decide +kernel
theorem dX11_seenNow_28 : decode cX11_seenNow 28 = .ok (.iload_n 3, 1) := by decide +kernel
theorem dX11_seenNow_29 : decode cX11_seenNow 29 = .ok (.ishl, 1) := by decide +kernel
theorem dX11_seenNow_30 : decode cX11_seenNow 30 = .ok (.ior, 1) := by decide +kernel
theorem dX11_seenNow_31 : decode cX11_seenNow 31 = .ok (.istore_n 1, 1) := by decide +kernel
theorem dX11_seenNow_32 : decode cX11_seenNow 32 = .ok (.aload_n 0, 1) := by decide +kernel
theorem dX11_seenNow_33 : decode cX11_seenNow 33 = .ok (.iload_n 3, 1) := by decide +kernel
theorem dX11_seenNow_34 : decode cX11_seenNow 34 = .ok (.invokevirtual 158, 3) := by decide +kernel
theorem dX11_seenNow_37 : decode cX11_seenNow 37 = .ok (.istore_n 2, 1) := by decide +kernel
theorem dX11_seenNow_38 : decode cX11_seenNow 38 = .ok (.iinc 3 1, 3) := by decide +kernel
theorem dX11_seenNow_41 : decode cX11_seenNow 41 = .ok (.goto (-32), 3) := by decide +kernel
theorem dX11_seenNow_44 : decode cX11_seenNow 44 = .ok (.iload_n 1, 1) := by decide +kernel
theorem dX11_seenNow_45 : decode cX11_seenNow 45 = .ok (.ireturn, 1) := by decide +kernel
set_option maxRecDepth 20000 in
theorem ggX11_seen_X11_seenNow : GoodIn wsX11_seen wsX11_seenNow := goodIn_r _ [6, 7, 1, 8, 9, 10, 5, 11, 12, 13, 14, 15, 16, 17, 18, 19, 20, 21, 22, 23, 24, 25, 26, 27, 28, 29, 30, 31, 32, 33, 34, 35, 36, 37, 38, 39, 40, 41, 42, 43, 44, 45, 46, 47, 48, 49, 50, 51, 52] (by decide +kernel) (by decide +kernel)
set_option maxRecDepth 20000 in
theorem gX11_seen_X11_seenNow : GoodIn wsX11_seen (wsV RX11 161 RX11 yX11_seenNow wsX11_seenNow) := goodIn_app (goodIn_of _ (by decide +kernel)) ggX11_seen_X11_seenNow
theorem dX11_seen_0 : decode cX11_seen 0 = .ok (.aload_n 0, 1) := by decide +kernel
theorem dX11_seen_1 : decode cX11_seen 1 = .ok (.getfield 87, 3) := by decide +kernel
theorem dX11_seen_4 : decode cX11_seen 4 = .ok (.ifCond .ne 8, 3) := by decide +kernel
theorem dX11_seen_7 : decode cX11_seen 7 = .ok (.bipush (-3), 2) := by decide +kernel
theorem dX11_seen_9 : decode cX11_seen 9 = .ok (.goto 7, 3) := by decide +kernel
theorem dX11_seen_12 : decode cX11_seen 12 = .ok (.aload_n 0, 1) := by decide +kernel
theorem dX11_seen_13 : decode cX11_seen 13 = .ok (.invokevirtual 161, 3) := by decide +kernel
theorem dX11_seen_16 : decode cX11_seen 16 = .ok (.ireturn, 1) := by decide +kernel
set_option maxRecDepth 20000 in
theorem ggX11_hides_X11_isBatten : GoodIn wsX11_hides wsX11_isBatten := goodIn_r _ [6, 7, 14, 15, 16, 17, 18, 19, 20, 21, 22, 23, 24, 25, 26, 27, 28, 29, 30, 31, 32, 33, 34, 35, 36, 37, 38, 39, 40, 41, 42, 43, 44, 45, 46, 47, 48, 49, 50, 51, 52] (by decide +kernel) (by decide +kernel)
set_option maxRecDepth 20000 in
theorem gX11_hides_X11_isBatten : GoodIn wsX11_hides (wsV RX11 152 RX11 yX11_isBatten wsX11_isBatten) := goodIn_app (goodIn_of _ (by decide +kernel)) ggX11_hides_X11_isBatten
set_option maxRecDepth 20000 in
theorem ggX11_hides_X11_edgeOf : GoodIn wsX11_hides wsX11_edgeOf := goodIn_r _ [11, 12, 13, 14, 15, 16, 17, 18, 19, 20, 21, 22, 23, 24, 25, 26, 27, 28, 29, 30, 31, 32, 33, 34, 35, 36, 37, 38, 39, 40, 41, 42, 43, 44, 45, 46, 47, 48, 49, 50, 51, 52] (by decide +kernel) (by decide +kernel)
set_option maxRecDepth 20000 in
theorem gX11_hides_X11_edgeOf : GoodIn wsX11_hides (wsV RX11 158 RX11 yX11_edgeOf wsX11_edgeOf) := goodIn_app (goodIn_of _ (by decide +kernel)) ggX11_hides_X11_edgeOf
theorem dX11_hides_0 : decode cX11_hides 0 = .ok (.aload_n 0, 1) := by decide +kernel
theorem dX11_hides_1 : decode cX11_hides 1 = .ok (.iload_n 1, 1) := by decide +kernel
theorem dX11_hides_2 : decode cX11_hides 2 = .ok (.invokevirtual 152, 3) := by decide +kernel
theorem dX11_hides_5 : decode cX11_hides 5 = .ok (.ifCond .ne 5, 3) := by decide +kernel
theorem dX11_hides_8 : decode cX11_hides 8 = .ok (.iconst (-1), 1) := by decide +kernel
theorem dX11_hides_9 : decode cX11_hides 9 = .ok (.ireturn, 1) := by decide +kernel
theorem dX11_hides_10 : decode cX11_hides 10 = .ok (.iconst 0, 1) := by decide +kernel
theorem dX11_hides_11 : decode cX11_hides 11 = .ok (.istore_n 2, 1) := by decide +kernel
theorem dX11_hides_12 : decode cX11_hides 12 = .ok (.iload_n 2, 1) := by decide +kernel
theorem dX11_hides_13 : decode cX11_hides 13 = .ok (.iload_n 1, 1) := by decide +kernel
theorem dX11_hides_14 : decode cX11_hides 14 = .ok (.if_icmp .ge 36, 3) := by decide +kernel
theorem dX11_hides_17 : decode cX11_hides 17 = .ok (.aload_n 0, 1) := by decide +kernel
theorem dX11_hides_18 : decode cX11_hides 18 = .ok (.iload_n 1, 1) := by decide +kernel
theorem dX11_hides_19 : decode cX11_hides 19 = .ok (.invokevirtual 158, 3) := by decide +kernel
theorem dX11_hides_22 : decode cX11_hides 22 = .ok (.aload_n 0, 1) := by decide +kernel
theorem dX11_hides_23 : decode cX11_hides 23 = .ok (.getfield 123, 3) := by decide +kernel
theorem dX11_hides_26 : decode cX11_hides 26 = .ok (.if_icmp .ge 18, 3) := by decide +kernel
theorem dX11_hides_29 : decode cX11_hides 29 = .ok (.aload_n 0, 1) := by decide +kernel
theorem dX11_hides_30 : decode cX11_hides 30 = .ok (.iload_n 2, 1) := by decide +kernel
theorem dX11_hides_31 : decode cX11_hides 31 = .ok (.invokevirtual 158, 3) := by decide +kernel
theorem dX11_hides_34 : decode cX11_hides 34 = .ok (.aload_n 0, 1) := by decide +kernel
theorem dX11_hides_35 : decode cX11_hides 35 = .ok (.iload_n 1, 1) := by decide +kernel
theorem dX11_hides_36 : decode cX11_hides 36 = .ok (.invokevirtual 158, 3) := by decide +kernel
theorem dX11_hides_39 : decode cX11_hides 39 = .ok (.if_icmp .gt 5, 3) := by decide +kernel
theorem dX11_hides_42 : decode cX11_hides 42 = .ok (.iload_n 2, 1) := by decide +kernel
theorem dX11_hides_43 : decode cX11_hides 43 = .ok (.ireturn, 1) := by decide +kernel
theorem dX11_hides_44 : decode cX11_hides 44 = .ok (.iinc 2 1, 3) := by decide +kernel
theorem dX11_hides_47 : decode cX11_hides 47 = .ok (.goto (-35), 3) := by decide +kernel
theorem dX11_hides_50 : decode cX11_hides 50 = .ok (.bipush (-9), 2) := by decide +kernel
theorem dX11_hides_52 : decode cX11_hides 52 = .ok (.ireturn, 1) := by decide +kernel
set_option maxRecDepth 20000 in
theorem ggX11_hire_X11_within : GoodIn wsX11_hire wsX11_within := goodIn_r _ [6] (by decide +kernel) (by decide +kernel)
set_option maxRecDepth 20000 in
theorem gX11_hire_X11_within : GoodIn wsX11_hire (va_wsS RX11 83 yX11_within wsX11_within) := goodIn_app (goodIn_of _ (by decide +kernel)) ggX11_hire_X11_within
theorem dX11_hire_0 : decode cX11_hire 0 = .ok (.iload_n 1, 1) := by decide +kernel
theorem dX11_hire_1 : decode cX11_hire 1 = .ok (.iconst 1, 1) := by decide +kernel
theorem dX11_hire_2 : decode cX11_hire 2 = .ok (.bipush 6, 2) := by decide +kernel
theorem dX11_hire_4 : decode cX11_hire 4 = .ok (.invokestatic 83, 3) := by decide +kernel
theorem dX11_hire_7 : decode cX11_hire 7 = .ok (.ifCond .ne 6, 3) := by decide +kernel
theorem dX11_hire_10 : decode cX11_hire 10 = .ok (.bipush (-2), 2) := by decide +kernel
theorem dX11_hire_12 : decode cX11_hire 12 = .ok (.ireturn, 1) := by decide +kernel
theorem dX11_hire_13 : decode cX11_hire 13 = .ok (.aload_n 0, 1) := by decide +kernel
theorem dX11_hire_14 : decode cX11_hire 14 = .ok (.getfield 87, 3) := by decide +kernel
theorem dX11_hire_17 : decode cX11_hire 17 = .ok (.ifCond .ne 6, 3) := by decide +kernel
theorem dX11_hire_20 : decode cX11_hire 20 = .ok (.bipush (-3), 2) := by decide +kernel
theorem dX11_hire_22 : decode cX11_hire 22 = .ok (.ireturn, 1) := by decide +kernel
theorem dX11_hire_23 : decode cX11_hire 23 = .ok (.aload_n 0, 1) := by decide +kernel
theorem dX11_hire_24 : decode cX11_hire 24 = .ok (.getfield 117, 3) := by decide +kernel
theorem dX11_hire_27 : decode cX11_hire 27 = .ok (.istore_n 2, 1) := by decide +kernel
theorem dX11_hire_28 : decode cX11_hire 28 = .ok (.aload_n 0, 1) := by decide +kernel
theorem dX11_hire_29 : decode cX11_hire 29 = .ok (.iload_n 1, 1) := by decide +kernel
theorem dX11_hire_30 : decode cX11_hire 30 = .ok (.putfield 117, 3) := by decide +kernel
theorem dX11_hire_33 : decode cX11_hire 33 = .ok (.iload_n 2, 1) := by decide +kernel
theorem dX11_hire_34 : decode cX11_hire 34 = .ok (.ireturn, 1) := by decide +kernel
set_option maxRecDepth 20000 in
theorem ggX11_trim_X11_within : GoodIn wsX11_trim wsX11_within := goodIn_r _ [6] (by decide +kernel) (by decide +kernel)
set_option maxRecDepth 20000 in
theorem gX11_trim_X11_within : GoodIn wsX11_trim (va_wsS RX11 83 yX11_within wsX11_within) := goodIn_app (goodIn_of _ (by decide +kernel)) ggX11_trim_X11_within
theorem dX11_trim_0 : decode cX11_trim 0 = .ok (.iload_n 1, 1) := by decide +kernel
theorem dX11_trim_1 : decode cX11_trim 1 = .ok (.iconst 1, 1) := by decide +kernel
theorem dX11_trim_2 : decode cX11_trim 2 = .ok (.bipush 9, 2) := by decide +kernel
theorem dX11_trim_4 : decode cX11_trim 4 = .ok (.invokestatic 83, 3) := by decide +kernel
theorem dX11_trim_7 : decode cX11_trim 7 = .ok (.ifCond .ne 6, 3) := by decide +kernel
theorem dX11_trim_10 : decode cX11_trim 10 = .ok (.bipush (-2), 2) := by decide +kernel
theorem dX11_trim_12 : decode cX11_trim 12 = .ok (.ireturn, 1) := by decide +kernel
theorem dX11_trim_13 : decode cX11_trim 13 = .ok (.aload_n 0, 1) := by decide +kernel
theorem dX11_trim_14 : decode cX11_trim 14 = .ok (.getfield 87, 3) := by decide +kernel
theorem dX11_trim_17 : decode cX11_trim 17 = .ok (.ifCond .ne 6, 3) := by decide +kernel
theorem dX11_trim_20 : decode cX11_trim 20 = .ok (.bipush (-3), 2) := by decide +kernel
theorem dX11_trim_22 : decode cX11_trim 22 = .ok (.ireturn, 1) := by decide +kernel
theorem dX11_trim_23 : decode cX11_trim 23 = .ok (.aload_n 0, 1) := by decide +kernel
theorem dX11_trim_24 : decode cX11_trim 24 = .ok (.getfield 123, 3) := by decide +kernel
theorem dX11_trim_27 : decode cX11_trim 27 = .ok (.istore_n 2, 1) := by decide +kernel
theorem dX11_trim_28 : decode cX11_trim 28 = .ok (.aload_n 0, 1) := by decide +kernel
theorem dX11_trim_29 : decode cX11_trim 29 = .ok (.iload_n 1, 1) := by decide +kernel
theorem dX11_trim_30 : decode cX11_trim 30 = .ok (.putfield 123, 3) := by decide +kernel
theorem dX11_trim_33 : decode cX11_trim 33 = .ok (.iload_n 2, 1) := by decide +kernel
theorem dX11_trim_34 : decode cX11_trim 34 = .ok (.ireturn, 1) := by decide +kernel
theorem dX11_goalsAsNow_0 : decode cX11_goalsAsNow 0 = .ok (.iconst 0, 1) := by decide +kernel
theorem dX11_goalsAsNow_1 : decode cX11_goalsAsNow 1 = .ok (.istore_n 1, 1) := by decide +kernel
theorem dX11_goalsAsNow_2 : decode cX11_goalsAsNow 2 = .ok (.iload_n 1, 1) := by decide +kernel
theorem dX11_goalsAsNow_3 : decode cX11_goalsAsNow 3 = .ok (.aload_n 0, 1) := by decide +kernel
theorem dX11_goalsAsNow_4 : decode cX11_goalsAsNow 4 = .ok (.getfield 87, 3) := by decide +kernel
theorem dX11_goalsAsNow_7 : decode cX11_goalsAsNow 7 = .ok (.if_icmp .ge 21, 3) := by decide +kernel
theorem dX11_goalsAsNow_10 : decode cX11_goalsAsNow 10 = .ok (.aload_n 0, 1) := by decide +kernel
theorem dX11_goalsAsNow_11 : decode cX11_goalsAsNow 11 = .ok (.getfield 37, 3) := by decide +kernel
theorem dX11_goalsAsNow_14 : decode cX11_goalsAsNow 14 = .ok (.iload_n 1, 1) := by decide +kernel
theorem dX11_goalsAsNow_15 : decode cX11_goalsAsNow 15 = .ok (.aload_n 0, 1) := by decide +kernel
theorem dX11_goalsAsNow_16 : decode cX11_goalsAsNow 16 = .ok (.getfield 28, 3) := by decide +kernel
theorem dX11_goalsAsNow_19 : decode cX11_goalsAsNow 19 = .ok (.iload_n 1, 1) := by decide +kernel
theorem dX11_goalsAsNow_20 : decode cX11_goalsAsNow 20 = .ok (.iaload, 1) := by decide +kernel
theorem dX11_goalsAsNow_21 : decode cX11_goalsAsNow 21 = .ok (.iastore, 1) := by decide +kernel
theorem dX11_goalsAsNow_22 : decode cX11_goalsAsNow 22 = .ok (.iinc 1 1, 3) := by decide +kernel
theorem dX11_goalsAsNow_25 : decode cX11_goalsAsNow 25 = .ok (.goto (-23), 3) := by decide +kernel
theorem dX11_goalsAsNow_28 : decode cX11_goalsAsNow 28 = .ok (.return_, 1) := by decide +kernel
theorem dX11_apart_0 : decode cX11_apart 0 = .ok (.iload_n 0, 1) := by decide +kernel
theorem dX11_apart_1 : decode cX11_apart 1 = .ok (.iload_n 1, 1) := by decide +kernel
theorem dX11_apart_2 : decode cX11_apart 2 = .ok (.if_icmp .ge 9, 3) := by decide +kernel
theorem dX11_apart_5 : decode cX11_apart 5 = .ok (.iload_n 1, 1) := by decide +kernel
theorem dX11_apart_6 : decode cX11_apart 6 = .ok (.iload_n 0, 1) := by decide +kernel
theorem dX11_apart_7 : decode cX11_apart 7 = .ok (.isub, 1) := by decide +kernel
theorem dX11_apart_8 : decode cX11_apart 8 = .ok (.goto 6, 3) := by decide +kernel
theorem dX11_apart_11 : decode cX11_apart 11 = .ok (.iload_n 0, 1) := by decide +kernel
theorem dX11_apart_12 : decode cX11_apart 12 = .ok (.iload_n 1, 1) := by decide +kernel
theorem dX11_apart_13 : decode cX11_apart 13 = .ok (.isub, 1) := by decide +kernel
theorem dX11_apart_14 : decode cX11_apart 14 = .ok (.ireturn, 1) := by decide +kernel
theorem dX11_fouls_0 : decode cX11_fouls 0 = .ok (.aload_n 0, 1) := by decide +kernel
theorem dX11_fouls_1 : decode cX11_fouls 1 = .ok (.getfield 31, 3) := by decide +kernel
theorem dX11_fouls_4 : decode cX11_fouls 4 = .ok (.iload_n 1, 1) := by decide +kernel
theorem dX11_fouls_5 : decode cX11_fouls 5 = .ok (.iaload, 1) := by decide +kernel
theorem dX11_fouls_6 : decode cX11_fouls 6 = .ok (.ifCond .eq 14, 3) := by decide +kernel
theorem dX11_fouls_9 : decode cX11_fouls 9 = .ok (.aload_n 0, 1) := by decide +kernel
theorem dX11_fouls_10 : decode cX11_fouls 10 = .ok (.getfield 31, 3) := by decide +kernel
theorem dX11_fouls_13 : decode cX11_fouls 13 = .ok (.iload_n 1, 1) := by decide +kernel
theorem dX11_fouls_14 : decode cX11_fouls 14 = .ok (.iconst 1, 1) := by decide +kernel
theorem dX11_fouls_15 : decode cX11_fouls 15 = .ok (.iadd, 1) := by decide +kernel
theorem dX11_fouls_16 : decode cX11_fouls 16 = .ok (.iaload, 1) := by decide +kernel
theorem dX11_fouls_17 : decode cX11_fouls 17 = .ok (.ifCond .ne 5, 3) := by decide +kernel
theorem dX11_fouls_20 : decode cX11_fouls 20 = .ok (.iconst 0, 1) := by decide +kernel
theorem dX11_fouls_21 : decode cX11_fouls 21 = .ok (.ireturn, 1) := by decide +kernel
theorem dX11_fouls_22 : decode cX11_fouls 22 = .ok (.aload_n 0, 1) := by decide +kernel
theorem dX11_fouls_23 : decode cX11_fouls 23 = .ok (.getfield 28, 3) := by decide +kernel
theorem dX11_fouls_26 : decode cX11_fouls 26 = .ok (.iload_n 1, 1) := by decide +kernel
theorem dX11_fouls_27 : decode cX11_fouls 27 = .ok (.iaload, 1) := by decide +kernel
theorem dX11_fouls_28 : decode cX11_fouls 28 = .ok (.aload_n 0, 1) := by decide +kernel
theorem dX11_fouls_29 : decode cX11_fouls 29 = .ok (.getfield 28, 3) := by decide +kernel
theorem dX11_fouls_32 : decode cX11_fouls 32 = .ok (.iload_n 1, 1) := by decide +kernel
theorem dX11_fouls_33 : decode cX11_fouls 33 = .ok (.iconst 1, 1) := by decide +kernel
theorem dX11_fouls_34 : decode cX11_fouls 34 = .ok (.iadd, 1) := by decide +kernel
theorem dX11_fouls_35 : decode cX11_fouls 35 = .ok (.iaload, 1) := by decide +kernel
theorem dX11_fouls_36 : decode cX11_fouls 36 = .ok (.if_icmp .le 20, 3) := by decide +kernel
theorem dX11_fouls_39 : decode cX11_fouls 39 = .ok (.aload_n 0, 1) := by decide +kernel
theorem dX11_fouls_40 : decode cX11_fouls 40 = .ok (.getfield 37, 3) := by decide +kernel
theorem dX11_fouls_43 : decode cX11_fouls 43 = .ok (.iload_n 1, 1) := by decide +kernel
theorem dX11_fouls_44 : decode cX11_fouls 44 = .ok (.iaload, 1) := by decide +kernel
theorem dX11_fouls_45 : decode cX11_fouls 45 = .ok (.aload_n 0, 1) := by decide +kernel
theorem dX11_fouls_46 : decode cX11_fouls 46 = .ok (.getfield 37, 3) := by decide +kernel
theorem dX11_fouls_49 : decode cX11_fouls 49 = .ok (.iload_n 1, 1) := by decide +kernel
theorem dX11_fouls_50 : decode cX11_fouls 50 = .ok (.iconst 1, 1) := by decide +kernel
theorem dX11_fouls_51 : decode cX11_fouls 51 = .ok (.iadd, 1) := by decide +kernel
theorem dX11_fouls_52 : decode cX11_fouls 52 = .ok (.iaload, 1) := by decide +kernel
theorem dX11_fouls_53 : decode cX11_fouls 53 = .ok (.if_icmp .lt 37, 3) := by decide +kernel
theorem dX11_fouls_56 : decode cX11_fouls 56 = .ok (.aload_n 0, 1) := by decide +kernel
theorem dX11_fouls_57 : decode cX11_fouls 57 = .ok (.getfield 28, 3) := by decide +kernel
theorem dX11_fouls_60 : decode cX11_fouls 60 = .ok (.iload_n 1, 1) := by decide +kernel
theorem dX11_fouls_61 : decode cX11_fouls 61 = .ok (.iaload, 1) := by decide +kernel
theorem dX11_fouls_62 : decode cX11_fouls 62 = .ok (.aload_n 0, 1) := by decide +kernel
theorem dX11_fouls_63 : decode cX11_fouls 63 = .ok (.getfield 28, 3) := by decide +kernel
theorem dX11_fouls_66 : decode cX11_fouls 66 = .ok (.iload_n 1, 1) := by decide +kernel
theorem dX11_fouls_67 : decode cX11_fouls 67 = .ok (.iconst 1, 1) := by decide +kernel
theorem dX11_fouls_68 : decode cX11_fouls 68 = .ok (.iadd, 1) := by decide +kernel
theorem dX11_fouls_69 : decode cX11_fouls 69 = .ok (.iaload, 1) := by decide +kernel
theorem dX11_fouls_70 : decode cX11_fouls 70 = .ok (.if_icmp .ge 24, 3) := by decide +kernel
theorem dX11_fouls_73 : decode cX11_fouls 73 = .ok (.aload_n 0, 1) := by decide +kernel
theorem dX11_fouls_74 : decode cX11_fouls 74 = .ok (.getfield 37, 3) := by decide +kernel
theorem dX11_fouls_77 : decode cX11_fouls 77 = .ok (.iload_n 1, 1) := by decide +kernel
theorem dX11_fouls_78 : decode cX11_fouls 78 = .ok (.iaload, 1) := by decide +kernel
theorem dX11_fouls_79 : decode cX11_fouls 79 = .ok (.aload_n 0, 1) := by decide +kernel
theorem dX11_fouls_80 : decode cX11_fouls 80 = .ok (.getfield 37, 3) := by decide +kernel
theorem dX11_fouls_83 : decode cX11_fouls 83 = .ok (.iload_n 1, 1) := by decide +kernel
theorem dX11_fouls_84 : decode cX11_fouls 84 = .ok (.iconst 1, 1) := by decide +kernel
theorem dX11_fouls_85 : decode cX11_fouls 85 = .ok (.iadd, 1) := by decide +kernel
theorem dX11_fouls_86 : decode cX11_fouls 86 = .ok (.iaload, 1) := by decide +kernel
theorem dX11_fouls_87 : decode cX11_fouls 87 = .ok (.if_icmp .le 7, 3) := by decide +kernel
theorem dX11_fouls_90 : decode cX11_fouls 90 = .ok (.iconst 1, 1) := by decide +kernel
theorem dX11_fouls_91 : decode cX11_fouls 91 = .ok (.goto 4, 3) := by decide +kernel
theorem dX11_fouls_94 : decode cX11_fouls 94 = .ok (.iconst 0, 1) := by decide +kernel
theorem dX11_fouls_95 : decode cX11_fouls 95 = .ok (.ireturn, 1) := by decide +kernel
set_option maxRecDepth 20000 in
theorem ggX11_canBe_X11_pullOf : GoodIn wsX11_canBe wsX11_pullOf := goodIn_r _ [9, 10, 11, 12, 18, 19, 20, 21, 22, 23, 24, 25, 26, 27, 28, 29, 30, 31, 32, 33, 34, 35, 36, 37, 38, 39, 40, 41, 42, 43, 44, 45, 46, 47, 48, 49, 50, 51, 52, 53, 54, 55, 56] (by decide +kernel) (by decide +kernel)
set_option maxRecDepth 20000 in
theorem gX11_canBe_X11_pullOf : GoodIn wsX11_canBe (wsV RX11 155 RX11 yX11_pullOf wsX11_pullOf) := goodIn_app (goodIn_of _ (by decide +kernel)) ggX11_canBe_X11_pullOf
set_option maxRecDepth 20000 in
theorem ggX11_canBe_X11_fouls : GoodIn wsX11_canBe wsX11_fouls := goodIn_r _ [16, 17, 3, 2, 18, 19, 20, 21, 22, 23, 24, 25, 26, 27, 28, 29, 30, 31, 32, 33, 34, 35, 36, 37, 38, 39, 40, 41, 42, 43, 44, 45, 46, 47, 48, 49, 50, 51, 52, 53, 54, 55, 56] (by decide +kernel) (by decide +kernel)
set_option maxRecDepth 20000 in
theorem gX11_canBe_X11_fouls : GoodIn wsX11_canBe (wsV RX11 165 RX11 yX11_fouls wsX11_fouls) := goodIn_app (goodIn_of _ (by decide +kernel)) ggX11_canBe_X11_fouls
theorem dX11_canBe_0 : decode cX11_canBe 0 = .ok (.iconst 0, 1) := by decide +kernel
theorem dX11_canBe_1 : decode cX11_canBe 1 = .ok (.istore_n 1, 1) := by decide +kernel
theorem dX11_canBe_2 : decode cX11_canBe 2 = .ok (.iconst 0, 1) := by decide +kernel
theorem dX11_canBe_3 : decode cX11_canBe 3 = .ok (.istore_n 2, 1) := by decide +kernel
theorem dX11_canBe_4 : decode cX11_canBe 4 = .ok (.iload_n 2, 1) := by decide +kernel
theorem dX11_canBe_5 : decode cX11_canBe 5 = .ok (.aload_n 0, 1) := by decide +kernel
theorem dX11_canBe_6 : decode cX11_canBe 6 = .ok (.getfield 87, 3) := by decide +kernel
theorem dX11_canBe_9 : decode cX11_canBe 9 = .ok (.if_icmp .ge 36, 3) := by decide +kernel
theorem dX11_canBe_12 : decode cX11_canBe 12 = .ok (.iload_n 1, 1) := by decide +kernel
theorem dX11_canBe_13 : decode cX11_canBe 13 = .ok (.aload_n 0, 1) := by decide +kernel
theorem dX11_canBe_14 : decode cX11_canBe 14 = .ok (.getfield 37, 3) := by decide +kernel
theorem dX11_canBe_17 : decode cX11_canBe 17 = .ok (.iload_n 2, 1) := by decide +kernel
theorem dX11_canBe_18 : decode cX11_canBe 18 = .ok (.iaload, 1) := by decide +kernel
theorem dX11_canBe_19 : decode cX11_canBe 19 = .ok (.aload_n 0, 1) := by decide +kernel
theorem dX11_canBe_20 : decode cX11_canBe 20 = .ok (.getfield 28, 3) := by decide +kernel
theorem dX11_canBe_23 : decode cX11_canBe 23 = .ok (.iload_n 2, 1) := by decide +kernel
theorem dX11_canBe_24 : decode cX11_canBe 24 = .ok (.iaload, 1) := by decide +kernel
theorem dX11_canBe_25 : decode cX11_canBe 25 = .ok (.if_icmp .ne 7, 3) := by decide +kernel
theorem dX11_canBe_28 : decode cX11_canBe 28 = .ok (.iconst 0, 1) := by decide +kernel
theorem dX11_canBe_29 : decode cX11_canBe 29 = .ok (.goto 8, 3) := by decide +kernel
theorem dX11_canBe_32 : decode cX11_canBe 32 = .ok (.aload_n 0, 1) := by decide +kernel
theorem dX11_canBe_33 : decode cX11_canBe 33 = .ok (.iload_n 2, 1) := by decide +kernel
theorem dX11_canBe_34 : decode cX11_canBe 34 = .ok (.invokevirtual 155, 3) := by decide +kernel
theorem dX11_canBe_37 : decode cX11_canBe 37 = .ok (.iadd, 1) := by decide +kernel
theorem dX11_canBe_38 : decode cX11_canBe 38 = .ok (.istore_n 1, 1) := by decide +kernel
theorem dX11_canBe_39 : decode cX11_canBe 39 = .ok (.iinc 2 1, 3) := by decide +kernel
theorem dX11_canBe_42 : decode cX11_canBe 42 = .ok (.goto (-38), 3) := by decide +kernel
theorem dX11_canBe_45 : decode cX11_canBe 45 = .ok (.iload_n 1, 1) := by decide +kernel
theorem dX11_canBe_46 : decode cX11_canBe 46 = .ok (.aload_n 0, 1) := by decide +kernel
theorem dX11_canBe_47 : decode cX11_canBe 47 = .ok (.getfield 117, 3) := by decide +kernel
theorem dX11_canBe_50 : decode cX11_canBe 50 = .ok (.if_icmp .le 5, 3) := by decide +kernel
theorem dX11_canBe_53 : decode cX11_canBe 53 = .ok (.iconst 0, 1) := by decide +kernel
theorem dX11_canBe_54 : decode cX11_canBe 54 = .ok (.ireturn, 1) := by decide +kernel
theorem dX11_canBe_55 : decode cX11_canBe 55 = .ok (.iconst 0, 1) := by decide +kernel
theorem dX11_canBe_56 : decode cX11_canBe 56 = .ok (.istore_n 2, 1) := by decide +kernel
theorem dX11_canBe_57 : decode cX11_canBe 57 = .ok (.iload_n 2, 1) := by decide +kernel
theorem dX11_canBe_58 : decode cX11_canBe 58 = .ok (.aload_n 0, 1) := by decide +kernel
theorem dX11_canBe_59 : decode cX11_canBe 59 = .ok (.getfield 87, 3) := by decide +kernel
theorem dX11_canBe_62 : decode cX11_canBe 62 = .ok (.iconst 1, 1) := by decide +kernel
theorem dX11_canBe_63 : decode cX11_canBe 63 = .ok (.isub, 1) := by decide +kernel
theorem dX11_canBe_64 : decode cX11_canBe 64 = .ok (.if_icmp .ge 19, 3) := by decide +kernel
theorem dX11_canBe_67 : decode cX11_canBe 67 = .ok (.aload_n 0, 1) := by decide +kernel
theorem dX11_canBe_68 : decode cX11_canBe 68 = .ok (.iload_n 2, 1) := by decide +kernel
theorem dX11_canBe_69 : decode cX11_canBe 69 = .ok (.invokevirtual 165, 3) := by decide +kernel
theorem dX11_canBe_72 : decode cX11_canBe 72 = .ok (.ifCond .eq 5, 3) := by decide +kernel
theorem dX11_canBe_75 : decode cX11_canBe 75 = .ok (.iconst 0, 1) := by decide +kernel
theorem dX11_canBe_76 : decode cX11_canBe 76 = .ok (.ireturn, 1) := by decide +kernel
theorem dX11_canBe_77 : decode cX11_canBe 77 = .ok (.iinc 2 1, 3) := by decide +kernel
theorem dX11_canBe_80 : decode cX11_canBe 80 = .ok (.goto (-23), 3) := by decide +kernel
theorem dX11_canBe_83 : decode cX11_canBe 83 = .ok (.iconst 1, 1) := by decide +kernel
theorem dX11_canBe_84 : decode cX11_canBe 84 = .ok (.ireturn, 1) := by decide +kernel
set_option maxRecDepth 20000 in
theorem ggX11_beats_X11_apart : GoodIn wsX11_beats wsX11_apart := goodIn_r _ [7] (by decide +kernel) (by decide +kernel)
set_option maxRecDepth 20000 in
theorem gX11_beats_X11_apart : GoodIn wsX11_beats (va_wsS RX11 168 yX11_apart wsX11_apart) := goodIn_app (goodIn_of _ (by decide +kernel)) ggX11_beats_X11_apart
theorem dX11_beats_0 : decode cX11_beats 0 = .ok (.iconst 0, 1) := by decide +kernel
theorem dX11_beats_1 : decode cX11_beats 1 = .ok (.istore_n 1, 1) := by decide +kernel
theorem dX11_beats_2 : decode cX11_beats 2 = .ok (.iconst 0, 1) := by decide +kernel
theorem dX11_beats_3 : decode cX11_beats 3 = .ok (.istore_n 2, 1) := by decide +kernel
theorem dX11_beats_4 : decode cX11_beats 4 = .ok (.iload_n 2, 1) := by decide +kernel
theorem dX11_beats_5 : decode cX11_beats 5 = .ok (.aload_n 0, 1) := by decide +kernel
theorem dX11_beats_6 : decode cX11_beats 6 = .ok (.getfield 87, 3) := by decide +kernel
theorem dX11_beats_9 : decode cX11_beats 9 = .ok (.if_icmp .ge 36, 3) := by decide +kernel
theorem dX11_beats_12 : decode cX11_beats 12 = .ok (.aload_n 0, 1) := by decide +kernel
theorem dX11_beats_13 : decode cX11_beats 13 = .ok (.getfield 28, 3) := by decide +kernel
theorem dX11_beats_16 : decode cX11_beats 16 = .ok (.iload_n 2, 1) := by decide +kernel
theorem dX11_beats_17 : decode cX11_beats 17 = .ok (.iaload, 1) := by decide +kernel
theorem dX11_beats_18 : decode cX11_beats 18 = .ok (.aload_n 0, 1) := by decide +kernel
theorem dX11_beats_19 : decode cX11_beats 19 = .ok (.getfield 37, 3) := by decide +kernel
theorem dX11_beats_22 : decode cX11_beats 22 = .ok (.iload_n 2, 1) := by decide +kernel
theorem dX11_beats_23 : decode cX11_beats 23 = .ok (.iaload, 1) := by decide +kernel
theorem dX11_beats_24 : decode cX11_beats 24 = .ok (.invokestatic 168, 3) := by decide +kernel
theorem dX11_beats_27 : decode cX11_beats 27 = .ok (.istore_n 3, 1) := by decide +kernel
theorem dX11_beats_28 : decode cX11_beats 28 = .ok (.iload_n 3, 1) := by decide +kernel
theorem dX11_beats_29 : decode cX11_beats 29 = .ok (.iload_n 1, 1) := by decide +kernel
theorem dX11_beats_30 : decode cX11_beats 30 = .ok (.if_icmp .le 7, 3) := by decide +kernel
theorem dX11_beats_33 : decode cX11_beats 33 = .ok (.iload_n 3, 1) := by decide +kernel
theorem dX11_beats_34 : decode cX11_beats 34 = .ok (.goto 4, 3) := by decide +kernel
theorem dX11_beats_37 : decode cX11_beats 37 = .ok (.iload_n 1, 1) := by decide +kernel
theorem dX11_beats_38 : decode cX11_beats 38 = .ok (.istore_n 1, 1) := by decide +kernel
theorem dX11_beats_39 : decode cX11_beats 39 = .ok (.iinc 2 1, 3) := by decide +kernel
theorem dX11_beats_42 : decode cX11_beats 42 = .ok (.goto (-38), 3) := by decide +kernel
theorem dX11_beats_45 : decode cX11_beats 45 = .ok (.iload_n 1, 1) := by decide +kernel
theorem dX11_beats_46 : decode cX11_beats 46 = .ok (.ireturn, 1) := by decide +kernel
set_option maxRecDepth 20000 in
theorem ggX11_effort_X11_pullOf : GoodIn wsX11_effort wsX11_pullOf := goodIn_r _ [8, 9, 10, 11, 15, 16, 17, 18, 19, 20, 21, 22, 23, 24, 25, 26, 27, 28, 29, 30, 31, 32, 33, 34, 35, 36, 37, 38, 39, 40, 41, 42, 43, 44, 45, 46, 47, 48, 49, 50, 51, 52, 53] (by decide +kernel) (by decide +kernel)
set_option maxRecDepth 20000 in
theorem gX11_effort_X11_pullOf : GoodIn wsX11_effort (wsV RX11 155 RX11 yX11_pullOf wsX11_pullOf) := goodIn_app (goodIn_of _ (by decide +kernel)) ggX11_effort_X11_pullOf
set_option maxRecDepth 20000 in
theorem ggX11_effort_X11_apart : GoodIn wsX11_effort wsX11_apart := goodIn_r _ [14] (by decide +kernel) (by decide +kernel)
set_option maxRecDepth 20000 in
theorem gX11_effort_X11_apart : GoodIn wsX11_effort (va_wsS RX11 168 yX11_apart wsX11_apart) := goodIn_app (goodIn_of _ (by decide +kernel)) ggX11_effort_X11_apart
theorem dX11_effort_0 : decode cX11_effort 0 = .ok (.iconst 0, 1) := by decide +kernel
theorem dX11_effort_1 : decode cX11_effort 1 = .ok (.istore_n 1, 1) := by decide +kernel
theorem dX11_effort_2 : decode cX11_effort 2 = .ok (.iconst 0, 1) := by decide +kernel
theorem dX11_effort_3 : decode cX11_effort 3 = .ok (.istore_n 2, 1) := by decide +kernel
theorem dX11_effort_4 : decode cX11_effort 4 = .ok (.iload_n 2, 1) := by decide +kernel
theorem dX11_effort_5 : decode cX11_effort 5 = .ok (.aload_n 0, 1) := by decide +kernel
theorem dX11_effort_6 : decode cX11_effort 6 = .ok (.getfield 87, 3) := by decide +kernel
theorem dX11_effort_9 : decode cX11_effort 9 = .ok (.if_icmp .ge 33, 3) := by decide +kernel
theorem dX11_effort_12 : decode cX11_effort 12 = .ok (.iload_n 1, 1) := by decide +kernel
theorem dX11_effort_13 : decode cX11_effort 13 = .ok (.aload_n 0, 1) := by decide +kernel
theorem dX11_effort_14 : decode cX11_effort 14 = .ok (.iload_n 2, 1) := by decide +kernel
theorem dX11_effort_15 : decode cX11_effort 15 = .ok (.invokevirtual 155, 3) := by decide +kernel
theorem dX11_effort_18 : decode cX11_effort 18 = .ok (.aload_n 0, 1) := by decide +kernel
theorem dX11_effort_19 : decode cX11_effort 19 = .ok (.getfield 28, 3) := by decide +kernel
theorem dX11_effort_22 : decode cX11_effort 22 = .ok (.iload_n 2, 1) := by decide +kernel
theorem dX11_effort_23 : decode cX11_effort 23 = .ok (.iaload, 1) := by decide +kernel
theorem dX11_effort_24 : decode cX11_effort 24 = .ok (.aload_n 0, 1) := by decide +kernel
theorem dX11_effort_25 : decode cX11_effort 25 = .ok (.getfield 37, 3) := by decide +kernel
theorem dX11_effort_28 : decode cX11_effort 28 = .ok (.iload_n 2, 1) := by decide +kernel
theorem dX11_effort_29 : decode cX11_effort 29 = .ok (.iaload, 1) := by decide +kernel
theorem dX11_effort_30 : decode cX11_effort 30 = .ok (.invokestatic 168, 3) := by decide +kernel
theorem dX11_effort_33 : decode cX11_effort 33 = .ok (.imul, 1) := by decide +kernel
theorem dX11_effort_34 : decode cX11_effort 34 = .ok (.iadd, 1) := by decide +kernel
theorem dX11_effort_35 : decode cX11_effort 35 = .ok (.istore_n 1, 1) := by decide +kernel
theorem dX11_effort_36 : decode cX11_effort 36 = .ok (.iinc 2 1, 3) := by decide +kernel
theorem dX11_effort_39 : decode cX11_effort 39 = .ok (.goto (-35), 3) := by decide +kernel
theorem dX11_effort_42 : decode cX11_effort 42 = .ok (.iload_n 1, 1) := by decide +kernel
theorem dX11_effort_43 : decode cX11_effort 43 = .ok (.ireturn, 1) := by decide +kernel
theorem dX11_goes_0 : decode cX11_goes 0 = .ok (.iconst 0, 1) := by decide +kernel
theorem dX11_goes_1 : decode cX11_goes 1 = .ok (.istore_n 1, 1) := by decide +kernel
theorem dX11_goes_2 : decode cX11_goes 2 = .ok (.iload_n 1, 1) := by decide +kernel
theorem dX11_goes_3 : decode cX11_goes 3 = .ok (.aload_n 0, 1) := by decide +kernel
theorem dX11_goes_4 : decode cX11_goes 4 = .ok (.getfield 87, 3) := by decide +kernel
theorem dX11_goes_7 : decode cX11_goes 7 = .ok (.if_icmp .ge 21, 3) := by decide +kernel
theorem dX11_goes_10 : decode cX11_goes 10 = .ok (.aload_n 0, 1) := by decide +kernel
theorem dX11_goes_11 : decode cX11_goes 11 = .ok (.getfield 28, 3) := by decide +kernel
theorem dX11_goes_14 : decode cX11_goes 14 = .ok (.iload_n 1, 1) := by decide +kernel
theorem dX11_goes_15 : decode cX11_goes 15 = .ok (.aload_n 0, 1) := by decide +kernel
theorem dX11_goes_16 : decode cX11_goes 16 = .ok (.getfield 37, 3) := by decide +kernel
