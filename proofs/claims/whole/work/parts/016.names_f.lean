theorem dX10_lose_9 : decode cX10_lose 9 = .ok (.aload_n 0, 1) := by decide +kernel
theorem dX10_lose_10 : decode cX10_lose 10 = .ok (.getfield 13, 3) := by decide +kernel
theorem dX10_lose_13 : decode cX10_lose 13 = .ok (.iload_n 1, 1) := by decide +kernel
theorem dX10_lose_14 : decode cX10_lose 14 = .ok (.aaload, 1) := by decide +kernel
theorem dX10_lose_15 : decode cX10_lose 15 = .ok (.getfield 264, 3) := by decide +kernel
theorem dX10_lose_18 : decode cX10_lose 18 = .ok (.istore_n 2, 1) := by decide +kernel
theorem dX10_lose_19 : decode cX10_lose 19 = .ok (.aload_n 0, 1) := by decide +kernel
theorem dX10_lose_20 : decode cX10_lose 20 = .ok (.getfield 13, 3) := by decide +kernel
theorem dX10_lose_23 : decode cX10_lose 23 = .ok (.iload_n 1, 1) := by decide +kernel
theorem dX10_lose_24 : decode cX10_lose 24 = .ok (.aaload, 1) := by decide +kernel
theorem dX10_lose_25 : decode cX10_lose 25 = .ok (.iconst 0, 1) := by decide +kernel
theorem dX10_lose_26 : decode cX10_lose 26 = .ok (.putfield 264, 3) := by decide +kernel
theorem dX10_lose_29 : decode cX10_lose 29 = .ok (.iload_n 2, 1) := by decide +kernel
theorem dX10_lose_30 : decode cX10_lose 30 = .ok (.ifCond .eq 7, 3) := by decide +kernel
theorem dX10_lose_33 : decode cX10_lose 33 = .ok (.iconst 1, 1) := by decide +kernel
theorem dX10_lose_34 : decode cX10_lose 34 = .ok (.goto 4, 3) := by decide +kernel
theorem dX10_lose_37 : decode cX10_lose 37 = .ok (.iconst 0, 1) := by decide +kernel
theorem dX10_lose_38 : decode cX10_lose 38 = .ok (.ireturn, 1) := by decide +kernel
set_option maxRecDepth 20000 in
theorem ggX10_put_X10_isSheet : GoodIn wsX10_put wsX10_isSheet := goodIn_r _ [7, 8, 9, 6, 10] (by decide +kernel) (by decide +kernel)
set_option maxRecDepth 20000 in
theorem gX10_put_X10_isSheet : GoodIn wsX10_put (va_wsS RX10 82 yX10_isSheet wsX10_isSheet) := goodIn_app (goodIn_of _ (by decide +kernel)) ggX10_put_X10_isSheet
set_option maxRecDepth 20000 in
theorem ggX10_put_X7_faultOf : GoodIn wsX10_put wsX7_faultOf := goodIn_r _ [15, 16, 17, 18, 19, 20, 14, 21, 22, 44, 45, 46, 47] (by decide +kernel) (by decide +kernel)
set_option maxRecDepth 20000 in
theorem gX10_put_X7_faultOf : GoodIn wsX10_put (wsV RX10 89 RX7 yX7_faultOf wsX7_faultOf) := goodIn_app (goodIn_of _ (by decide +kernel)) ggX10_put_X7_faultOf
set_option maxRecDepth 20000 in
theorem ggX10_put_X10_faulted : GoodIn wsX10_put wsX10_faulted := goodIn_r _ [26, 1, 32, 33, 34, 35, 36, 37, 38, 39, 40, 41, 42, 43] (by decide +kernel) (by decide +kernel)
set_option maxRecDepth 20000 in
theorem gX10_put_X10_faulted : GoodIn wsX10_put (wsV RX10 93 RX10 yX10_faulted wsX10_faulted) := goodIn_app (goodIn_of _ (by decide +kernel)) ggX10_put_X10_faulted
set_option maxRecDepth 20000 in
theorem ggX10_put_X7_set : GoodIn wsX10_put wsX7_set := goodIn_r _ [30, 31, 17, 44, 45, 46, 47] (by decide +kernel) (by decide +kernel)
set_option maxRecDepth 20000 in
theorem gX10_put_X7_set : GoodIn wsX10_put (wsV RX10 271 RX7 yX7_set wsX7_set) := goodIn_app (goodIn_of _ (by decide +kernel)) ggX10_put_X7_set
theorem dX10_put_0 : decode cX10_put 0 = .ok (.aload_n 0, 1) := by decide +kernel
theorem dX10_put_1 : decode cX10_put 1 = .ok (.iconst 0, 1) := by decide +kernel
theorem dX10_put_2 : decode cX10_put 2 = .ok (.putfield 78, 3) := by decide +kernel
theorem dX10_put_5 : decode cX10_put 5 = .ok (.iload_n 1, 1) := by decide +kernel
theorem dX10_put_6 : decode cX10_put 6 = .ok (.invokestatic 82, 3) := by decide +kernel
theorem dX10_put_9 : decode cX10_put 9 = .ok (.ifCond .ne 5, 3) := by decide +kernel
theorem dX10_put_12 : decode cX10_put 12 = .ok (.iconst (-1), 1) := by decide +kernel
theorem dX10_put_13 : decode cX10_put 13 = .ok (.ireturn, 1) := by decide +kernel
theorem dX10_put_14 : decode cX10_put 14 = .ok (.aload_n 0, 1) := by decide +kernel
theorem dX10_put_15 : decode cX10_put 15 = .ok (.getfield 13, 3) := by decide +kernel
theorem dX10_put_18 : decode cX10_put 18 = .ok (.iload_n 1, 1) := by decide +kernel
theorem dX10_put_19 : decode cX10_put 19 = .ok (.aaload, 1) := by decide +kernel
theorem dX10_put_20 : decode cX10_put 20 = .ok (.aload_n 0, 1) := by decide +kernel
theorem dX10_put_21 : decode cX10_put 21 = .ok (.getfield 13, 3) := by decide +kernel
theorem dX10_put_24 : decode cX10_put 24 = .ok (.iload_n 1, 1) := by decide +kernel
theorem dX10_put_25 : decode cX10_put 25 = .ok (.aaload, 1) := by decide +kernel
theorem dX10_put_26 : decode cX10_put 26 = .ok (.getfield 268, 3) := by decide +kernel
theorem dX10_put_29 : decode cX10_put 29 = .ok (.iload_n 2, 1) := by decide +kernel
theorem dX10_put_30 : decode cX10_put 30 = .ok (.iconst 1, 1) := by decide +kernel
theorem dX10_put_31 : decode cX10_put 31 = .ok (.invokevirtual 89, 3) := by decide +kernel
theorem dX10_put_34 : decode cX10_put 34 = .ok (.istore 4, 2) := by decide +kernel
theorem dX10_put_36 : decode cX10_put 36 = .ok (.iload 4, 2) := by decide +kernel
theorem dX10_put_38 : decode cX10_put 38 = .ok (.ifCond .eq 10, 3) := by decide +kernel
theorem dX10_put_41 : decode cX10_put 41 = .ok (.aload_n 0, 1) := by decide +kernel
theorem dX10_put_42 : decode cX10_put 42 = .ok (.iload 4, 2) := by decide +kernel
theorem dX10_put_44 : decode cX10_put 44 = .ok (.invokevirtual 93, 3) := by decide +kernel
theorem dX10_put_47 : decode cX10_put 47 = .ok (.ireturn, 1) := by decide +kernel
theorem dX10_put_48 : decode cX10_put 48 = .ok (.aload_n 0, 1) := by decide +kernel
theorem dX10_put_49 : decode cX10_put 49 = .ok (.getfield 13, 3) := by decide +kernel
theorem dX10_put_52 : decode cX10_put 52 = .ok (.iload_n 1, 1) := by decide +kernel
theorem dX10_put_53 : decode cX10_put 53 = .ok (.aaload, 1) := by decide +kernel
theorem dX10_put_54 : decode cX10_put 54 = .ok (.iload_n 2, 1) := by decide +kernel
theorem dX10_put_55 : decode cX10_put 55 = .ok (.iload_n 3, 1) := by decide +kernel
theorem dX10_put_56 : decode cX10_put 56 = .ok (.invokevirtual 271, 3) := by decide +kernel
theorem dX10_put_59 : decode cX10_put 59 = .ok (.iconst 1, 1) := by decide +kernel
theorem dX10_put_60 : decode cX10_put 60 = .ok (.ireturn, 1) := by decide +kernel
set_option maxRecDepth 20000 in
theorem ggX10_cell_X10_isSheet : GoodIn wsX10_cell wsX10_isSheet := goodIn_r _ [8, 9, 10, 7, 11] (by decide +kernel) (by decide +kernel)
set_option maxRecDepth 20000 in
theorem gX10_cell_X10_isSheet : GoodIn wsX10_cell (va_wsS RX10 82 yX10_isSheet wsX10_isSheet) := goodIn_app (goodIn_of _ (by decide +kernel)) ggX10_cell_X10_isSheet
set_option maxRecDepth 20000 in
theorem ggX10_cell_X10_isLane : GoodIn wsX10_cell wsX10_isLane := goodIn_r _ [14, 9, 10, 7, 11] (by decide +kernel) (by decide +kernel)
set_option maxRecDepth 20000 in
theorem gX10_cell_X10_isLane : GoodIn wsX10_cell (va_wsS RX10 86 yX10_isLane wsX10_isLane) := goodIn_app (goodIn_of _ (by decide +kernel)) ggX10_cell_X10_isLane
set_option maxRecDepth 20000 in
theorem ggX10_cell_X7_faultOf : GoodIn wsX10_cell wsX7_faultOf := goodIn_r _ [19, 20, 21, 22, 23, 24, 18, 25, 26, 39, 40, 41, 42] (by decide +kernel) (by decide +kernel)
set_option maxRecDepth 20000 in
theorem gX10_cell_X7_faultOf : GoodIn wsX10_cell (wsV RX10 89 RX7 yX7_faultOf wsX7_faultOf) := goodIn_app (goodIn_of _ (by decide +kernel)) ggX10_cell_X7_faultOf
theorem dX10_cell_0 : decode cX10_cell 0 = .ok (.aload_n 0, 1) := by decide +kernel
theorem dX10_cell_1 : decode cX10_cell 1 = .ok (.iconst 0, 1) := by decide +kernel
theorem dX10_cell_2 : decode cX10_cell 2 = .ok (.putfield 78, 3) := by decide +kernel
theorem dX10_cell_5 : decode cX10_cell 5 = .ok (.iload_n 1, 1) := by decide +kernel
theorem dX10_cell_6 : decode cX10_cell 6 = .ok (.invokestatic 82, 3) := by decide +kernel
theorem dX10_cell_9 : decode cX10_cell 9 = .ok (.ifCond .eq 10, 3) := by decide +kernel
theorem dX10_cell_12 : decode cX10_cell 12 = .ok (.iload_n 3, 1) := by decide +kernel
theorem dX10_cell_13 : decode cX10_cell 13 = .ok (.invokestatic 86, 3) := by decide +kernel
theorem dX10_cell_16 : decode cX10_cell 16 = .ok (.ifCond .ne 7, 3) := by decide +kernel
theorem dX10_cell_19 : decode cX10_cell 19 = .ok (.ldc2_w 256, 3) := by decide +kernel
theorem dX10_cell_22 : decode cX10_cell 22 = .ok (.lreturn, 1) := by decide +kernel
theorem dX10_cell_23 : decode cX10_cell 23 = .ok (.aload_n 0, 1) := by decide +kernel
theorem dX10_cell_24 : decode cX10_cell 24 = .ok (.getfield 13, 3) := by decide +kernel
theorem dX10_cell_27 : decode cX10_cell 27 = .ok (.iload_n 1, 1) := by decide +kernel
theorem dX10_cell_28 : decode cX10_cell 28 = .ok (.aaload, 1) := by decide +kernel
theorem dX10_cell_29 : decode cX10_cell 29 = .ok (.iload_n 3, 1) := by decide +kernel
theorem dX10_cell_30 : decode cX10_cell 30 = .ok (.iload_n 2, 1) := by decide +kernel
theorem dX10_cell_31 : decode cX10_cell 31 = .ok (.iconst 1, 1) := by decide +kernel
theorem dX10_cell_32 : decode cX10_cell 32 = .ok (.invokevirtual 89, 3) := by decide +kernel
theorem dX10_cell_35 : decode cX10_cell 35 = .ok (.istore 4, 2) := by decide +kernel
theorem dX10_cell_37 : decode cX10_cell 37 = .ok (.iload 4, 2) := by decide +kernel
theorem dX10_cell_39 : decode cX10_cell 39 = .ok (.ifCond .eq 13, 3) := by decide +kernel
theorem dX10_cell_42 : decode cX10_cell 42 = .ok (.aload_n 0, 1) := by decide +kernel
theorem dX10_cell_43 : decode cX10_cell 43 = .ok (.iload 4, 2) := by decide +kernel
theorem dX10_cell_45 : decode cX10_cell 45 = .ok (.putfield 78, 3) := by decide +kernel
theorem dX10_cell_48 : decode cX10_cell 48 = .ok (.ldc2_w 256, 3) := by decide +kernel
theorem dX10_cell_51 : decode cX10_cell 51 = .ok (.lreturn, 1) := by decide +kernel
theorem dX10_cell_52 : decode cX10_cell 52 = .ok (.aload_n 0, 1) := by decide +kernel
theorem dX10_cell_53 : decode cX10_cell 53 = .ok (.getfield 13, 3) := by decide +kernel
theorem dX10_cell_56 : decode cX10_cell 56 = .ok (.iload_n 1, 1) := by decide +kernel
theorem dX10_cell_57 : decode cX10_cell 57 = .ok (.aaload, 1) := by decide +kernel
theorem dX10_cell_58 : decode cX10_cell 58 = .ok (.getfield 97, 3) := by decide +kernel
theorem dX10_cell_61 : decode cX10_cell 61 = .ok (.iload_n 2, 1) := by decide +kernel
theorem dX10_cell_62 : decode cX10_cell 62 = .ok (.iaload, 1) := by decide +kernel
theorem dX10_cell_63 : decode cX10_cell 63 = .ok (.i2l, 1) := by decide +kernel
theorem dX10_cell_64 : decode cX10_cell 64 = .ok (.lreturn, 1) := by decide +kernel
set_option maxRecDepth 20000 in
theorem ggX10_copy_X10_isSheet : GoodIn wsX10_copy wsX10_isSheet := goodIn_r _ [13, 14, 15, 12, 16] (by decide +kernel) (by decide +kernel)
set_option maxRecDepth 20000 in
theorem gX10_copy_X10_isSheet : GoodIn wsX10_copy (va_wsS RX10 82 yX10_isSheet wsX10_isSheet) := goodIn_app (goodIn_of _ (by decide +kernel)) ggX10_copy_X10_isSheet
set_option maxRecDepth 20000 in
theorem ggX10_copy_X10_faulted : GoodIn wsX10_copy wsX10_faulted := goodIn_r _ [20, 1, 27, 28, 29, 30, 31, 32, 33, 34, 35, 36, 37, 38] (by decide +kernel) (by decide +kernel)
set_option maxRecDepth 20000 in
theorem gX10_copy_X10_faulted : GoodIn wsX10_copy (wsV RX10 93 RX10 yX10_faulted wsX10_faulted) := goodIn_app (goodIn_of _ (by decide +kernel)) ggX10_copy_X10_faulted
set_option maxRecDepth 20000 in
theorem ggX10_copy_X7_hasCells : GoodIn wsX10_copy wsX7_hasCells := goodIn_r _ [25, 26, 39, 40, 41, 42] (by decide +kernel) (by decide +kernel)
set_option maxRecDepth 20000 in
theorem gX10_copy_X7_hasCells : GoodIn wsX10_copy (wsV RX10 274 RX7 yX7_hasCells wsX7_hasCells) := goodIn_app (goodIn_of _ (by decide +kernel)) ggX10_copy_X7_hasCells
theorem dX10_copy_0 : decode cX10_copy 0 = .ok (.aload_n 0, 1) := by decide +kernel
theorem dX10_copy_1 : decode cX10_copy 1 = .ok (.iconst 0, 1) := by decide +kernel
theorem dX10_copy_2 : decode cX10_copy 2 = .ok (.putfield 78, 3) := by decide +kernel
theorem dX10_copy_5 : decode cX10_copy 5 = .ok (.iload_n 1, 1) := by decide +kernel
theorem dX10_copy_6 : decode cX10_copy 6 = .ok (.invokestatic 82, 3) := by decide +kernel
theorem dX10_copy_9 : decode cX10_copy 9 = .ok (.ifCond .eq 10, 3) := by decide +kernel
theorem dX10_copy_12 : decode cX10_copy 12 = .ok (.iload_n 3, 1) := by decide +kernel
theorem dX10_copy_13 : decode cX10_copy 13 = .ok (.invokestatic 82, 3) := by decide +kernel
theorem dX10_copy_16 : decode cX10_copy 16 = .ok (.ifCond .ne 5, 3) := by decide +kernel
theorem dX10_copy_19 : decode cX10_copy 19 = .ok (.iconst (-1), 1) := by decide +kernel
theorem dX10_copy_20 : decode cX10_copy 20 = .ok (.ireturn, 1) := by decide +kernel
theorem dX10_copy_21 : decode cX10_copy 21 = .ok (.aload_n 0, 1) := by decide +kernel
theorem dX10_copy_22 : decode cX10_copy 22 = .ok (.getfield 13, 3) := by decide +kernel
theorem dX10_copy_25 : decode cX10_copy 25 = .ok (.iload_n 1, 1) := by decide +kernel
theorem dX10_copy_26 : decode cX10_copy 26 = .ok (.aaload, 1) := by decide +kernel
theorem dX10_copy_27 : decode cX10_copy 27 = .ok (.astore 6, 2) := by decide +kernel
theorem dX10_copy_29 : decode cX10_copy 29 = .ok (.aload_n 0, 1) := by decide +kernel
theorem dX10_copy_30 : decode cX10_copy 30 = .ok (.getfield 13, 3) := by decide +kernel
theorem dX10_copy_33 : decode cX10_copy 33 = .ok (.iload_n 3, 1) := by decide +kernel
theorem dX10_copy_34 : decode cX10_copy 34 = .ok (.aaload, 1) := by decide +kernel
theorem dX10_copy_35 : decode cX10_copy 35 = .ok (.astore 7, 2) := by decide +kernel
theorem dX10_copy_37 : decode cX10_copy 37 = .ok (.aload 6, 2) := by decide +kernel
theorem dX10_copy_39 : decode cX10_copy 39 = .ok (.getfield 264, 3) := by decide +kernel
theorem dX10_copy_42 : decode cX10_copy 42 = .ok (.ifCond .eq 11, 3) := by decide +kernel
theorem dX10_copy_45 : decode cX10_copy 45 = .ok (.aload 7, 2) := by decide +kernel
theorem dX10_copy_47 : decode cX10_copy 47 = .ok (.getfield 264, 3) := by decide +kernel
theorem dX10_copy_50 : decode cX10_copy 50 = .ok (.ifCond .ne 9, 3) := by decide +kernel
theorem dX10_copy_53 : decode cX10_copy 53 = .ok (.aload_n 0, 1) := by decide +kernel
theorem dX10_copy_54 : decode cX10_copy 54 = .ok (.iconst 1, 1) := by decide +kernel
theorem dX10_copy_55 : decode cX10_copy 55 = .ok (.invokevirtual 93, 3) := by decide +kernel
theorem dX10_copy_58 : decode cX10_copy 58 = .ok (.ireturn, 1) := by decide +kernel
theorem dX10_copy_59 : decode cX10_copy 59 = .ok (.aload 6, 2) := by decide +kernel
theorem dX10_copy_61 : decode cX10_copy 61 = .ok (.getfield 268, 3) := by decide +kernel
theorem dX10_copy_64 : decode cX10_copy 64 = .ok (.aload 7, 2) := by decide +kernel
theorem dX10_copy_66 : decode cX10_copy 66 = .ok (.getfield 268, 3) := by decide +kernel
theorem dX10_copy_69 : decode cX10_copy 69 = .ok (.if_icmp .eq 9, 3) := by decide +kernel
theorem dX10_copy_72 : decode cX10_copy 72 = .ok (.aload_n 0, 1) := by decide +kernel
theorem dX10_copy_73 : decode cX10_copy 73 = .ok (.iconst 2, 1) := by decide +kernel
theorem dX10_copy_74 : decode cX10_copy 74 = .ok (.invokevirtual 93, 3) := by decide +kernel
theorem dX10_copy_77 : decode cX10_copy 77 = .ok (.ireturn, 1) := by decide +kernel
theorem dX10_copy_78 : decode cX10_copy 78 = .ok (.iload 5, 2) := by decide +kernel
theorem dX10_copy_80 : decode cX10_copy 80 = .ok (.ifCond .lt 26, 3) := by decide +kernel
theorem dX10_copy_83 : decode cX10_copy 83 = .ok (.aload 6, 2) := by decide +kernel
theorem dX10_copy_85 : decode cX10_copy 85 = .ok (.iload_n 2, 1) := by decide +kernel
theorem dX10_copy_86 : decode cX10_copy 86 = .ok (.iload 5, 2) := by decide +kernel
theorem dX10_copy_88 : decode cX10_copy 88 = .ok (.invokevirtual 274, 3) := by decide +kernel
theorem dX10_copy_91 : decode cX10_copy 91 = .ok (.ifCond .eq 15, 3) := by decide +kernel
theorem dX10_copy_94 : decode cX10_copy 94 = .ok (.aload 7, 2) := by decide +kernel
theorem dX10_copy_96 : decode cX10_copy 96 = .ok (.iload 4, 2) := by decide +kernel
theorem dX10_copy_98 : decode cX10_copy 98 = .ok (.iload 5, 2) := by decide +kernel
theorem dX10_copy_100 : decode cX10_copy 100 = .ok (.invokevirtual 274, 3) := by decide +kernel
theorem dX10_copy_103 : decode cX10_copy 103 = .ok (.ifCond .ne 9, 3) := by decide +kernel
theorem dX10_copy_106 : decode cX10_copy 106 = .ok (.aload_n 0, 1) := by decide +kernel
theorem dX10_copy_107 : decode cX10_copy 107 = .ok (.iconst 3, 1) := by decide +kernel
theorem dX10_copy_108 : decode cX10_copy 108 = .ok (.invokevirtual 93, 3) := by decide +kernel
theorem dX10_copy_111 : decode cX10_copy 111 = .ok (.ireturn, 1) := by decide +kernel
theorem dX10_copy_112 : decode cX10_copy 112 = .ok (.aload 6, 2) := by decide +kernel
theorem dX10_copy_114 : decode cX10_copy 114 = .ok (.getfield 97, 3) := by decide +kernel
theorem dX10_copy_117 : decode cX10_copy 117 = .ok (.iload_n 2, 1) := by decide +kernel
theorem dX10_copy_118 : decode cX10_copy 118 = .ok (.aload 7, 2) := by decide +kernel
theorem dX10_copy_120 : decode cX10_copy 120 = .ok (.getfield 97, 3) := by decide +kernel
theorem dX10_copy_123 : decode cX10_copy 123 = .ok (.iload 4, 2) := by decide +kernel
theorem dX10_copy_125 : decode cX10_copy 125 = .ok (.iload 5, 2) := by decide +kernel
theorem dX10_copy_127 : decode cX10_copy 127 = .ok (.invokestatic 278, 3) := by decide +kernel
theorem dX10_copy_130 : decode cX10_copy 130 = .ok (.iload 5, 2) := by decide +kernel
theorem dX10_copy_132 : decode cX10_copy 132 = .ok (.ireturn, 1) := by decide +kernel
set_option maxRecDepth 20000 in
theorem ggX10_tell_X1_has : GoodIn wsX10_tell wsX1_has := goodIn_r _ [9, 10, 41, 42, 43, 44] (by decide +kernel) (by decide +kernel)
set_option maxRecDepth 20000 in
theorem gX10_tell_X1_has : GoodIn wsX10_tell (wsV RX10 118 RX1 yX1_has wsX1_has) := goodIn_app (goodIn_of _ (by decide +kernel)) ggX10_tell_X1_has
set_option maxRecDepth 20000 in
theorem ggX10_tell_X10_lineTells : GoodIn wsX10_tell wsX10_lineTells := goodIn_r _ [15, 16, 17, 18, 14, 19, 20, 29, 30, 31, 32, 33, 34, 35, 36, 37, 38, 39, 40] (by decide +kernel) (by decide +kernel)
set_option maxRecDepth 20000 in
theorem gX10_tell_X10_lineTells : GoodIn wsX10_tell (wsV RX10 284 RX10 yX10_lineTells wsX10_lineTells) := goodIn_app (goodIn_of _ (by decide +kernel)) ggX10_tell_X10_lineTells
set_option maxRecDepth 20000 in
theorem ggX10_tell_X10_arborTells : GoodIn wsX10_tell wsX10_arborTells := goodIn_r _ [24, 16, 17, 18, 14, 19, 20, 11, 12, 13, 15, 29, 30, 31, 32, 33, 34, 35, 36, 37, 38, 39, 40] (by decide +kernel) (by decide +kernel)
set_option maxRecDepth 20000 in
theorem gX10_tell_X10_arborTells : GoodIn wsX10_tell (wsV RX10 287 RX10 yX10_arborTells wsX10_arborTells) := goodIn_app (goodIn_of _ (by decide +kernel)) ggX10_tell_X10_arborTells
set_option maxRecDepth 20000 in
theorem ggX10_tell_X10_winchTells : GoodIn wsX10_tell wsX10_winchTells := goodIn_r _ [28, 16, 17, 18, 14, 19, 20, 21, 22, 23, 24, 11, 12, 13, 15, 29, 30, 31, 32, 33, 34, 35, 36, 37, 38, 39, 40] (by decide +kernel) (by decide +kernel)
set_option maxRecDepth 20000 in
theorem gX10_tell_X10_winchTells : GoodIn wsX10_tell (wsV RX10 290 RX10 yX10_winchTells wsX10_winchTells) := goodIn_app (goodIn_of _ (by decide +kernel)) ggX10_tell_X10_winchTells
theorem dX10_tell_0 : decode cX10_tell 0 = .ok (.aload_n 0, 1) := by decide +kernel
theorem dX10_tell_1 : decode cX10_tell 1 = .ok (.getfield 32, 3) := by decide +kernel
theorem dX10_tell_4 : decode cX10_tell 4 = .ok (.iload_n 1, 1) := by decide +kernel
theorem dX10_tell_5 : decode cX10_tell 5 = .ok (.invokevirtual 118, 3) := by decide +kernel
theorem dX10_tell_8 : decode cX10_tell 8 = .ok (.ifCond .ne 5, 3) := by decide +kernel
theorem dX10_tell_11 : decode cX10_tell 11 = .ok (.iconst (-1), 1) := by decide +kernel
theorem dX10_tell_12 : decode cX10_tell 12 = .ok (.ireturn, 1) := by decide +kernel
theorem dX10_tell_13 : decode cX10_tell 13 = .ok (.aload_n 0, 1) := by decide +kernel
theorem dX10_tell_14 : decode cX10_tell 14 = .ok (.getfield 32, 3) := by decide +kernel
theorem dX10_tell_17 : decode cX10_tell 17 = .ok (.getfield 124, 3) := by decide +kernel
theorem dX10_tell_20 : decode cX10_tell 20 = .ok (.getfield 128, 3) := by decide +kernel
theorem dX10_tell_23 : decode cX10_tell 23 = .ok (.iload_n 1, 1) := by decide +kernel
theorem dX10_tell_24 : decode cX10_tell 24 = .ok (.iaload, 1) := by decide +kernel
theorem dX10_tell_25 : decode cX10_tell 25 = .ok (.istore_n 2, 1) := by decide +kernel
theorem dX10_tell_26 : decode cX10_tell 26 = .ok (.aload_n 0, 1) := by decide +kernel
theorem dX10_tell_27 : decode cX10_tell 27 = .ok (.getfield 32, 3) := by decide +kernel
theorem dX10_tell_30 : decode cX10_tell 30 = .ok (.getfield 121, 3) := by decide +kernel
theorem dX10_tell_33 : decode cX10_tell 33 = .ok (.iload_n 1, 1) := by decide +kernel
theorem dX10_tell_34 : decode cX10_tell 34 = .ok (.iaload, 1) := by decide +kernel
theorem dX10_tell_35 : decode cX10_tell 35 = .ok (.lookupswitch 37 #[(0, 25), (1, 31)], 25) := by decide +kernel
theorem dX10_tell_60 : decode cX10_tell 60 = .ok (.aload_n 0, 1) := by decide +kernel
theorem dX10_tell_61 : decode cX10_tell 61 = .ok (.iload_n 2, 1) := by decide +kernel
theorem dX10_tell_62 : decode cX10_tell 62 = .ok (.invokevirtual 284, 3) := by decide +kernel
theorem dX10_tell_65 : decode cX10_tell 65 = .ok (.ireturn, 1) := by decide +kernel
theorem dX10_tell_66 : decode cX10_tell 66 = .ok (.aload_n 0, 1) := by decide +kernel
theorem dX10_tell_67 : decode cX10_tell 67 = .ok (.iload_n 2, 1) := by decide +kernel
theorem dX10_tell_68 : decode cX10_tell 68 = .ok (.invokevirtual 287, 3) := by decide +kernel
theorem dX10_tell_71 : decode cX10_tell 71 = .ok (.ireturn, 1) := by decide +kernel
theorem dX10_tell_72 : decode cX10_tell 72 = .ok (.aload_n 0, 1) := by decide +kernel
theorem dX10_tell_73 : decode cX10_tell 73 = .ok (.iload_n 2, 1) := by decide +kernel
theorem dX10_tell_74 : decode cX10_tell 74 = .ok (.invokevirtual 290, 3) := by decide +kernel
theorem dX10_tell_77 : decode cX10_tell 77 = .ok (.ireturn, 1) := by decide +kernel
set_option maxRecDepth 20000 in
theorem ggX10_call_X1_has : GoodIn wsX10_call wsX1_has := goodIn_r _ [7, 8, 27, 28, 29, 30] (by decide +kernel) (by decide +kernel)
set_option maxRecDepth 20000 in
theorem gX10_call_X1_has : GoodIn wsX10_call (wsV RX10 118 RX1 yX1_has wsX1_has) := goodIn_app (goodIn_of _ (by decide +kernel)) ggX10_call_X1_has
set_option maxRecDepth 20000 in
theorem ggX10_call_X10_leave : GoodIn wsX10_call wsX10_leave := goodIn_r _ [13, 14, 15, 16, 17, 18, 19, 20, 21, 22, 23, 24, 25, 26] (by decide +kernel) (by decide +kernel)
set_option maxRecDepth 20000 in
theorem gX10_call_X10_leave : GoodIn wsX10_call (wsV RX10 293 RX10 yX10_leave wsX10_leave) := goodIn_app (goodIn_of _ (by decide +kernel)) ggX10_call_X10_leave
theorem dX10_call_0 : decode cX10_call 0 = .ok (.aload_n 0, 1) := by decide +kernel
theorem dX10_call_1 : decode cX10_call 1 = .ok (.getfield 32, 3) := by decide +kernel
theorem dX10_call_4 : decode cX10_call 4 = .ok (.iload_n 1, 1) := by decide +kernel
theorem dX10_call_5 : decode cX10_call 5 = .ok (.invokevirtual 118, 3) := by decide +kernel
theorem dX10_call_8 : decode cX10_call 8 = .ok (.ifCond .ne 5, 3) := by decide +kernel
theorem dX10_call_11 : decode cX10_call 11 = .ok (.iconst (-1), 1) := by decide +kernel
theorem dX10_call_12 : decode cX10_call 12 = .ok (.ireturn, 1) := by decide +kernel
theorem dX10_call_13 : decode cX10_call 13 = .ok (.aload_n 0, 1) := by decide +kernel
theorem dX10_call_14 : decode cX10_call 14 = .ok (.getfield 32, 3) := by decide +kernel
theorem dX10_call_17 : decode cX10_call 17 = .ok (.getfield 121, 3) := by decide +kernel
theorem dX10_call_20 : decode cX10_call 20 = .ok (.iload_n 1, 1) := by decide +kernel
theorem dX10_call_21 : decode cX10_call 21 = .ok (.iaload, 1) := by decide +kernel
theorem dX10_call_22 : decode cX10_call 22 = .ok (.iconst 2, 1) := by decide +kernel
theorem dX10_call_23 : decode cX10_call 23 = .ok (.if_icmp .ne 11, 3) := by decide +kernel
theorem dX10_call_26 : decode cX10_call 26 = .ok (.aload_n 0, 1) := by decide +kernel
theorem dX10_call_27 : decode cX10_call 27 = .ok (.iconst 5, 1) := by decide +kernel
theorem dX10_call_28 : decode cX10_call 28 = .ok (.invokevirtual 293, 3) := by decide +kernel
theorem dX10_call_31 : decode cX10_call 31 = .ok (.bipush 40, 2) := by decide +kernel
theorem dX10_call_33 : decode cX10_call 33 = .ok (.ireturn, 1) := by decide +kernel
theorem dX10_call_34 : decode cX10_call 34 = .ok (.aload_n 0, 1) := by decide +kernel
theorem dX10_call_35 : decode cX10_call 35 = .ok (.iconst 4, 1) := by decide +kernel
theorem dX10_call_36 : decode cX10_call 36 = .ok (.invokevirtual 293, 3) := by decide +kernel
theorem dX10_call_39 : decode cX10_call 39 = .ok (.iload_n 1, 1) := by decide +kernel
theorem dX10_call_40 : decode cX10_call 40 = .ok (.ireturn, 1) := by decide +kernel
set_option maxRecDepth 20000 in
theorem ggX10_as_X1_has : GoodIn wsX10_as wsX1_has := goodIn_r _ [8, 9, 30, 31, 32, 33] (by decide +kernel) (by decide +kernel)
set_option maxRecDepth 20000 in
theorem gX10_as_X1_has : GoodIn wsX10_as (wsV RX10 118 RX1 yX1_has wsX1_has) := goodIn_app (goodIn_of _ (by decide +kernel)) ggX10_as_X1_has
set_option maxRecDepth 20000 in
theorem ggX10_as_X10_within : GoodIn wsX10_as wsX10_within := goodIn_r _ [13] (by decide +kernel) (by decide +kernel)
set_option maxRecDepth 20000 in
theorem gX10_as_X10_within : GoodIn wsX10_as (va_wsS RX10 154 yX10_within wsX10_within) := goodIn_app (goodIn_of _ (by decide +kernel)) ggX10_as_X10_within
set_option maxRecDepth 20000 in
theorem ggX10_as_X10_faulted : GoodIn wsX10_as wsX10_faulted := goodIn_r _ [17, 1, 18, 19, 20, 21, 22, 23, 24, 25, 26, 27, 28, 29] (by decide +kernel) (by decide +kernel)
set_option maxRecDepth 20000 in
theorem gX10_as_X10_faulted : GoodIn wsX10_as (wsV RX10 93 RX10 yX10_faulted wsX10_faulted) := goodIn_app (goodIn_of _ (by decide +kernel)) ggX10_as_X10_faulted
theorem dX10_as_0 : decode cX10_as 0 = .ok (.aload_n 0, 1) := by decide +kernel
theorem dX10_as_1 : decode cX10_as 1 = .ok (.iconst 0, 1) := by decide +kernel
theorem dX10_as_2 : decode cX10_as 2 = .ok (.putfield 78, 3) := by decide +kernel
theorem dX10_as_5 : decode cX10_as 5 = .ok (.aload_n 0, 1) := by decide +kernel
theorem dX10_as_6 : decode cX10_as 6 = .ok (.getfield 32, 3) := by decide +kernel
theorem dX10_as_9 : decode cX10_as 9 = .ok (.iload_n 1, 1) := by decide +kernel
theorem dX10_as_10 : decode cX10_as 10 = .ok (.invokevirtual 118, 3) := by decide +kernel
theorem dX10_as_13 : decode cX10_as 13 = .ok (.ifCond .ne 5, 3) := by decide +kernel
theorem dX10_as_16 : decode cX10_as 16 = .ok (.iconst (-1), 1) := by decide +kernel
theorem dX10_as_17 : decode cX10_as 17 = .ok (.ireturn, 1) := by decide +kernel
theorem dX10_as_18 : decode cX10_as 18 = .ok (.iload_n 2, 1) := by decide +kernel
theorem dX10_as_19 : decode cX10_as 19 = .ok (.iconst 0, 1) := by decide +kernel
theorem dX10_as_20 : decode cX10_as 20 = .ok (.iconst 2, 1) := by decide +kernel
theorem dX10_as_21 : decode cX10_as 21 = .ok (.invokestatic 154, 3) := by decide +kernel
theorem dX10_as_24 : decode cX10_as 24 = .ok (.ifCond .ne 6, 3) := by decide +kernel
theorem dX10_as_27 : decode cX10_as 27 = .ok (.bipush (-2), 2) := by decide +kernel
theorem dX10_as_29 : decode cX10_as 29 = .ok (.ireturn, 1) := by decide +kernel
theorem dX10_as_30 : decode cX10_as 30 = .ok (.aload_n 0, 1) := by decide +kernel
theorem dX10_as_31 : decode cX10_as 31 = .ok (.getfield 32, 3) := by decide +kernel
theorem dX10_as_34 : decode cX10_as 34 = .ok (.getfield 121, 3) := by decide +kernel
theorem dX10_as_37 : decode cX10_as 37 = .ok (.iload_n 1, 1) := by decide +kernel
theorem dX10_as_38 : decode cX10_as 38 = .ok (.iaload, 1) := by decide +kernel
theorem dX10_as_39 : decode cX10_as 39 = .ok (.iload_n 2, 1) := by decide +kernel
theorem dX10_as_40 : decode cX10_as 40 = .ok (.if_icmp .ge 11, 3) := by decide +kernel
theorem dX10_as_43 : decode cX10_as 43 = .ok (.aload_n 0, 1) := by decide +kernel
theorem dX10_as_44 : decode cX10_as 44 = .ok (.iconst 2, 1) := by decide +kernel
theorem dX10_as_45 : decode cX10_as 45 = .ok (.invokevirtual 93, 3) := by decide +kernel
theorem dX10_as_48 : decode cX10_as 48 = .ok (.goto 4, 3) := by decide +kernel
theorem dX10_as_51 : decode cX10_as 51 = .ok (.iconst 1, 1) := by decide +kernel
theorem dX10_as_52 : decode cX10_as 52 = .ok (.ireturn, 1) := by decide +kernel
theorem dX10_trace_0 : decode cX10_trace 0 = .ok (.aload_n 0, 1) := by decide +kernel
theorem dX10_trace_1 : decode cX10_trace 1 = .ok (.getfield 297, 3) := by decide +kernel
theorem dX10_trace_4 : decode cX10_trace 4 = .ok (.ireturn, 1) := by decide +kernel
theorem dX10_fault_0 : decode cX10_fault 0 = .ok (.aload_n 0, 1) := by decide +kernel
theorem dX10_fault_1 : decode cX10_fault 1 = .ok (.getfield 78, 3) := by decide +kernel
theorem dX10_fault_4 : decode cX10_fault 4 = .ok (.ireturn, 1) := by decide +kernel
theorem dX10_many_0 : decode cX10_many 0 = .ok (.iload_n 1, 1) := by decide +kernel
theorem dX10_many_1 : decode cX10_many 1 = .ok (.tableswitch 96 0 5 #[39, 47, 58, 69, 80, 88], 39) := by decide +kernel
theorem dX10_many_40 : decode cX10_many 40 = .ok (.aload_n 0, 1) := by decide +kernel
theorem dX10_many_41 : decode cX10_many 41 = .ok (.getfield 32, 3) := by decide +kernel
theorem dX10_many_44 : decode cX10_many 44 = .ok (.getfield 117, 3) := by decide +kernel
theorem dX10_many_47 : decode cX10_many 47 = .ok (.ireturn, 1) := by decide +kernel
theorem dX10_many_48 : decode cX10_many 48 = .ok (.aload_n 0, 1) := by decide +kernel
theorem dX10_many_49 : decode cX10_many 49 = .ok (.getfield 32, 3) := by decide +kernel
theorem dX10_many_52 : decode cX10_many 52 = .ok (.getfield 124, 3) := by decide +kernel
theorem dX10_many_55 : decode cX10_many 55 = .ok (.getfield 158, 3) := by decide +kernel
theorem dX10_many_58 : decode cX10_many 58 = .ok (.ireturn, 1) := by decide +kernel
theorem dX10_many_59 : decode cX10_many 59 = .ok (.aload_n 0, 1) := by decide +kernel
theorem dX10_many_60 : decode cX10_many 60 = .ok (.getfield 32, 3) := by decide +kernel
theorem dX10_many_63 : decode cX10_many 63 = .ok (.getfield 124, 3) := by decide +kernel
theorem dX10_many_66 : decode cX10_many 66 = .ok (.getfield 161, 3) := by decide +kernel
theorem dX10_many_69 : decode cX10_many 69 = .ok (.ireturn, 1) := by decide +kernel
theorem dX10_many_70 : decode cX10_many 70 = .ok (.aload_n 0, 1) := by decide +kernel
theorem dX10_many_71 : decode cX10_many 71 = .ok (.getfield 32, 3) := by decide +kernel
theorem dX10_many_74 : decode cX10_many 74 = .ok (.getfield 124, 3) := by decide +kernel
theorem dX10_many_77 : decode cX10_many 77 = .ok (.getfield 194, 3) := by decide +kernel
theorem dX10_many_80 : decode cX10_many 80 = .ok (.ireturn, 1) := by decide +kernel
theorem dX10_many_81 : decode cX10_many 81 = .ok (.aload_n 0, 1) := by decide +kernel
theorem dX10_many_82 : decode cX10_many 82 = .ok (.getfield 39, 3) := by decide +kernel
theorem dX10_many_85 : decode cX10_many 85 = .ok (.getfield 197, 3) := by decide +kernel
theorem dX10_many_88 : decode cX10_many 88 = .ok (.ireturn, 1) := by decide +kernel
theorem dX10_many_89 : decode cX10_many 89 = .ok (.aload_n 0, 1) := by decide +kernel
theorem dX10_many_90 : decode cX10_many 90 = .ok (.getfield 46, 3) := by decide +kernel
theorem dX10_many_93 : decode cX10_many 93 = .ok (.getfield 114, 3) := by decide +kernel
theorem dX10_many_96 : decode cX10_many 96 = .ok (.ireturn, 1) := by decide +kernel
theorem dX10_many_97 : decode cX10_many 97 = .ok (.bipush (-2), 2) := by decide +kernel
theorem dX10_many_99 : decode cX10_many 99 = .ok (.ireturn, 1) := by decide +kernel
theorem dX10_within_0 : decode cX10_within 0 = .ok (.iload_n 0, 1) := by decide +kernel
theorem dX10_within_1 : decode cX10_within 1 = .ok (.iload_n 1, 1) := by decide +kernel
theorem dX10_within_2 : decode cX10_within 2 = .ok (.if_icmp .lt 12, 3) := by decide +kernel
theorem dX10_within_5 : decode cX10_within 5 = .ok (.iload_n 0, 1) := by decide +kernel
theorem dX10_within_6 : decode cX10_within 6 = .ok (.iload_n 2, 1) := by decide +kernel
theorem dX10_within_7 : decode cX10_within 7 = .ok (.if_icmp .gt 7, 3) := by decide +kernel
theorem dX10_within_10 : decode cX10_within 10 = .ok (.iconst 1, 1) := by decide +kernel
theorem dX10_within_11 : decode cX10_within 11 = .ok (.goto 4, 3) := by decide +kernel
theorem dX10_within_14 : decode cX10_within 14 = .ok (.iconst 0, 1) := by decide +kernel
theorem dX10_within_15 : decode cX10_within 15 = .ok (.ireturn, 1) := by decide +kernel
set_option maxRecDepth 20000 in
theorem ggX10_isDigit_X10_within : GoodIn wsX10_isDigit wsX10_within := goodIn_r _ [4] (by decide +kernel) (by decide +kernel)
set_option maxRecDepth 20000 in
theorem gX10_isDigit_X10_within : GoodIn wsX10_isDigit (va_wsS RX10 154 yX10_within wsX10_within) := goodIn_app (goodIn_of _ (by decide +kernel)) ggX10_isDigit_X10_within
theorem dX10_isDigit_0 : decode cX10_isDigit 0 = .ok (.iload_n 0, 1) := by decide +kernel
theorem dX10_isDigit_1 : decode cX10_isDigit 1 = .ok (.iconst 0, 1) := by decide +kernel
theorem dX10_isDigit_2 : decode cX10_isDigit 2 = .ok (.bipush 9, 2) := by decide +kernel
theorem dX10_isDigit_4 : decode cX10_isDigit 4 = .ok (.invokestatic 154, 3) := by decide +kernel
theorem dX10_isDigit_7 : decode cX10_isDigit 7 = .ok (.ireturn, 1) := by decide +kernel
set_option maxRecDepth 20000 in
theorem ggX10_isHeight_X10_within : GoodIn wsX10_isHeight wsX10_within := goodIn_r _ [4] (by decide +kernel) (by decide +kernel)
set_option maxRecDepth 20000 in
theorem gX10_isHeight_X10_within : GoodIn wsX10_isHeight (va_wsS RX10 154 yX10_within wsX10_within) := goodIn_app (goodIn_of _ (by decide +kernel)) ggX10_isHeight_X10_within
theorem dX10_isHeight_0 : decode cX10_isHeight 0 = .ok (.iload_n 0, 1) := by decide +kernel
theorem dX10_isHeight_1 : decode cX10_isHeight 1 = .ok (.iconst 0, 1) := by decide +kernel
theorem dX10_isHeight_2 : decode cX10_isHeight 2 = .ok (.bipush 9, 2) := by decide +kernel
theorem dX10_isHeight_4 : decode cX10_isHeight 4 = .ok (.invokestatic 154, 3) := by decide +kernel
theorem dX10_isHeight_7 : decode cX10_isHeight 7 = .ok (.ireturn, 1) := by decide +kernel
set_option maxRecDepth 20000 in
theorem ggX10_isSheet_X10_within : GoodIn wsX10_isSheet wsX10_within := goodIn_r _ [4] (by decide +kernel) (by decide +kernel)
set_option maxRecDepth 20000 in
theorem gX10_isSheet_X10_within : GoodIn wsX10_isSheet (va_wsS RX10 154 yX10_within wsX10_within) := goodIn_app (goodIn_of _ (by decide +kernel)) ggX10_isSheet_X10_within
theorem dX10_isSheet_0 : decode cX10_isSheet 0 = .ok (.iload_n 0, 1) := by decide +kernel
theorem dX10_isSheet_1 : decode cX10_isSheet 1 = .ok (.iconst 0, 1) := by decide +kernel
theorem dX10_isSheet_2 : decode cX10_isSheet 2 = .ok (.iconst 3, 1) := by decide +kernel
theorem dX10_isSheet_3 : decode cX10_isSheet 3 = .ok (.invokestatic 154, 3) := by decide +kernel
theorem dX10_isSheet_6 : decode cX10_isSheet 6 = .ok (.ireturn, 1) := by decide +kernel
set_option maxRecDepth 20000 in
theorem ggX10_isLane_X10_within : GoodIn wsX10_isLane wsX10_within := goodIn_r _ [4] (by decide +kernel) (by decide +kernel)
set_option maxRecDepth 20000 in
theorem gX10_isLane_X10_within : GoodIn wsX10_isLane (va_wsS RX10 154 yX10_within wsX10_within) := goodIn_app (goodIn_of _ (by decide +kernel)) ggX10_isLane_X10_within
theorem dX10_isLane_0 : decode cX10_isLane 0 = .ok (.iload_n 0, 1) := by decide +kernel
theorem dX10_isLane_1 : decode cX10_isLane 1 = .ok (.iconst 0, 1) := by decide +kernel
theorem dX10_isLane_2 : decode cX10_isLane 2 = .ok (.iconst 2, 1) := by decide +kernel
theorem dX10_isLane_3 : decode cX10_isLane 3 = .ok (.invokestatic 154, 3) := by decide +kernel
theorem dX10_isLane_6 : decode cX10_isLane 6 = .ok (.ireturn, 1) := by decide +kernel
set_option maxRecDepth 20000 in
theorem ggX10_isImage_X10_within : GoodIn wsX10_isImage wsX10_within := goodIn_r _ [4] (by decide +kernel) (by decide +kernel)
set_option maxRecDepth 20000 in
theorem gX10_isImage_X10_within : GoodIn wsX10_isImage (va_wsS RX10 154 yX10_within wsX10_within) := goodIn_app (goodIn_of _ (by decide +kernel)) ggX10_isImage_X10_within
theorem dX10_isImage_0 : decode cX10_isImage 0 = .ok (.iload_n 0, 1) := by decide +kernel
theorem dX10_isImage_1 : decode cX10_isImage 1 = .ok (.iconst 0, 1) := by decide +kernel
theorem dX10_isImage_2 : decode cX10_isImage 2 = .ok (.iconst 1, 1) := by decide +kernel
theorem dX10_isImage_3 : decode cX10_isImage 3 = .ok (.invokestatic 154, 3) := by decide +kernel
theorem dX10_isImage_6 : decode cX10_isImage 6 = .ok (.ireturn, 1) := by decide +kernel
theorem dX10_pullOf_0 : decode cX10_pullOf 0 = .ok (.iload_n 1, 1) := by decide +kernel
theorem dX10_pullOf_1 : decode cX10_pullOf 1 = .ok (.iload_n 2, 1) := by decide +kernel
theorem dX10_pullOf_2 : decode cX10_pullOf 2 = .ok (.isub, 1) := by decide +kernel
theorem dX10_pullOf_3 : decode cX10_pullOf 3 = .ok (.invokestatic 300, 3) := by decide +kernel
theorem dX10_pullOf_6 : decode cX10_pullOf 6 = .ok (.istore_n 3, 1) := by decide +kernel
theorem dX10_pullOf_7 : decode cX10_pullOf 7 = .ok (.iload_n 0, 1) := by decide +kernel
theorem dX10_pullOf_8 : decode cX10_pullOf 8 = .ok (.lookupswitch 38 #[(0, 28), (1, 30)], 28) := by decide +kernel
theorem dX10_pullOf_36 : decode cX10_pullOf 36 = .ok (.iload_n 3, 1) := by decide +kernel
theorem dX10_pullOf_37 : decode cX10_pullOf 37 = .ok (.ireturn, 1) := by decide +kernel
theorem dX10_pullOf_38 : decode cX10_pullOf 38 = .ok (.iload_n 3, 1) := by decide +kernel
theorem dX10_pullOf_39 : decode cX10_pullOf 39 = .ok (.iconst 1, 1) := by decide +kernel
theorem dX10_pullOf_40 : decode cX10_pullOf 40 = .ok (.isub, 1) := by decide +kernel
theorem dX10_pullOf_41 : decode cX10_pullOf 41 = .ok (.iconst 0, 1) := by decide +kernel
theorem dX10_pullOf_42 : decode cX10_pullOf 42 = .ok (.invokestatic 305, 3) := by decide +kernel
theorem dX10_pullOf_45 : decode cX10_pullOf 45 = .ok (.ireturn, 1) := by decide +kernel
theorem dX10_pullOf_46 : decode cX10_pullOf 46 = .ok (.iload_n 3, 1) := by decide +kernel
theorem dX10_pullOf_47 : decode cX10_pullOf 47 = .ok (.iconst 2, 1) := by decide +kernel
theorem dX10_pullOf_48 : decode cX10_pullOf 48 = .ok (.idiv, 1) := by decide +kernel
theorem dX10_pullOf_49 : decode cX10_pullOf 49 = .ok (.ireturn, 1) := by decide +kernel
theorem dX10_faulted_0 : decode cX10_faulted 0 = .ok (.aload_n 0, 1) := by decide +kernel
theorem dX10_faulted_1 : decode cX10_faulted 1 = .ok (.iload_n 1, 1) := by decide +kernel
theorem dX10_faulted_2 : decode cX10_faulted 2 = .ok (.putfield 78, 3) := by decide +kernel
theorem dX10_faulted_5 : decode cX10_faulted 5 = .ok (.bipush (-10), 2) := by decide +kernel
theorem dX10_faulted_7 : decode cX10_faulted 7 = .ok (.iload_n 1, 1) := by decide +kernel
theorem dX10_faulted_8 : decode cX10_faulted 8 = .ok (.isub, 1) := by decide +kernel
theorem dX10_faulted_9 : decode cX10_faulted 9 = .ok (.ireturn, 1) := by decide +kernel
set_option maxRecDepth 20000 in
theorem ggX10_takeMoves_X7_faultOf : GoodIn wsX10_takeMoves wsX7_faultOf := goodIn_r _ [10, 11, 12, 13, 14, 15, 9, 16, 17, 63, 64, 65, 66] (by decide +kernel) (by decide +kernel)
set_option maxRecDepth 20000 in
theorem gX10_takeMoves_X7_faultOf : GoodIn wsX10_takeMoves (wsV RX10 89 RX7 yX7_faultOf wsX7_faultOf) := goodIn_app (goodIn_of _ (by decide +kernel)) ggX10_takeMoves_X7_faultOf
set_option maxRecDepth 20000 in
theorem ggX10_takeMoves_X10_faulted : GoodIn wsX10_takeMoves wsX10_faulted := goodIn_r _ [22, 23, 44, 45, 46, 47, 48, 49, 50, 51, 52, 53, 54, 55] (by decide +kernel) (by decide +kernel)
set_option maxRecDepth 20000 in
theorem gX10_takeMoves_X10_faulted : GoodIn wsX10_takeMoves (wsV RX10 93 RX10 yX10_faulted wsX10_faulted) := goodIn_app (goodIn_of _ (by decide +kernel)) ggX10_takeMoves_X10_faulted
set_option maxRecDepth 20000 in
theorem ggX10_takeMoves_X1_has : GoodIn wsX10_takeMoves wsX1_has := goodIn_r _ [28, 29, 56, 57, 58, 59] (by decide +kernel) (by decide +kernel)
set_option maxRecDepth 20000 in
theorem gX10_takeMoves_X1_has : GoodIn wsX10_takeMoves (wsV RX10 118 RX1 yX1_has wsX1_has) := goodIn_app (goodIn_of _ (by decide +kernel)) ggX10_takeMoves_X1_has
set_option maxRecDepth 20000 in
theorem ggX10_takeMoves_X10_isHeight : GoodIn wsX10_takeMoves wsX10_isHeight := goodIn_r _ [32, 33, 34, 21, 35] (by decide +kernel) (by decide +kernel)
set_option maxRecDepth 20000 in
theorem gX10_takeMoves_X10_isHeight : GoodIn wsX10_takeMoves (va_wsS RX10 164 yX10_isHeight wsX10_isHeight) := goodIn_app (goodIn_of _ (by decide +kernel)) ggX10_takeMoves_X10_isHeight
set_option maxRecDepth 20000 in
theorem ggX10_takeMoves_X2_add : GoodIn wsX10_takeMoves wsX2_add := goodIn_r _ [40, 41, 42, 43, 60, 61, 62] (by decide +kernel) (by decide +kernel)
set_option maxRecDepth 20000 in
theorem gX10_takeMoves_X2_add : GoodIn wsX10_takeMoves (wsV RX10 168 RX2 yX2_add wsX2_add) := goodIn_app (goodIn_of _ (by decide +kernel)) ggX10_takeMoves_X2_add
theorem dX10_takeMoves_0 : decode cX10_takeMoves 0 = .ok (.aload_n 1, 1) := by decide +kernel
theorem dX10_takeMoves_1 : decode cX10_takeMoves 1 = .ok (.iload_n 2, 1) := by decide +kernel
theorem dX10_takeMoves_2 : decode cX10_takeMoves 2 = .ok (.iload_n 3, 1) := by decide +kernel
theorem dX10_takeMoves_3 : decode cX10_takeMoves 3 = .ok (.iconst 2, 1) := by decide +kernel
theorem dX10_takeMoves_4 : decode cX10_takeMoves 4 = .ok (.iload 4, 2) := by decide +kernel
theorem dX10_takeMoves_6 : decode cX10_takeMoves 6 = .ok (.imul, 1) := by decide +kernel
theorem dX10_takeMoves_7 : decode cX10_takeMoves 7 = .ok (.invokevirtual 89, 3) := by decide +kernel
theorem dX10_takeMoves_10 : decode cX10_takeMoves 10 = .ok (.istore 5, 2) := by decide +kernel
theorem dX10_takeMoves_12 : decode cX10_takeMoves 12 = .ok (.iload 5, 2) := by decide +kernel
theorem dX10_takeMoves_14 : decode cX10_takeMoves 14 = .ok (.ifCond .eq 10, 3) := by decide +kernel
theorem dX10_takeMoves_17 : decode cX10_takeMoves 17 = .ok (.aload_n 0, 1) := by decide +kernel
theorem dX10_takeMoves_18 : decode cX10_takeMoves 18 = .ok (.iload 5, 2) := by decide +kernel
theorem dX10_takeMoves_20 : decode cX10_takeMoves 20 = .ok (.invokevirtual 93, 3) := by decide +kernel
theorem dX10_takeMoves_23 : decode cX10_takeMoves 23 = .ok (.ireturn, 1) := by decide +kernel
theorem dX10_takeMoves_24 : decode cX10_takeMoves 24 = .ok (.aload_n 0, 1) := by decide +kernel
theorem dX10_takeMoves_25 : decode cX10_takeMoves 25 = .ok (.getfield 32, 3) := by decide +kernel
theorem dX10_takeMoves_28 : decode cX10_takeMoves 28 = .ok (.getfield 117, 3) := by decide +kernel
theorem dX10_takeMoves_31 : decode cX10_takeMoves 31 = .ok (.ifCond .ne 6, 3) := by decide +kernel
theorem dX10_takeMoves_34 : decode cX10_takeMoves 34 = .ok (.bipush (-3), 2) := by decide +kernel
theorem dX10_takeMoves_36 : decode cX10_takeMoves 36 = .ok (.ireturn, 1) := by decide +kernel
theorem dX10_takeMoves_37 : decode cX10_takeMoves 37 = .ok (.aload_n 0, 1) := by decide +kernel
theorem dX10_takeMoves_38 : decode cX10_takeMoves 38 = .ok (.getfield 53, 3) := by decide +kernel
theorem dX10_takeMoves_41 : decode cX10_takeMoves 41 = .ok (.iconst 0, 1) := by decide +kernel
theorem dX10_takeMoves_42 : decode cX10_takeMoves 42 = .ok (.putfield 167, 3) := by decide +kernel
theorem dX10_takeMoves_45 : decode cX10_takeMoves 45 = .ok (.iconst 0, 1) := by decide +kernel
theorem dX10_takeMoves_46 : decode cX10_takeMoves 46 = .ok (.istore 6, 2) := by decide +kernel
theorem dX10_takeMoves_48 : decode cX10_takeMoves 48 = .ok (.iload 6, 2) := by decide +kernel
theorem dX10_takeMoves_50 : decode cX10_takeMoves 50 = .ok (.iload 4, 2) := by decide +kernel
theorem dX10_takeMoves_52 : decode cX10_takeMoves 52 = .ok (.if_icmp .ge 73, 3) := by decide +kernel
theorem dX10_takeMoves_55 : decode cX10_takeMoves 55 = .ok (.aload_n 1, 1) := by decide +kernel
theorem dX10_takeMoves_56 : decode cX10_takeMoves 56 = .ok (.getfield 97, 3) := by decide +kernel
theorem dX10_takeMoves_59 : decode cX10_takeMoves 59 = .ok (.iload_n 3, 1) := by decide +kernel
theorem dX10_takeMoves_60 : decode cX10_takeMoves 60 = .ok (.iconst 2, 1) := by decide +kernel
theorem dX10_takeMoves_61 : decode cX10_takeMoves 61 = .ok (.iload 6, 2) := by decide +kernel
theorem dX10_takeMoves_63 : decode cX10_takeMoves 63 = .ok (.imul, 1) := by decide +kernel
theorem dX10_takeMoves_64 : decode cX10_takeMoves 64 = .ok (.iadd, 1) := by decide +kernel
theorem dX10_takeMoves_65 : decode cX10_takeMoves 65 = .ok (.iaload, 1) := by decide +kernel
theorem dX10_takeMoves_66 : decode cX10_takeMoves 66 = .ok (.istore 7, 2) := by decide +kernel
theorem dX10_takeMoves_68 : decode cX10_takeMoves 68 = .ok (.aload_n 1, 1) := by decide +kernel
theorem dX10_takeMoves_69 : decode cX10_takeMoves 69 = .ok (.getfield 97, 3) := by decide +kernel
theorem dX10_takeMoves_72 : decode cX10_takeMoves 72 = .ok (.iload_n 3, 1) := by decide +kernel
theorem dX10_takeMoves_73 : decode cX10_takeMoves 73 = .ok (.iconst 2, 1) := by decide +kernel
theorem dX10_takeMoves_74 : decode cX10_takeMoves 74 = .ok (.iload 6, 2) := by decide +kernel
theorem dX10_takeMoves_76 : decode cX10_takeMoves 76 = .ok (.imul, 1) := by decide +kernel
theorem dX10_takeMoves_77 : decode cX10_takeMoves 77 = .ok (.iadd, 1) := by decide +kernel
theorem dX10_takeMoves_78 : decode cX10_takeMoves 78 = .ok (.iconst 1, 1) := by decide +kernel
theorem dX10_takeMoves_79 : decode cX10_takeMoves 79 = .ok (.iadd, 1) := by decide +kernel
theorem dX10_takeMoves_80 : decode cX10_takeMoves 80 = .ok (.iaload, 1) := by decide +kernel
theorem dX10_takeMoves_81 : decode cX10_takeMoves 81 = .ok (.istore 8, 2) := by decide +kernel
theorem dX10_takeMoves_83 : decode cX10_takeMoves 83 = .ok (.aload_n 0, 1) := by decide +kernel
theorem dX10_takeMoves_84 : decode cX10_takeMoves 84 = .ok (.getfield 32, 3) := by decide +kernel
theorem dX10_takeMoves_87 : decode cX10_takeMoves 87 = .ok (.iload 7, 2) := by decide +kernel
theorem dX10_takeMoves_89 : decode cX10_takeMoves 89 = .ok (.invokevirtual 118, 3) := by decide +kernel
theorem dX10_takeMoves_92 : decode cX10_takeMoves 92 = .ok (.ifCond .ne 5, 3) := by decide +kernel
theorem dX10_takeMoves_95 : decode cX10_takeMoves 95 = .ok (.iconst (-1), 1) := by decide +kernel
theorem dX10_takeMoves_96 : decode cX10_takeMoves 96 = .ok (.ireturn, 1) := by decide +kernel
theorem dX10_takeMoves_97 : decode cX10_takeMoves 97 = .ok (.iload 8, 2) := by decide +kernel
theorem dX10_takeMoves_99 : decode cX10_takeMoves 99 = .ok (.invokestatic 164, 3) := by decide +kernel
theorem dX10_takeMoves_102 : decode cX10_takeMoves 102 = .ok (.ifCond .ne 6, 3) := by decide +kernel
theorem dX10_takeMoves_105 : decode cX10_takeMoves 105 = .ok (.bipush (-2), 2) := by decide +kernel
theorem dX10_takeMoves_107 : decode cX10_takeMoves 107 = .ok (.ireturn, 1) := by decide +kernel
theorem dX10_takeMoves_108 : decode cX10_takeMoves 108 = .ok (.aload_n 0, 1) := by decide +kernel
theorem dX10_takeMoves_109 : decode cX10_takeMoves 109 = .ok (.getfield 53, 3) := by decide +kernel
theorem dX10_takeMoves_112 : decode cX10_takeMoves 112 = .ok (.iload 7, 2) := by decide +kernel
theorem dX10_takeMoves_114 : decode cX10_takeMoves 114 = .ok (.iload 8, 2) := by decide +kernel
theorem dX10_takeMoves_116 : decode cX10_takeMoves 116 = .ok (.invokevirtual 168, 3) := by decide +kernel
theorem dX10_takeMoves_119 : decode cX10_takeMoves 119 = .ok (.iinc 6 1, 3) := by decide +kernel
theorem dX10_takeMoves_122 : decode cX10_takeMoves 122 = .ok (.goto (-74), 3) := by decide +kernel
theorem dX10_takeMoves_125 : decode cX10_takeMoves 125 = .ok (.iconst 0, 1) := by decide +kernel
theorem dX10_takeMoves_126 : decode cX10_takeMoves 126 = .ok (.ireturn, 1) := by decide +kernel
set_option maxRecDepth 20000 in
theorem ggX10_doMoves_X1_canBe : GoodIn wsX10_doMoves wsX1_canBe := goodIn_r _ [20, 21, 22, 23, 24, 19, 25, 26, 27, 28, 29, 30, 31, 32, 33, 34, 35, 36, 37, 38, 39, 40, 41, 42, 43, 44, 89, 90, 91, 92, 93, 94, 95, 96, 97, 98] (by decide +kernel) (by decide +kernel)
set_option maxRecDepth 20000 in
theorem gX10_doMoves_X1_canBe : GoodIn wsX10_doMoves (wsV RX10 312 RX1 yX1_canBe wsX1_canBe) := goodIn_app (goodIn_of _ (by decide +kernel)) ggX10_doMoves_X1_canBe
set_option maxRecDepth 20000 in
theorem ggX10_doMoves_X1_beats : GoodIn wsX10_doMoves wsX1_beats := goodIn_r _ [48, 21, 49, 34, 35, 36, 50, 38, 39, 89, 90, 91, 92] (by decide +kernel) (by decide +kernel)
set_option maxRecDepth 20000 in
theorem gX10_doMoves_X1_beats : GoodIn wsX10_doMoves (wsV RX10 316 RX1 yX1_beats wsX1_beats) := goodIn_app (goodIn_of _ (by decide +kernel)) ggX10_doMoves_X1_beats
set_option maxRecDepth 20000 in
theorem ggX10_doMoves_X3_remember : GoodIn wsX10_doMoves wsX3_remember := goodIn_r _ [55, 56, 57, 58, 59, 60, 35, 61, 62, 63, 64, 65, 66, 67, 68, 7, 8, 9, 69, 70, 71, 102, 103, 104, 93, 94, 95, 96, 97, 98] (by decide +kernel) (by decide +kernel)
set_option maxRecDepth 20000 in
theorem gX10_doMoves_X3_remember : GoodIn wsX10_doMoves (wsV RX10 187 RX3 yX3_remember wsX3_remember) := goodIn_app (goodIn_of _ (by decide +kernel)) ggX10_doMoves_X3_remember
theorem dX10_doMoves_0 : decode cX10_doMoves 0 = .ok (.aload_n 0, 1) := by decide +kernel
theorem dX10_doMoves_1 : decode cX10_doMoves 1 = .ok (.getfield 60, 3) := by decide +kernel
theorem dX10_doMoves_4 : decode cX10_doMoves 4 = .ok (.getfield 216, 3) := by decide +kernel
theorem dX10_doMoves_7 : decode cX10_doMoves 7 = .ok (.astore_n 1, 1) := by decide +kernel
theorem dX10_doMoves_8 : decode cX10_doMoves 8 = .ok (.aload_n 0, 1) := by decide +kernel
theorem dX10_doMoves_9 : decode cX10_doMoves 9 = .ok (.getfield 32, 3) := by decide +kernel
theorem dX10_doMoves_12 : decode cX10_doMoves 12 = .ok (.getfield 124, 3) := by decide +kernel
theorem dX10_doMoves_15 : decode cX10_doMoves 15 = .ok (.getfield 134, 3) := by decide +kernel
theorem dX10_doMoves_18 : decode cX10_doMoves 18 = .ok (.iconst 0, 1) := by decide +kernel
theorem dX10_doMoves_19 : decode cX10_doMoves 19 = .ok (.aload_n 1, 1) := by decide +kernel
theorem dX10_doMoves_20 : decode cX10_doMoves 20 = .ok (.iconst 0, 1) := by decide +kernel
theorem dX10_doMoves_21 : decode cX10_doMoves 21 = .ok (.bipush 8, 2) := by decide +kernel
theorem dX10_doMoves_23 : decode cX10_doMoves 23 = .ok (.invokestatic 278, 3) := by decide +kernel
theorem dX10_doMoves_26 : decode cX10_doMoves 26 = .ok (.iconst 0, 1) := by decide +kernel
theorem dX10_doMoves_27 : decode cX10_doMoves 27 = .ok (.istore_n 2, 1) := by decide +kernel
theorem dX10_doMoves_28 : decode cX10_doMoves 28 = .ok (.iload_n 2, 1) := by decide +kernel
theorem dX10_doMoves_29 : decode cX10_doMoves 29 = .ok (.aload_n 0, 1) := by decide +kernel
theorem dX10_doMoves_30 : decode cX10_doMoves 30 = .ok (.getfield 53, 3) := by decide +kernel
theorem dX10_doMoves_33 : decode cX10_doMoves 33 = .ok (.getfield 167, 3) := by decide +kernel
theorem dX10_doMoves_36 : decode cX10_doMoves 36 = .ok (.if_icmp .ge 29, 3) := by decide +kernel
theorem dX10_doMoves_39 : decode cX10_doMoves 39 = .ok (.aload_n 1, 1) := by decide +kernel
theorem dX10_doMoves_40 : decode cX10_doMoves 40 = .ok (.aload_n 0, 1) := by decide +kernel
theorem dX10_doMoves_41 : decode cX10_doMoves 41 = .ok (.getfield 53, 3) := by decide +kernel
theorem dX10_doMoves_44 : decode cX10_doMoves 44 = .ok (.getfield 308, 3) := by decide +kernel
theorem dX10_doMoves_47 : decode cX10_doMoves 47 = .ok (.iload_n 2, 1) := by decide +kernel
theorem dX10_doMoves_48 : decode cX10_doMoves 48 = .ok (.iaload, 1) := by decide +kernel
theorem dX10_doMoves_49 : decode cX10_doMoves 49 = .ok (.aload_n 0, 1) := by decide +kernel
theorem dX10_doMoves_50 : decode cX10_doMoves 50 = .ok (.getfield 53, 3) := by decide +kernel
theorem dX10_doMoves_53 : decode cX10_doMoves 53 = .ok (.getfield 311, 3) := by decide +kernel
theorem dX10_doMoves_56 : decode cX10_doMoves 56 = .ok (.iload_n 2, 1) := by decide +kernel
theorem dX10_doMoves_57 : decode cX10_doMoves 57 = .ok (.iaload, 1) := by decide +kernel
theorem dX10_doMoves_58 : decode cX10_doMoves 58 = .ok (.iastore, 1) := by decide +kernel
theorem dX10_doMoves_59 : decode cX10_doMoves 59 = .ok (.iinc 2 1, 3) := by decide +kernel
theorem dX10_doMoves_62 : decode cX10_doMoves 62 = .ok (.goto (-34), 3) := by decide +kernel
theorem dX10_doMoves_65 : decode cX10_doMoves 65 = .ok (.aload_n 0, 1) := by decide +kernel
theorem dX10_doMoves_66 : decode cX10_doMoves 66 = .ok (.getfield 32, 3) := by decide +kernel
theorem dX10_doMoves_69 : decode cX10_doMoves 69 = .ok (.aload_n 0, 1) := by decide +kernel
theorem dX10_doMoves_70 : decode cX10_doMoves 70 = .ok (.getfield 32, 3) := by decide +kernel
theorem dX10_doMoves_73 : decode cX10_doMoves 73 = .ok (.getfield 124, 3) := by decide +kernel
theorem dX10_doMoves_76 : decode cX10_doMoves 76 = .ok (.getfield 134, 3) := by decide +kernel
theorem dX10_doMoves_79 : decode cX10_doMoves 79 = .ok (.aload_n 1, 1) := by decide +kernel
theorem dX10_doMoves_80 : decode cX10_doMoves 80 = .ok (.aload_n 0, 1) := by decide +kernel
theorem dX10_doMoves_81 : decode cX10_doMoves 81 = .ok (.getfield 32, 3) := by decide +kernel
theorem dX10_doMoves_84 : decode cX10_doMoves 84 = .ok (.getfield 124, 3) := by decide +kernel
theorem dX10_doMoves_87 : decode cX10_doMoves 87 = .ok (.getfield 158, 3) := by decide +kernel
theorem dX10_doMoves_90 : decode cX10_doMoves 90 = .ok (.invokevirtual 312, 3) := by decide +kernel
theorem dX10_doMoves_93 : decode cX10_doMoves 93 = .ok (.ifCond .ne 6, 3) := by decide +kernel
theorem dX10_doMoves_96 : decode cX10_doMoves 96 = .ok (.bipush (-3), 2) := by decide +kernel
theorem dX10_doMoves_98 : decode cX10_doMoves 98 = .ok (.ireturn, 1) := by decide +kernel
theorem dX10_doMoves_99 : decode cX10_doMoves 99 = .ok (.aload_n 0, 1) := by decide +kernel
theorem dX10_doMoves_100 : decode cX10_doMoves 100 = .ok (.getfield 32, 3) := by decide +kernel
theorem dX10_doMoves_103 : decode cX10_doMoves 103 = .ok (.aload_n 0, 1) := by decide +kernel
theorem dX10_doMoves_104 : decode cX10_doMoves 104 = .ok (.getfield 32, 3) := by decide +kernel
theorem dX10_doMoves_107 : decode cX10_doMoves 107 = .ok (.getfield 124, 3) := by decide +kernel
theorem dX10_doMoves_110 : decode cX10_doMoves 110 = .ok (.getfield 134, 3) := by decide +kernel
theorem dX10_doMoves_113 : decode cX10_doMoves 113 = .ok (.aload_n 1, 1) := by decide +kernel
theorem dX10_doMoves_114 : decode cX10_doMoves 114 = .ok (.invokevirtual 316, 3) := by decide +kernel
theorem dX10_doMoves_117 : decode cX10_doMoves 117 = .ok (.istore_n 2, 1) := by decide +kernel
theorem dX10_doMoves_118 : decode cX10_doMoves 118 = .ok (.aload_n 0, 1) := by decide +kernel
theorem dX10_doMoves_119 : decode cX10_doMoves 119 = .ok (.getfield 39, 3) := by decide +kernel
theorem dX10_doMoves_122 : decode cX10_doMoves 122 = .ok (.aload_n 0, 1) := by decide +kernel
theorem dX10_doMoves_123 : decode cX10_doMoves 123 = .ok (.getfield 32, 3) := by decide +kernel
theorem dX10_doMoves_126 : decode cX10_doMoves 126 = .ok (.getfield 124, 3) := by decide +kernel
theorem dX10_doMoves_129 : decode cX10_doMoves 129 = .ok (.invokevirtual 187, 3) := by decide +kernel
theorem dX10_doMoves_132 : decode cX10_doMoves 132 = .ok (.aload_n 1, 1) := by decide +kernel
theorem dX10_doMoves_133 : decode cX10_doMoves 133 = .ok (.iconst 0, 1) := by decide +kernel
theorem dX10_doMoves_134 : decode cX10_doMoves 134 = .ok (.aload_n 0, 1) := by decide +kernel
theorem dX10_doMoves_135 : decode cX10_doMoves 135 = .ok (.getfield 32, 3) := by decide +kernel
theorem dX10_doMoves_138 : decode cX10_doMoves 138 = .ok (.getfield 124, 3) := by decide +kernel
theorem dX10_doMoves_141 : decode cX10_doMoves 141 = .ok (.getfield 134, 3) := by decide +kernel
theorem dX10_doMoves_144 : decode cX10_doMoves 144 = .ok (.iconst 0, 1) := by decide +kernel
theorem dX10_doMoves_145 : decode cX10_doMoves 145 = .ok (.bipush 8, 2) := by decide +kernel
theorem dX10_doMoves_147 : decode cX10_doMoves 147 = .ok (.invokestatic 278, 3) := by decide +kernel
theorem dX10_doMoves_150 : decode cX10_doMoves 150 = .ok (.iload_n 2, 1) := by decide +kernel
theorem dX10_doMoves_151 : decode cX10_doMoves 151 = .ok (.ireturn, 1) := by decide +kernel
theorem dX10_leave_0 : decode cX10_leave 0 = .ok (.aload_n 0, 1) := by decide +kernel
theorem dX10_leave_1 : decode cX10_leave 1 = .ok (.bipush 31, 2) := by decide +kernel
theorem dX10_leave_3 : decode cX10_leave 3 = .ok (.aload_n 0, 1) := by decide +kernel
theorem dX10_leave_4 : decode cX10_leave 4 = .ok (.getfield 297, 3) := by decide +kernel
theorem dX10_leave_7 : decode cX10_leave 7 = .ok (.imul, 1) := by decide +kernel
theorem dX10_leave_8 : decode cX10_leave 8 = .ok (.iload_n 1, 1) := by decide +kernel
theorem dX10_leave_9 : decode cX10_leave 9 = .ok (.iadd, 1) := by decide +kernel
theorem dX10_leave_10 : decode cX10_leave 10 = .ok (.putfield 297, 3) := by decide +kernel
theorem dX10_leave_13 : decode cX10_leave 13 = .ok (.return_, 1) := by decide +kernel
set_option maxRecDepth 20000 in
theorem ggX10_lineTells_X10_leave : GoodIn wsX10_lineTells wsX10_leave := goodIn_r _ [5, 6, 7, 8, 9, 10, 11, 12, 13, 14, 15, 16, 17, 18] (by decide +kernel) (by decide +kernel)
set_option maxRecDepth 20000 in
theorem gX10_lineTells_X10_leave : GoodIn wsX10_lineTells (wsV RX10 293 RX10 yX10_leave wsX10_leave) := goodIn_app (goodIn_of _ (by decide +kernel)) ggX10_lineTells_X10_leave
theorem dX10_lineTells_0 : decode cX10_lineTells 0 = .ok (.aload_n 0, 1) := by decide +kernel
theorem dX10_lineTells_1 : decode cX10_lineTells 1 = .ok (.iconst 1, 1) := by decide +kernel
theorem dX10_lineTells_2 : decode cX10_lineTells 2 = .ok (.invokevirtual 293, 3) := by decide +kernel
theorem dX10_lineTells_5 : decode cX10_lineTells 5 = .ok (.iload_n 1, 1) := by decide +kernel
theorem dX10_lineTells_6 : decode cX10_lineTells 6 = .ok (.ireturn, 1) := by decide +kernel
set_option maxRecDepth 20000 in
theorem ggX10_arborTells_X10_leave : GoodIn wsX10_arborTells wsX10_leave := goodIn_r _ [5, 6, 11, 12, 13, 14, 15, 16, 17, 18, 19, 20, 21, 22] (by decide +kernel) (by decide +kernel)
set_option maxRecDepth 20000 in
theorem gX10_arborTells_X10_leave : GoodIn wsX10_arborTells (wsV RX10 293 RX10 yX10_leave wsX10_leave) := goodIn_app (goodIn_of _ (by decide +kernel)) ggX10_arborTells_X10_leave
set_option maxRecDepth 20000 in
theorem ggX10_arborTells_X10_lineTells : GoodIn wsX10_arborTells wsX10_lineTells := goodIn_r _ [10, 1, 2, 3, 4, 5, 6, 11, 12, 13, 14, 15, 16, 17, 18, 19, 20, 21, 22] (by decide +kernel) (by decide +kernel)
set_option maxRecDepth 20000 in
theorem gX10_arborTells_X10_lineTells : GoodIn wsX10_arborTells (wsV RX10 284 RX10 yX10_lineTells wsX10_lineTells) := goodIn_app (goodIn_of _ (by decide +kernel)) ggX10_arborTells_X10_lineTells
theorem dX10_arborTells_0 : decode cX10_arborTells 0 = .ok (.aload_n 0, 1) := by decide +kernel
theorem dX10_arborTells_1 : decode cX10_arborTells 1 = .ok (.iconst 2, 1) := by decide +kernel
theorem dX10_arborTells_2 : decode cX10_arborTells 2 = .ok (.invokevirtual 293, 3) := by decide +kernel
theorem dX10_arborTells_5 : decode cX10_arborTells 5 = .ok (.aload_n 0, 1) := by decide +kernel
theorem dX10_arborTells_6 : decode cX10_arborTells 6 = .ok (.iload_n 1, 1) := by decide +kernel
theorem dX10_arborTells_7 : decode cX10_arborTells 7 = .ok (.invokevirtual 284, 3) := by decide +kernel
theorem dX10_arborTells_10 : decode cX10_arborTells 10 = .ok (.bipush 100, 2) := by decide +kernel
theorem dX10_arborTells_12 : decode cX10_arborTells 12 = .ok (.iadd, 1) := by decide +kernel
theorem dX10_arborTells_13 : decode cX10_arborTells 13 = .ok (.ireturn, 1) := by decide +kernel
set_option maxRecDepth 20000 in
theorem ggX10_winchTells_X10_leave : GoodIn wsX10_winchTells wsX10_leave := goodIn_r _ [5, 6, 15, 16, 17, 18, 19, 20, 21, 22, 23, 24, 25, 26] (by decide +kernel) (by decide +kernel)
set_option maxRecDepth 20000 in
theorem gX10_winchTells_X10_leave : GoodIn wsX10_winchTells (wsV RX10 293 RX10 yX10_leave wsX10_leave) := goodIn_app (goodIn_of _ (by decide +kernel)) ggX10_winchTells_X10_leave
set_option maxRecDepth 20000 in
theorem ggX10_winchTells_X10_arborTells : GoodIn wsX10_winchTells wsX10_arborTells := goodIn_r _ [10, 1, 2, 3, 4, 5, 6, 11, 12, 13, 14, 15, 16, 17, 18, 19, 20, 21, 22, 23, 24, 25, 26] (by decide +kernel) (by decide +kernel)
set_option maxRecDepth 20000 in
theorem gX10_winchTells_X10_arborTells : GoodIn wsX10_winchTells (wsV RX10 287 RX10 yX10_arborTells wsX10_arborTells) := goodIn_app (goodIn_of _ (by decide +kernel)) ggX10_winchTells_X10_arborTells
set_option maxRecDepth 20000 in
theorem ggX10_winchTells_X10_lineTells : GoodIn wsX10_winchTells wsX10_lineTells := goodIn_r _ [14, 1, 2, 3, 4, 5, 6, 15, 16, 17, 18, 19, 20, 21, 22, 23, 24, 25, 26] (by decide +kernel) (by decide +kernel)
set_option maxRecDepth 20000 in
theorem gX10_winchTells_X10_lineTells : GoodIn wsX10_winchTells (wsV RX10 284 RX10 yX10_lineTells wsX10_lineTells) := goodIn_app (goodIn_of _ (by decide +kernel)) ggX10_winchTells_X10_lineTells
theorem dX10_winchTells_0 : decode cX10_winchTells 0 = .ok (.aload_n 0, 1) := by decide +kernel
theorem dX10_winchTells_1 : decode cX10_winchTells 1 = .ok (.iconst 3, 1) := by decide +kernel
theorem dX10_winchTells_2 : decode cX10_winchTells 2 = .ok (.invokevirtual 293, 3) := by decide +kernel
theorem dX10_winchTells_5 : decode cX10_winchTells 5 = .ok (.aload_n 0, 1) := by decide +kernel
theorem dX10_winchTells_6 : decode cX10_winchTells 6 = .ok (.iload_n 1, 1) := by decide +kernel
theorem dX10_winchTells_7 : decode cX10_winchTells 7 = .ok (.invokevirtual 287, 3) := by decide +kernel
theorem dX10_winchTells_10 : decode cX10_winchTells 10 = .ok (.istore_n 2, 1) := by decide +kernel
theorem dX10_winchTells_11 : decode cX10_winchTells 11 = .ok (.iload_n 2, 1) := by decide +kernel
theorem dX10_winchTells_12 : decode cX10_winchTells 12 = .ok (.aload_n 0, 1) := by decide +kernel
theorem dX10_winchTells_13 : decode cX10_winchTells 13 = .ok (.iload_n 1, 1) := by decide +kernel
theorem dX10_winchTells_14 : decode cX10_winchTells 14 = .ok (.invokevirtual 284, 3) := by decide +kernel
theorem dX10_winchTells_17 : decode cX10_winchTells 17 = .ok (.iadd, 1) := by decide +kernel
theorem dX10_winchTells_18 : decode cX10_winchTells 18 = .ok (.ireturn, 1) := by decide +kernel
theorem dX11_init_0 : decode cX11_init 0 = .ok (.aload_n 0, 1) := by decide +kernel
theorem dX11_init_1 : decode cX11_init 1 = .ok (.invokespecial 1, 3) := by decide +kernel
theorem dX11_init_4 : decode cX11_init 4 = .ok (.aload_n 0, 1) := by decide +kernel
theorem dX11_init_5 : decode cX11_init 5 = .ok (.iconst 4, 1) := by decide +kernel
theorem dX11_init_6 : decode cX11_init 6 = .ok (.newarray .int, 2) := by decide +kernel
theorem dX11_init_8 : decode cX11_init 8 = .ok (.dup, 1) := by decide +kernel
theorem dX11_init_9 : decode cX11_init 9 = .ok (.iconst 0, 1) := by decide +kernel
theorem dX11_init_10 : decode cX11_init 10 = .ok (.bipush (-9), 2) := by decide +kernel
theorem dX11_init_12 : decode cX11_init 12 = .ok (.iastore, 1) := by decide +kernel
theorem dX11_init_13 : decode cX11_init 13 = .ok (.dup, 1) := by decide +kernel
theorem dX11_init_14 : decode cX11_init 14 = .ok (.iconst 1, 1) := by decide +kernel
theorem dX11_init_15 : decode cX11_init 15 = .ok (.bipush (-9), 2) := by decide +kernel
theorem dX11_init_17 : decode cX11_init 17 = .ok (.iastore, 1) := by decide +kernel
theorem dX11_init_18 : decode cX11_init 18 = .ok (.dup, 1) := by decide +kernel
theorem dX11_init_19 : decode cX11_init 19 = .ok (.iconst 2, 1) := by decide +kernel
theorem dX11_init_20 : decode cX11_init 20 = .ok (.bipush (-9), 2) := by decide +kernel
theorem dX11_init_22 : decode cX11_init 22 = .ok (.iastore, 1) := by decide +kernel
theorem dX11_init_23 : decode cX11_init 23 = .ok (.dup, 1) := by decide +kernel
theorem dX11_init_24 : decode cX11_init 24 = .ok (.iconst 3, 1) := by decide +kernel
theorem dX11_init_25 : decode cX11_init 25 = .ok (.bipush (-9), 2) := by decide +kernel
theorem dX11_init_27 : decode cX11_init 27 = .ok (.iastore, 1) := by decide +kernel
theorem dX11_init_28 : decode cX11_init 28 = .ok (.putfield 9, 3) := by decide +kernel
theorem dX11_init_31 : decode cX11_init 31 = .ok (.aload_n 0, 1) := by decide +kernel
theorem dX11_init_32 : decode cX11_init 32 = .ok (.iconst 4, 1) := by decide +kernel
theorem dX11_init_33 : decode cX11_init 33 = .ok (.newarray .int, 2) := by decide +kernel
theorem dX11_init_35 : decode cX11_init 35 = .ok (.putfield 13, 3) := by decide +kernel
theorem dX11_init_38 : decode cX11_init 38 = .ok (.aload_n 0, 1) := by decide +kernel
theorem dX11_init_39 : decode cX11_init 39 = .ok (.sipush 240, 3) := by decide +kernel
theorem dX11_init_42 : decode cX11_init 42 = .ok (.newarray .int, 2) := by decide +kernel
theorem dX11_init_44 : decode cX11_init 44 = .ok (.putfield 16, 3) := by decide +kernel
theorem dX11_init_47 : decode cX11_init 47 = .ok (.aload_n 0, 1) := by decide +kernel
theorem dX11_init_48 : decode cX11_init 48 = .ok (.bipush 8, 2) := by decide +kernel
theorem dX11_init_50 : decode cX11_init 50 = .ok (.newarray .int, 2) := by decide +kernel
theorem dX11_init_52 : decode cX11_init 52 = .ok (.putfield 19, 3) := by decide +kernel
theorem dX11_init_55 : decode cX11_init 55 = .ok (.aload_n 0, 1) := by decide +kernel
theorem dX11_init_56 : decode cX11_init 56 = .ok (.bipush 8, 2) := by decide +kernel
theorem dX11_init_58 : decode cX11_init 58 = .ok (.newarray .int, 2) := by decide +kernel
theorem dX11_init_60 : decode cX11_init 60 = .ok (.putfield 22, 3) := by decide +kernel
theorem dX11_init_63 : decode cX11_init 63 = .ok (.aload_n 0, 1) := by decide +kernel
theorem dX11_init_64 : decode cX11_init 64 = .ok (.bipush 8, 2) := by decide +kernel
theorem dX11_init_66 : decode cX11_init 66 = .ok (.newarray .int, 2) := by decide +kernel
theorem dX11_init_68 : decode cX11_init 68 = .ok (.putfield 25, 3) := by decide +kernel
theorem dX11_init_71 : decode cX11_init 71 = .ok (.aload_n 0, 1) := by decide +kernel
theorem dX11_init_72 : decode cX11_init 72 = .ok (.bipush 8, 2) := by decide +kernel
theorem dX11_init_74 : decode cX11_init 74 = .ok (.newarray .int, 2) := by decide +kernel
theorem dX11_init_76 : decode cX11_init 76 = .ok (.putfield 28, 3) := by decide +kernel
theorem dX11_init_79 : decode cX11_init 79 = .ok (.aload_n 0, 1) := by decide +kernel
theorem dX11_init_80 : decode cX11_init 80 = .ok (.bipush 8, 2) := by decide +kernel
theorem dX11_init_82 : decode cX11_init 82 = .ok (.newarray .int, 2) := by decide +kernel
theorem dX11_init_84 : decode cX11_init 84 = .ok (.putfield 31, 3) := by decide +kernel
theorem dX11_init_87 : decode cX11_init 87 = .ok (.aload_n 0, 1) := by decide +kernel
theorem dX11_init_88 : decode cX11_init 88 = .ok (.bipush 40, 2) := by decide +kernel
theorem dX11_init_90 : decode cX11_init 90 = .ok (.newarray .int, 2) := by decide +kernel
theorem dX11_init_92 : decode cX11_init 92 = .ok (.putfield 34, 3) := by decide +kernel
theorem dX11_init_95 : decode cX11_init 95 = .ok (.aload_n 0, 1) := by decide +kernel
theorem dX11_init_96 : decode cX11_init 96 = .ok (.bipush 8, 2) := by decide +kernel
theorem dX11_init_98 : decode cX11_init 98 = .ok (.newarray .int, 2) := by decide +kernel
theorem dX11_init_100 : decode cX11_init 100 = .ok (.putfield 37, 3) := by decide +kernel
theorem dX11_init_103 : decode cX11_init 103 = .ok (.aload_n 0, 1) := by decide +kernel
theorem dX11_init_104 : decode cX11_init 104 = .ok (.sipush 200, 3) := by decide +kernel
theorem dX11_init_107 : decode cX11_init 107 = .ok (.newarray .int, 2) := by decide +kernel
theorem dX11_init_109 : decode cX11_init 109 = .ok (.putfield 40, 3) := by decide +kernel
theorem dX11_init_112 : decode cX11_init 112 = .ok (.aload_n 0, 1) := by decide +kernel
theorem dX11_init_113 : decode cX11_init 113 = .ok (.iconst 2, 1) := by decide +kernel
theorem dX11_init_114 : decode cX11_init 114 = .ok (.newarray .boolean, 2) := by decide +kernel
theorem dX11_init_116 : decode cX11_init 116 = .ok (.putfield 43, 3) := by decide +kernel
theorem dX11_init_119 : decode cX11_init 119 = .ok (.aload_n 0, 1) := by decide +kernel
theorem dX11_init_120 : decode cX11_init 120 = .ok (.bipush 50, 2) := by decide +kernel
theorem dX11_init_122 : decode cX11_init 122 = .ok (.newarray .int, 2) := by decide +kernel
theorem dX11_init_124 : decode cX11_init 124 = .ok (.putfield 47, 3) := by decide +kernel
theorem dX11_init_127 : decode cX11_init 127 = .ok (.aload_n 0, 1) := by decide +kernel
theorem dX11_init_128 : decode cX11_init 128 = .ok (.iconst 2, 1) := by decide +kernel
theorem dX11_init_129 : decode cX11_init 129 = .ok (.newarray .int, 2) := by decide +kernel
theorem dX11_init_131 : decode cX11_init 131 = .ok (.putfield 50, 3) := by decide +kernel
theorem dX11_init_134 : decode cX11_init 134 = .ok (.aload_n 0, 1) := by decide +kernel
theorem dX11_init_135 : decode cX11_init 135 = .ok (.iconst 2, 1) := by decide +kernel
theorem dX11_init_136 : decode cX11_init 136 = .ok (.newarray .int, 2) := by decide +kernel
theorem dX11_init_138 : decode cX11_init 138 = .ok (.putfield 53, 3) := by decide +kernel
theorem dX11_init_141 : decode cX11_init 141 = .ok (.aload_n 0, 1) := by decide +kernel
theorem dX11_init_142 : decode cX11_init 142 = .ok (.bipush 8, 2) := by decide +kernel
theorem dX11_init_144 : decode cX11_init 144 = .ok (.newarray .int, 2) := by decide +kernel
theorem dX11_init_146 : decode cX11_init 146 = .ok (.putfield 56, 3) := by decide +kernel
theorem dX11_init_149 : decode cX11_init 149 = .ok (.aload_n 0, 1) := by decide +kernel
theorem dX11_init_150 : decode cX11_init 150 = .ok (.bipush 8, 2) := by decide +kernel
theorem dX11_init_152 : decode cX11_init 152 = .ok (.newarray .int, 2) := by decide +kernel
theorem dX11_init_154 : decode cX11_init 154 = .ok (.putfield 59, 3) := by decide +kernel
theorem dX11_init_157 : decode cX11_init 157 = .ok (.aload_n 0, 1) := by decide +kernel
theorem dX11_init_158 : decode cX11_init 158 = .ok (.iconst 5, 1) := by decide +kernel
theorem dX11_init_159 : decode cX11_init 159 = .ok (.newarray .int, 2) := by decide +kernel
theorem dX11_init_161 : decode cX11_init 161 = .ok (.putfield 62, 3) := by decide +kernel
theorem dX11_init_164 : decode cX11_init 164 = .ok (.aload_n 0, 1) := by decide +kernel
theorem dX11_init_165 : decode cX11_init 165 = .ok (.iconst 5, 1) := by decide +kernel
theorem dX11_init_166 : decode cX11_init 166 = .ok (.newarray .int, 2) := by decide +kernel
theorem dX11_init_168 : decode cX11_init 168 = .ok (.putfield 65, 3) := by decide +kernel
theorem dX11_init_171 : decode cX11_init 171 = .ok (.aload_n 0, 1) := by decide +kernel
theorem dX11_init_172 : decode cX11_init 172 = .ok (.bipush 8, 2) := by decide +kernel
theorem dX11_init_174 : decode cX11_init 174 = .ok (.newarray .int, 2) := by decide +kernel
theorem dX11_init_176 : decode cX11_init 176 = .ok (.putfield 68, 3) := by decide +kernel
theorem dX11_init_179 : decode cX11_init 179 = .ok (.aload_n 0, 1) := by decide +kernel
theorem dX11_init_180 : decode cX11_init 180 = .ok (.bipush 8, 2) := by decide +kernel
theorem dX11_init_182 : decode cX11_init 182 = .ok (.newarray .int, 2) := by decide +kernel
theorem dX11_init_184 : decode cX11_init 184 = .ok (.putfield 71, 3) := by decide +kernel
theorem dX11_init_187 : decode cX11_init 187 = .ok (.aload_n 0, 1) := by decide +kernel
theorem dX11_init_188 : decode cX11_init 188 = .ok (.bipush 8, 2) := by decide +kernel
theorem dX11_init_190 : decode cX11_init 190 = .ok (.newarray .int, 2) := by decide +kernel
theorem dX11_init_192 : decode cX11_init 192 = .ok (.putfield 74, 3) := by decide +kernel
theorem dX11_init_195 : decode cX11_init 195 = .ok (.return_, 1) := by decide +kernel
theorem dX11_fails_0 : decode cX11_fails 0 = .ok (.aload_n 0, 1) := by decide +kernel
theorem dX11_fails_1 : decode cX11_fails 1 = .ok (.iload_n 1, 1) := by decide +kernel
theorem dX11_fails_2 : decode cX11_fails 2 = .ok (.putfield 77, 3) := by decide +kernel
theorem dX11_fails_5 : decode cX11_fails 5 = .ok (.bipush (-10), 2) := by decide +kernel
theorem dX11_fails_7 : decode cX11_fails 7 = .ok (.iload_n 1, 1) := by decide +kernel
theorem dX11_fails_8 : decode cX11_fails 8 = .ok (.isub, 1) := by decide +kernel
theorem dX11_fails_9 : decode cX11_fails 9 = .ok (.ireturn, 1) := by decide +kernel
theorem dX11_lost_0 : decode cX11_lost 0 = .ok (.aload_n 0, 1) := by decide +kernel
theorem dX11_lost_1 : decode cX11_lost 1 = .ok (.iload_n 1, 1) := by decide +kernel
theorem dX11_lost_2 : decode cX11_lost 2 = .ok (.putfield 77, 3) := by decide +kernel
theorem dX11_lost_5 : decode cX11_lost 5 = .ok (.ldc2_w 81, 3) := by decide +kernel
theorem dX11_lost_8 : decode cX11_lost 8 = .ok (.lreturn, 1) := by decide +kernel
theorem dX11_within_0 : decode cX11_within 0 = .ok (.iload_n 0, 1) := by decide +kernel
theorem dX11_within_1 : decode cX11_within 1 = .ok (.iload_n 1, 1) := by decide +kernel
theorem dX11_within_2 : decode cX11_within 2 = .ok (.if_icmp .lt 12, 3) := by decide +kernel
theorem dX11_within_5 : decode cX11_within 5 = .ok (.iload_n 0, 1) := by decide +kernel
theorem dX11_within_6 : decode cX11_within 6 = .ok (.iload_n 2, 1) := by decide +kernel
theorem dX11_within_7 : decode cX11_within 7 = .ok (.if_icmp .gt 7, 3) := by decide +kernel
theorem dX11_within_10 : decode cX11_within 10 = .ok (.iconst 1, 1) := by decide +kernel
theorem dX11_within_11 : decode cX11_within 11 = .ok (.goto 4, 3) := by decide +kernel
theorem dX11_within_14 : decode cX11_within 14 = .ok (.iconst 0, 1) := by decide +kernel
theorem dX11_within_15 : decode cX11_within 15 = .ok (.ireturn, 1) := by decide +kernel
set_option maxRecDepth 20000 in
theorem ggX11_isSheet_X11_within : GoodIn wsX11_isSheet wsX11_within := goodIn_r _ [4] (by decide +kernel) (by decide +kernel)
set_option maxRecDepth 20000 in
theorem gX11_isSheet_X11_within : GoodIn wsX11_isSheet (va_wsS RX11 83 yX11_within wsX11_within) := goodIn_app (goodIn_of _ (by decide +kernel)) ggX11_isSheet_X11_within
theorem dX11_isSheet_0 : decode cX11_isSheet 0 = .ok (.iload_n 0, 1) := by decide +kernel
theorem dX11_isSheet_1 : decode cX11_isSheet 1 = .ok (.iconst 0, 1) := by decide +kernel
theorem dX11_isSheet_2 : decode cX11_isSheet 2 = .ok (.iconst 3, 1) := by decide +kernel
theorem dX11_isSheet_3 : decode cX11_isSheet 3 = .ok (.invokestatic 83, 3) := by decide +kernel
theorem dX11_isSheet_6 : decode cX11_isSheet 6 = .ok (.ireturn, 1) := by decide +kernel
set_option maxRecDepth 20000 in
theorem ggX11_isSort_X11_within : GoodIn wsX11_isSort wsX11_within := goodIn_r _ [4] (by decide +kernel) (by decide +kernel)
set_option maxRecDepth 20000 in
theorem gX11_isSort_X11_within : GoodIn wsX11_isSort (va_wsS RX11 83 yX11_within wsX11_within) := goodIn_app (goodIn_of _ (by decide +kernel)) ggX11_isSort_X11_within
theorem dX11_isSort_0 : decode cX11_isSort 0 = .ok (.iload_n 0, 1) := by decide +kernel
theorem dX11_isSort_1 : decode cX11_isSort 1 = .ok (.iconst 0, 1) := by decide +kernel
theorem dX11_isSort_2 : decode cX11_isSort 2 = .ok (.iconst 2, 1) := by decide +kernel
theorem dX11_isSort_3 : decode cX11_isSort 3 = .ok (.invokestatic 83, 3) := by decide +kernel
theorem dX11_isSort_6 : decode cX11_isSort 6 = .ok (.ireturn, 1) := by decide +kernel
theorem dX11_against_0 : decode cX11_against 0 = .ok (.aload_n 0, 1) := by decide +kernel
theorem dX11_against_1 : decode cX11_against 1 = .ok (.getfield 9, 3) := by decide +kernel
theorem dX11_against_4 : decode cX11_against 4 = .ok (.iload_n 1, 1) := by decide +kernel
theorem dX11_against_5 : decode cX11_against 5 = .ok (.iaload, 1) := by decide +kernel
theorem dX11_against_6 : decode cX11_against 6 = .ok (.bipush (-9), 2) := by decide +kernel
theorem dX11_against_8 : decode cX11_against 8 = .ok (.if_icmp .eq 15, 3) := by decide +kernel
theorem dX11_against_11 : decode cX11_against 11 = .ok (.aload_n 0, 1) := by decide +kernel
theorem dX11_against_12 : decode cX11_against 12 = .ok (.getfield 9, 3) := by decide +kernel
theorem dX11_against_15 : decode cX11_against 15 = .ok (.iload_n 1, 1) := by decide +kernel
theorem dX11_against_16 : decode cX11_against 16 = .ok (.iaload, 1) := by decide +kernel
theorem dX11_against_17 : decode cX11_against 17 = .ok (.iload_n 2, 1) := by decide +kernel
theorem dX11_against_18 : decode cX11_against 18 = .ok (.if_icmp .eq 5, 3) := by decide +kernel
theorem dX11_against_21 : decode cX11_against 21 = .ok (.iconst 2, 1) := by decide +kernel
theorem dX11_against_22 : decode cX11_against 22 = .ok (.ireturn, 1) := by decide +kernel
theorem dX11_against_23 : decode cX11_against 23 = .ok (.aload_n 0, 1) := by decide +kernel
theorem dX11_against_24 : decode cX11_against 24 = .ok (.getfield 9, 3) := by decide +kernel
theorem dX11_against_27 : decode cX11_against 27 = .ok (.iload_n 1, 1) := by decide +kernel
theorem dX11_against_28 : decode cX11_against 28 = .ok (.iaload, 1) := by decide +kernel
theorem dX11_against_29 : decode cX11_against 29 = .ok (.bipush (-9), 2) := by decide +kernel
theorem dX11_against_31 : decode cX11_against 31 = .ok (.if_icmp .ne 5, 3) := by decide +kernel
theorem dX11_against_34 : decode cX11_against 34 = .ok (.iconst 1, 1) := by decide +kernel
theorem dX11_against_35 : decode cX11_against 35 = .ok (.ireturn, 1) := by decide +kernel
theorem dX11_against_36 : decode cX11_against 36 = .ok (.iload 4, 2) := by decide +kernel
theorem dX11_against_38 : decode cX11_against 38 = .ok (.ifCond .ge 5, 3) := by decide +kernel
theorem dX11_against_41 : decode cX11_against 41 = .ok (.iconst 4, 1) := by decide +kernel
theorem dX11_against_42 : decode cX11_against 42 = .ok (.ireturn, 1) := by decide +kernel
theorem dX11_against_43 : decode cX11_against 43 = .ok (.iload_n 3, 1) := by decide +kernel
theorem dX11_against_44 : decode cX11_against 44 = .ok (.ifCond .lt 26, 3) := by decide +kernel
theorem dX11_against_47 : decode cX11_against 47 = .ok (.iload_n 3, 1) := by decide +kernel
theorem dX11_against_48 : decode cX11_against 48 = .ok (.aload_n 0, 1) := by decide +kernel
theorem dX11_against_49 : decode cX11_against 49 = .ok (.getfield 13, 3) := by decide +kernel
theorem dX11_against_52 : decode cX11_against 52 = .ok (.iload_n 1, 1) := by decide +kernel
theorem dX11_against_53 : decode cX11_against 53 = .ok (.iaload, 1) := by decide +kernel
theorem dX11_against_54 : decode cX11_against 54 = .ok (.if_icmp .gt 16, 3) := by decide +kernel
theorem dX11_against_57 : decode cX11_against 57 = .ok (.iload 4, 2) := by decide +kernel
theorem dX11_against_59 : decode cX11_against 59 = .ok (.aload_n 0, 1) := by decide +kernel
theorem dX11_against_60 : decode cX11_against 60 = .ok (.getfield 13, 3) := by decide +kernel
theorem dX11_against_63 : decode cX11_against 63 = .ok (.iload_n 1, 1) := by decide +kernel
theorem dX11_against_64 : decode cX11_against 64 = .ok (.iaload, 1) := by decide +kernel
theorem dX11_against_65 : decode cX11_against 65 = .ok (.iload_n 3, 1) := by decide +kernel
theorem dX11_against_66 : decode cX11_against 66 = .ok (.isub, 1) := by decide +kernel
theorem dX11_against_67 : decode cX11_against 67 = .ok (.if_icmp .le 7, 3) := by decide +kernel
theorem dX11_against_70 : decode cX11_against 70 = .ok (.iconst 3, 1) := by decide +kernel
theorem dX11_against_71 : decode cX11_against 71 = .ok (.goto 4, 3) := by decide +kernel
theorem dX11_against_74 : decode cX11_against 74 = .ok (.iconst 0, 1) := by decide +kernel
theorem dX11_against_75 : decode cX11_against 75 = .ok (.ireturn, 1) := by decide +kernel
theorem dX11_isBatten_0 : decode cX11_isBatten 0 = .ok (.iload_n 1, 1) := by decide +kernel
theorem dX11_isBatten_1 : decode cX11_isBatten 1 = .ok (.ifCond .lt 15, 3) := by decide +kernel
theorem dX11_isBatten_4 : decode cX11_isBatten 4 = .ok (.iload_n 1, 1) := by decide +kernel
theorem dX11_isBatten_5 : decode cX11_isBatten 5 = .ok (.aload_n 0, 1) := by decide +kernel
theorem dX11_isBatten_6 : decode cX11_isBatten 6 = .ok (.getfield 87, 3) := by decide +kernel
theorem dX11_isBatten_9 : decode cX11_isBatten 9 = .ok (.if_icmp .ge 7, 3) := by decide +kernel
theorem dX11_isBatten_12 : decode cX11_isBatten 12 = .ok (.iconst 1, 1) := by decide +kernel
theorem dX11_isBatten_13 : decode cX11_isBatten 13 = .ok (.goto 4, 3) := by decide +kernel
theorem dX11_isBatten_16 : decode cX11_isBatten 16 = .ok (.iconst 0, 1) := by decide +kernel
theorem dX11_isBatten_17 : decode cX11_isBatten 17 = .ok (.ireturn, 1) := by decide +kernel
set_option maxRecDepth 20000 in
theorem ggX11_isDigit_X11_within : GoodIn wsX11_isDigit wsX11_within := goodIn_r _ [4] (by decide +kernel) (by decide +kernel)
set_option maxRecDepth 20000 in
theorem gX11_isDigit_X11_within : GoodIn wsX11_isDigit (va_wsS RX11 83 yX11_within wsX11_within) := goodIn_app (goodIn_of _ (by decide +kernel)) ggX11_isDigit_X11_within
theorem dX11_isDigit_0 : decode cX11_isDigit 0 = .ok (.iload_n 0, 1) := by decide +kernel
theorem dX11_isDigit_1 : decode cX11_isDigit 1 = .ok (.iconst 0, 1) := by decide +kernel
theorem dX11_isDigit_2 : decode cX11_isDigit 2 = .ok (.bipush 9, 2) := by decide +kernel
theorem dX11_isDigit_4 : decode cX11_isDigit 4 = .ok (.invokestatic 83, 3) := by decide +kernel
theorem dX11_isDigit_7 : decode cX11_isDigit 7 = .ok (.ireturn, 1) := by decide +kernel
set_option maxRecDepth 20000 in
theorem ggX11_digit_X11_within : GoodIn wsX11_digit wsX11_within := goodIn_r _ [6] (by decide +kernel) (by decide +kernel)
set_option maxRecDepth 20000 in
theorem gX11_digit_X11_within : GoodIn wsX11_digit (va_wsS RX11 83 yX11_within wsX11_within) := goodIn_app (goodIn_of _ (by decide +kernel)) ggX11_digit_X11_within
theorem dX11_digit_0 : decode cX11_digit 0 = .ok (.aload_n 0, 1) := by decide +kernel
theorem dX11_digit_1 : decode cX11_digit 1 = .ok (.getfield 90, 3) := by decide +kernel
theorem dX11_digit_4 : decode cX11_digit 4 = .ok (.iload_n 1, 1) := by decide +kernel
theorem dX11_digit_5 : decode cX11_digit 5 = .ok (.if_icmp .ge 26, 3) := by decide +kernel
theorem dX11_digit_8 : decode cX11_digit 8 = .ok (.aload_n 0, 1) := by decide +kernel
theorem dX11_digit_9 : decode cX11_digit 9 = .ok (.getfield 16, 3) := by decide +kernel
theorem dX11_digit_12 : decode cX11_digit 12 = .ok (.aload_n 0, 1) := by decide +kernel
theorem dX11_digit_13 : decode cX11_digit 13 = .ok (.getfield 90, 3) := by decide +kernel
theorem dX11_digit_16 : decode cX11_digit 16 = .ok (.iaload, 1) := by decide +kernel
theorem dX11_digit_17 : decode cX11_digit 17 = .ok (.bipush 48, 2) := by decide +kernel
theorem dX11_digit_19 : decode cX11_digit 19 = .ok (.iload_n 2, 1) := by decide +kernel
