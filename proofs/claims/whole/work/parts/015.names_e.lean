theorem dX10_brick_71 : decode cX10_brick 71 = .ok (.getfield 39, 3) := by decide +kernel
theorem dX10_brick_74 : decode cX10_brick 74 = .ok (.aload_n 0, 1) := by decide +kernel
theorem dX10_brick_75 : decode cX10_brick 75 = .ok (.getfield 32, 3) := by decide +kernel
theorem dX10_brick_78 : decode cX10_brick 78 = .ok (.getfield 124, 3) := by decide +kernel
theorem dX10_brick_81 : decode cX10_brick 81 = .ok (.invokevirtual 187, 3) := by decide +kernel
theorem dX10_brick_84 : decode cX10_brick 84 = .ok (.aload_n 0, 1) := by decide +kernel
theorem dX10_brick_85 : decode cX10_brick 85 = .ok (.getfield 32, 3) := by decide +kernel
theorem dX10_brick_88 : decode cX10_brick 88 = .ok (.getfield 124, 3) := by decide +kernel
theorem dX10_brick_91 : decode cX10_brick 91 = .ok (.getfield 131, 3) := by decide +kernel
theorem dX10_brick_94 : decode cX10_brick 94 = .ok (.iload_n 1, 1) := by decide +kernel
theorem dX10_brick_95 : decode cX10_brick 95 = .ok (.iload_n 2, 1) := by decide +kernel
theorem dX10_brick_96 : decode cX10_brick 96 = .ok (.iastore, 1) := by decide +kernel
theorem dX10_brick_97 : decode cX10_brick 97 = .ok (.aload_n 0, 1) := by decide +kernel
theorem dX10_brick_98 : decode cX10_brick 98 = .ok (.getfield 32, 3) := by decide +kernel
theorem dX10_brick_101 : decode cX10_brick 101 = .ok (.getfield 124, 3) := by decide +kernel
theorem dX10_brick_104 : decode cX10_brick 104 = .ok (.dup, 1) := by decide +kernel
theorem dX10_brick_105 : decode cX10_brick 105 = .ok (.getfield 194, 3) := by decide +kernel
theorem dX10_brick_108 : decode cX10_brick 108 = .ok (.iload_n 3, 1) := by decide +kernel
theorem dX10_brick_109 : decode cX10_brick 109 = .ok (.isub, 1) := by decide +kernel
theorem dX10_brick_110 : decode cX10_brick 110 = .ok (.putfield 194, 3) := by decide +kernel
theorem dX10_brick_113 : decode cX10_brick 113 = .ok (.aload_n 0, 1) := by decide +kernel
theorem dX10_brick_114 : decode cX10_brick 114 = .ok (.getfield 32, 3) := by decide +kernel
theorem dX10_brick_117 : decode cX10_brick 117 = .ok (.iload_n 1, 1) := by decide +kernel
theorem dX10_brick_118 : decode cX10_brick 118 = .ok (.invokevirtual 191, 3) := by decide +kernel
theorem dX10_brick_121 : decode cX10_brick 121 = .ok (.ireturn, 1) := by decide +kernel
set_option maxRecDepth 20000 in
theorem ggX10_undo_X3_bringBack : GoodIn wsX10_undo wsX3_bringBack := goodIn_r _ [9, 10, 11, 12, 13, 14, 15, 16, 17, 18, 19, 20, 21, 22, 23, 24, 25, 38, 39, 40, 45, 46, 47, 48, 49, 50] (by decide +kernel) (by decide +kernel)
set_option maxRecDepth 20000 in
theorem gX10_undo_X3_bringBack : GoodIn wsX10_undo (wsV RX10 200 RX3 yX3_bringBack wsX3_bringBack) := goodIn_app (goodIn_of _ (by decide +kernel)) ggX10_undo_X3_bringBack
theorem dX10_undo_0 : decode cX10_undo 0 = .ok (.aload_n 0, 1) := by decide +kernel
theorem dX10_undo_1 : decode cX10_undo 1 = .ok (.getfield 39, 3) := by decide +kernel
theorem dX10_undo_4 : decode cX10_undo 4 = .ok (.getfield 197, 3) := by decide +kernel
theorem dX10_undo_7 : decode cX10_undo 7 = .ok (.ifCond .ne 6, 3) := by decide +kernel
theorem dX10_undo_10 : decode cX10_undo 10 = .ok (.bipush (-3), 2) := by decide +kernel
theorem dX10_undo_12 : decode cX10_undo 12 = .ok (.ireturn, 1) := by decide +kernel
theorem dX10_undo_13 : decode cX10_undo 13 = .ok (.aload_n 0, 1) := by decide +kernel
theorem dX10_undo_14 : decode cX10_undo 14 = .ok (.getfield 39, 3) := by decide +kernel
theorem dX10_undo_17 : decode cX10_undo 17 = .ok (.aload_n 0, 1) := by decide +kernel
theorem dX10_undo_18 : decode cX10_undo 18 = .ok (.getfield 32, 3) := by decide +kernel
theorem dX10_undo_21 : decode cX10_undo 21 = .ok (.getfield 124, 3) := by decide +kernel
theorem dX10_undo_24 : decode cX10_undo 24 = .ok (.invokevirtual 200, 3) := by decide +kernel
theorem dX10_undo_27 : decode cX10_undo 27 = .ok (.aload_n 0, 1) := by decide +kernel
theorem dX10_undo_28 : decode cX10_undo 28 = .ok (.getfield 39, 3) := by decide +kernel
theorem dX10_undo_31 : decode cX10_undo 31 = .ok (.getfield 197, 3) := by decide +kernel
theorem dX10_undo_34 : decode cX10_undo 34 = .ok (.ireturn, 1) := by decide +kernel
set_option maxRecDepth 20000 in
theorem ggX10_keep_X10_isImage : GoodIn wsX10_keep wsX10_isImage := goodIn_r _ [9, 10, 11, 8, 12] (by decide +kernel) (by decide +kernel)
set_option maxRecDepth 20000 in
theorem gX10_keep_X10_isImage : GoodIn wsX10_keep (va_wsS RX10 203 yX10_isImage wsX10_isImage) := goodIn_app (goodIn_of _ (by decide +kernel)) ggX10_keep_X10_isImage
set_option maxRecDepth 20000 in
theorem ggX10_keep_X6_takeAll : GoodIn wsX10_keep wsX6_takeAll := goodIn_r _ [17, 18, 19, 20, 21, 22, 16, 23, 24, 25, 26, 27, 28, 29, 30, 31, 48, 49, 50, 51, 52, 53] (by decide +kernel) (by decide +kernel)
set_option maxRecDepth 20000 in
theorem gX10_keep_X6_takeAll : GoodIn wsX10_keep (wsV RX10 206 RX6 yX6_takeAll wsX6_takeAll) := goodIn_app (goodIn_of _ (by decide +kernel)) ggX10_keep_X6_takeAll
theorem dX10_keep_0 : decode cX10_keep 0 = .ok (.iload_n 1, 1) := by decide +kernel
theorem dX10_keep_1 : decode cX10_keep 1 = .ok (.invokestatic 203, 3) := by decide +kernel
theorem dX10_keep_4 : decode cX10_keep 4 = .ok (.ifCond .ne 5, 3) := by decide +kernel
theorem dX10_keep_7 : decode cX10_keep 7 = .ok (.iconst (-1), 1) := by decide +kernel
theorem dX10_keep_8 : decode cX10_keep 8 = .ok (.ireturn, 1) := by decide +kernel
theorem dX10_keep_9 : decode cX10_keep 9 = .ok (.aload_n 0, 1) := by decide +kernel
theorem dX10_keep_10 : decode cX10_keep 10 = .ok (.getfield 32, 3) := by decide +kernel
theorem dX10_keep_13 : decode cX10_keep 13 = .ok (.getfield 117, 3) := by decide +kernel
theorem dX10_keep_16 : decode cX10_keep 16 = .ok (.ifCond .ne 6, 3) := by decide +kernel
theorem dX10_keep_19 : decode cX10_keep 19 = .ok (.bipush (-3), 2) := by decide +kernel
theorem dX10_keep_21 : decode cX10_keep 21 = .ok (.ireturn, 1) := by decide +kernel
theorem dX10_keep_22 : decode cX10_keep 22 = .ok (.aload_n 0, 1) := by decide +kernel
theorem dX10_keep_23 : decode cX10_keep 23 = .ok (.getfield 20, 3) := by decide +kernel
theorem dX10_keep_26 : decode cX10_keep 26 = .ok (.iload_n 1, 1) := by decide +kernel
theorem dX10_keep_27 : decode cX10_keep 27 = .ok (.aaload, 1) := by decide +kernel
theorem dX10_keep_28 : decode cX10_keep 28 = .ok (.aload_n 0, 1) := by decide +kernel
theorem dX10_keep_29 : decode cX10_keep 29 = .ok (.getfield 32, 3) := by decide +kernel
theorem dX10_keep_32 : decode cX10_keep 32 = .ok (.getfield 124, 3) := by decide +kernel
theorem dX10_keep_35 : decode cX10_keep 35 = .ok (.invokevirtual 206, 3) := by decide +kernel
theorem dX10_keep_38 : decode cX10_keep 38 = .ok (.aload_n 0, 1) := by decide +kernel
theorem dX10_keep_39 : decode cX10_keep 39 = .ok (.getfield 25, 3) := by decide +kernel
theorem dX10_keep_42 : decode cX10_keep 42 = .ok (.iload_n 1, 1) := by decide +kernel
theorem dX10_keep_43 : decode cX10_keep 43 = .ok (.iconst 1, 1) := by decide +kernel
theorem dX10_keep_44 : decode cX10_keep 44 = .ok (.bastore, 1) := by decide +kernel
theorem dX10_keep_45 : decode cX10_keep 45 = .ok (.iconst 0, 1) := by decide +kernel
theorem dX10_keep_46 : decode cX10_keep 46 = .ok (.istore_n 2, 1) := by decide +kernel
theorem dX10_keep_47 : decode cX10_keep 47 = .ok (.iconst 0, 1) := by decide +kernel
theorem dX10_keep_48 : decode cX10_keep 48 = .ok (.istore_n 3, 1) := by decide +kernel
theorem dX10_keep_49 : decode cX10_keep 49 = .ok (.iload_n 3, 1) := by decide +kernel
theorem dX10_keep_50 : decode cX10_keep 50 = .ok (.iconst 2, 1) := by decide +kernel
theorem dX10_keep_51 : decode cX10_keep 51 = .ok (.if_icmp .ge 26, 3) := by decide +kernel
theorem dX10_keep_54 : decode cX10_keep 54 = .ok (.iload_n 2, 1) := by decide +kernel
theorem dX10_keep_55 : decode cX10_keep 55 = .ok (.aload_n 0, 1) := by decide +kernel
theorem dX10_keep_56 : decode cX10_keep 56 = .ok (.getfield 25, 3) := by decide +kernel
theorem dX10_keep_59 : decode cX10_keep 59 = .ok (.iload_n 3, 1) := by decide +kernel
theorem dX10_keep_60 : decode cX10_keep 60 = .ok (.baload, 1) := by decide +kernel
theorem dX10_keep_61 : decode cX10_keep 61 = .ok (.ifCond .eq 7, 3) := by decide +kernel
theorem dX10_keep_64 : decode cX10_keep 64 = .ok (.iconst 1, 1) := by decide +kernel
theorem dX10_keep_65 : decode cX10_keep 65 = .ok (.goto 4, 3) := by decide +kernel
theorem dX10_keep_68 : decode cX10_keep 68 = .ok (.iconst 0, 1) := by decide +kernel
theorem dX10_keep_69 : decode cX10_keep 69 = .ok (.iadd, 1) := by decide +kernel
theorem dX10_keep_70 : decode cX10_keep 70 = .ok (.istore_n 2, 1) := by decide +kernel
theorem dX10_keep_71 : decode cX10_keep 71 = .ok (.iinc 3 1, 3) := by decide +kernel
theorem dX10_keep_74 : decode cX10_keep 74 = .ok (.goto (-25), 3) := by decide +kernel
theorem dX10_keep_77 : decode cX10_keep 77 = .ok (.iload_n 2, 1) := by decide +kernel
theorem dX10_keep_78 : decode cX10_keep 78 = .ok (.ireturn, 1) := by decide +kernel
set_option maxRecDepth 20000 in
theorem ggX10_restore_X10_isImage : GoodIn wsX10_restore wsX10_isImage := goodIn_r _ [10, 11, 12, 9, 13] (by decide +kernel) (by decide +kernel)
set_option maxRecDepth 20000 in
theorem gX10_restore_X10_isImage : GoodIn wsX10_restore (va_wsS RX10 203 yX10_isImage wsX10_isImage) := goodIn_app (goodIn_of _ (by decide +kernel)) ggX10_restore_X10_isImage
set_option maxRecDepth 20000 in
theorem ggX10_restore_X6_takeAll : GoodIn wsX10_restore wsX6_takeAll := goodIn_r _ [18, 19, 20, 21, 22, 23, 17, 24, 25, 26, 27, 28, 29, 30, 31, 32, 55, 56, 57, 58, 59, 60] (by decide +kernel) (by decide +kernel)
set_option maxRecDepth 20000 in
theorem gX10_restore_X6_takeAll : GoodIn wsX10_restore (wsV RX10 206 RX6 yX6_takeAll wsX6_takeAll) := goodIn_app (goodIn_of _ (by decide +kernel)) ggX10_restore_X6_takeAll
set_option maxRecDepth 20000 in
theorem ggX10_restore_X3_forget : GoodIn wsX10_restore wsX3_forget := goodIn_r _ [37, 38, 61, 62, 63] (by decide +kernel) (by decide +kernel)
set_option maxRecDepth 20000 in
theorem gX10_restore_X3_forget : GoodIn wsX10_restore (wsV RX10 111 RX3 yX3_forget wsX3_forget) := goodIn_app (goodIn_of _ (by decide +kernel)) ggX10_restore_X3_forget
theorem dX10_restore_0 : decode cX10_restore 0 = .ok (.iload_n 1, 1) := by decide +kernel
theorem dX10_restore_1 : decode cX10_restore 1 = .ok (.invokestatic 203, 3) := by decide +kernel
theorem dX10_restore_4 : decode cX10_restore 4 = .ok (.ifCond .ne 5, 3) := by decide +kernel
theorem dX10_restore_7 : decode cX10_restore 7 = .ok (.iconst (-1), 1) := by decide +kernel
theorem dX10_restore_8 : decode cX10_restore 8 = .ok (.ireturn, 1) := by decide +kernel
theorem dX10_restore_9 : decode cX10_restore 9 = .ok (.aload_n 0, 1) := by decide +kernel
theorem dX10_restore_10 : decode cX10_restore 10 = .ok (.getfield 25, 3) := by decide +kernel
theorem dX10_restore_13 : decode cX10_restore 13 = .ok (.iload_n 1, 1) := by decide +kernel
theorem dX10_restore_14 : decode cX10_restore 14 = .ok (.baload, 1) := by decide +kernel
theorem dX10_restore_15 : decode cX10_restore 15 = .ok (.ifCond .ne 6, 3) := by decide +kernel
theorem dX10_restore_18 : decode cX10_restore 18 = .ok (.bipush (-3), 2) := by decide +kernel
theorem dX10_restore_20 : decode cX10_restore 20 = .ok (.ireturn, 1) := by decide +kernel
theorem dX10_restore_21 : decode cX10_restore 21 = .ok (.aload_n 0, 1) := by decide +kernel
theorem dX10_restore_22 : decode cX10_restore 22 = .ok (.getfield 32, 3) := by decide +kernel
theorem dX10_restore_25 : decode cX10_restore 25 = .ok (.getfield 124, 3) := by decide +kernel
theorem dX10_restore_28 : decode cX10_restore 28 = .ok (.aload_n 0, 1) := by decide +kernel
theorem dX10_restore_29 : decode cX10_restore 29 = .ok (.getfield 20, 3) := by decide +kernel
theorem dX10_restore_32 : decode cX10_restore 32 = .ok (.iload_n 1, 1) := by decide +kernel
theorem dX10_restore_33 : decode cX10_restore 33 = .ok (.aaload, 1) := by decide +kernel
theorem dX10_restore_34 : decode cX10_restore 34 = .ok (.invokevirtual 206, 3) := by decide +kernel
theorem dX10_restore_37 : decode cX10_restore 37 = .ok (.aload_n 0, 1) := by decide +kernel
theorem dX10_restore_38 : decode cX10_restore 38 = .ok (.getfield 39, 3) := by decide +kernel
theorem dX10_restore_41 : decode cX10_restore 41 = .ok (.invokevirtual 111, 3) := by decide +kernel
theorem dX10_restore_44 : decode cX10_restore 44 = .ok (.aload_n 0, 1) := by decide +kernel
theorem dX10_restore_45 : decode cX10_restore 45 = .ok (.getfield 32, 3) := by decide +kernel
theorem dX10_restore_48 : decode cX10_restore 48 = .ok (.getfield 124, 3) := by decide +kernel
theorem dX10_restore_51 : decode cX10_restore 51 = .ok (.getfield 194, 3) := by decide +kernel
theorem dX10_restore_54 : decode cX10_restore 54 = .ok (.ireturn, 1) := by decide +kernel
set_option maxRecDepth 20000 in
theorem ggX10_act_X10_isSheet : GoodIn wsX10_act wsX10_isSheet := goodIn_r _ [15, 16, 17, 14, 18] (by decide +kernel) (by decide +kernel)
set_option maxRecDepth 20000 in
theorem gX10_act_X10_isSheet : GoodIn wsX10_act (va_wsS RX10 82 yX10_isSheet wsX10_isSheet) := goodIn_app (goodIn_of _ (by decide +kernel)) ggX10_act_X10_isSheet
set_option maxRecDepth 20000 in
theorem ggX10_act_X10_within : GoodIn wsX10_act wsX10_within := goodIn_r _ [18] (by decide +kernel) (by decide +kernel)
set_option maxRecDepth 20000 in
theorem gX10_act_X10_within : GoodIn wsX10_act (va_wsS RX10 154 yX10_within wsX10_within) := goodIn_app (goodIn_of _ (by decide +kernel)) ggX10_act_X10_within
set_option maxRecDepth 20000 in
theorem ggX10_act_X10_isLane : GoodIn wsX10_act wsX10_isLane := goodIn_r _ [21, 16, 17, 14, 18] (by decide +kernel) (by decide +kernel)
set_option maxRecDepth 20000 in
theorem gX10_act_X10_isLane : GoodIn wsX10_act (va_wsS RX10 86 yX10_isLane wsX10_isLane) := goodIn_app (goodIn_of _ (by decide +kernel)) ggX10_act_X10_isLane
set_option maxRecDepth 20000 in
theorem ggX10_act_X10_takeMoves : GoodIn wsX10_act wsX10_takeMoves := goodIn_r _ [25, 4, 26, 5, 27, 28, 29, 30, 31, 32, 33, 34, 35, 36, 37, 38, 39, 40, 41, 42, 43, 14, 44, 1, 45, 46, 47, 48, 49, 50, 51, 52, 53, 16, 17, 18, 54, 55, 56, 57, 58, 59, 60, 61, 119, 120, 121, 122, 123, 124, 125, 126, 127, 128, 129, 130, 131, 132, 133, 134, 146, 147, 148, 149, 150, 151, 152] (by decide +kernel) (by decide +kernel)
set_option maxRecDepth 20000 in
theorem gX10_act_X10_takeMoves : GoodIn wsX10_act (wsV RX10 176 RX10 yX10_takeMoves wsX10_takeMoves) := goodIn_app (goodIn_of _ (by decide +kernel)) ggX10_act_X10_takeMoves
set_option maxRecDepth 20000 in
theorem ggX10_act_X0_run : GoodIn wsX10_act wsX0_run := goodIn_r _ [66, 67, 68, 69, 70, 71, 72, 73, 74, 75, 76, 77, 78, 79, 80, 81, 82, 83, 84, 85, 86, 87, 48, 88, 50, 89, 90, 91, 92, 93, 94, 95, 96, 97, 14, 98, 99, 100, 101, 102, 103, 104, 105, 106, 107, 108, 141, 142, 143, 144, 145, 131, 132, 133, 134, 135, 136, 137, 138, 139, 140, 146, 147, 148] (by decide +kernel) (by decide +kernel)
set_option maxRecDepth 20000 in
theorem gX10_act_X0_run : GoodIn wsX10_act (wsV RX10 209 RX0 yX0_run wsX0_run) := goodIn_app (goodIn_of _ (by decide +kernel)) ggX10_act_X0_run
set_option maxRecDepth 20000 in
theorem ggX10_act_X1_has : GoodIn wsX10_act wsX1_has := goodIn_r _ [49, 50, 131, 132, 133, 134] (by decide +kernel) (by decide +kernel)
set_option maxRecDepth 20000 in
theorem gX10_act_X1_has : GoodIn wsX10_act (wsV RX10 118 RX1 yX1_has wsX1_has) := goodIn_app (goodIn_of _ (by decide +kernel)) ggX10_act_X1_has
set_option maxRecDepth 20000 in
theorem ggX10_act_X1_seenAt : GoodIn wsX10_act wsX1_seenAt := goodIn_r _ [112, 94, 113, 50, 114, 115, 116, 48, 117, 107, 118, 101, 83, 102, 131, 132, 133, 134, 135, 136, 137, 138, 139, 140] (by decide +kernel) (by decide +kernel)
set_option maxRecDepth 20000 in
theorem gX10_act_X1_seenAt : GoodIn wsX10_act (wsV RX10 147 RX1 yX1_seenAt wsX1_seenAt) := goodIn_app (goodIn_of _ (by decide +kernel)) ggX10_act_X1_seenAt
theorem dX10_act_0 : decode cX10_act 0 = .ok (.aload_n 0, 1) := by decide +kernel
theorem dX10_act_1 : decode cX10_act 1 = .ok (.iconst 0, 1) := by decide +kernel
theorem dX10_act_2 : decode cX10_act 2 = .ok (.putfield 78, 3) := by decide +kernel
theorem dX10_act_5 : decode cX10_act 5 = .ok (.iload_n 1, 1) := by decide +kernel
theorem dX10_act_6 : decode cX10_act 6 = .ok (.invokestatic 82, 3) := by decide +kernel
theorem dX10_act_9 : decode cX10_act 9 = .ok (.ifCond .ne 5, 3) := by decide +kernel
theorem dX10_act_12 : decode cX10_act 12 = .ok (.iconst (-1), 1) := by decide +kernel
theorem dX10_act_13 : decode cX10_act 13 = .ok (.ireturn, 1) := by decide +kernel
theorem dX10_act_14 : decode cX10_act 14 = .ok (.iload 5, 2) := by decide +kernel
theorem dX10_act_16 : decode cX10_act 16 = .ok (.bipush 10, 2) := by decide +kernel
theorem dX10_act_18 : decode cX10_act 18 = .ok (.bipush 17, 2) := by decide +kernel
theorem dX10_act_20 : decode cX10_act 20 = .ok (.invokestatic 154, 3) := by decide +kernel
theorem dX10_act_23 : decode cX10_act 23 = .ok (.istore 6, 2) := by decide +kernel
theorem dX10_act_25 : decode cX10_act 25 = .ok (.iload_n 2, 1) := by decide +kernel
theorem dX10_act_26 : decode cX10_act 26 = .ok (.invokestatic 86, 3) := by decide +kernel
theorem dX10_act_29 : decode cX10_act 29 = .ok (.ifCond .eq 29, 3) := by decide +kernel
theorem dX10_act_32 : decode cX10_act 32 = .ok (.iload 4, 2) := by decide +kernel
theorem dX10_act_34 : decode cX10_act 34 = .ok (.iconst 0, 1) := by decide +kernel
theorem dX10_act_35 : decode cX10_act 35 = .ok (.bipush 20, 2) := by decide +kernel
theorem dX10_act_37 : decode cX10_act 37 = .ok (.invokestatic 154, 3) := by decide +kernel
theorem dX10_act_40 : decode cX10_act 40 = .ok (.ifCond .eq 18, 3) := by decide +kernel
theorem dX10_act_43 : decode cX10_act 43 = .ok (.iload 6, 2) := by decide +kernel
theorem dX10_act_45 : decode cX10_act 45 = .ok (.ifCond .ne 16, 3) := by decide +kernel
theorem dX10_act_48 : decode cX10_act 48 = .ok (.iload 5, 2) := by decide +kernel
theorem dX10_act_50 : decode cX10_act 50 = .ok (.iconst 0, 1) := by decide +kernel
theorem dX10_act_51 : decode cX10_act 51 = .ok (.iconst 3, 1) := by decide +kernel
theorem dX10_act_52 : decode cX10_act 52 = .ok (.invokestatic 154, 3) := by decide +kernel
theorem dX10_act_55 : decode cX10_act 55 = .ok (.ifCond .ne 6, 3) := by decide +kernel
theorem dX10_act_58 : decode cX10_act 58 = .ok (.bipush (-2), 2) := by decide +kernel
theorem dX10_act_60 : decode cX10_act 60 = .ok (.ireturn, 1) := by decide +kernel
theorem dX10_act_61 : decode cX10_act 61 = .ok (.aload_n 0, 1) := by decide +kernel
theorem dX10_act_62 : decode cX10_act 62 = .ok (.aload_n 0, 1) := by decide +kernel
theorem dX10_act_63 : decode cX10_act 63 = .ok (.getfield 13, 3) := by decide +kernel
theorem dX10_act_66 : decode cX10_act 66 = .ok (.iload_n 1, 1) := by decide +kernel
theorem dX10_act_67 : decode cX10_act 67 = .ok (.aaload, 1) := by decide +kernel
theorem dX10_act_68 : decode cX10_act 68 = .ok (.iload_n 2, 1) := by decide +kernel
theorem dX10_act_69 : decode cX10_act 69 = .ok (.iload_n 3, 1) := by decide +kernel
theorem dX10_act_70 : decode cX10_act 70 = .ok (.iload 4, 2) := by decide +kernel
theorem dX10_act_72 : decode cX10_act 72 = .ok (.invokevirtual 176, 3) := by decide +kernel
theorem dX10_act_75 : decode cX10_act 75 = .ok (.istore 7, 2) := by decide +kernel
theorem dX10_act_77 : decode cX10_act 77 = .ok (.iload 7, 2) := by decide +kernel
theorem dX10_act_79 : decode cX10_act 79 = .ok (.ifCond .eq 6, 3) := by decide +kernel
theorem dX10_act_82 : decode cX10_act 82 = .ok (.iload 7, 2) := by decide +kernel
theorem dX10_act_84 : decode cX10_act 84 = .ok (.ireturn, 1) := by decide +kernel
theorem dX10_act_85 : decode cX10_act 85 = .ok (.aload_n 0, 1) := by decide +kernel
theorem dX10_act_86 : decode cX10_act 86 = .ok (.getfield 60, 3) := by decide +kernel
theorem dX10_act_89 : decode cX10_act 89 = .ok (.aload_n 0, 1) := by decide +kernel
theorem dX10_act_90 : decode cX10_act 90 = .ok (.getfield 32, 3) := by decide +kernel
theorem dX10_act_93 : decode cX10_act 93 = .ok (.aload_n 0, 1) := by decide +kernel
theorem dX10_act_94 : decode cX10_act 94 = .ok (.getfield 53, 3) := by decide +kernel
theorem dX10_act_97 : decode cX10_act 97 = .ok (.aload_n 0, 1) := by decide +kernel
theorem dX10_act_98 : decode cX10_act 98 = .ok (.getfield 32, 3) := by decide +kernel
theorem dX10_act_101 : decode cX10_act 101 = .ok (.getfield 124, 3) := by decide +kernel
theorem dX10_act_104 : decode cX10_act 104 = .ok (.getfield 158, 3) := by decide +kernel
theorem dX10_act_107 : decode cX10_act 107 = .ok (.invokevirtual 209, 3) := by decide +kernel
theorem dX10_act_110 : decode cX10_act 110 = .ok (.iload 5, 2) := by decide +kernel
theorem dX10_act_112 : decode cX10_act 112 = .ok (.iconst 1, 1) := by decide +kernel
theorem dX10_act_113 : decode cX10_act 113 = .ok (.if_icmp .ne 11, 3) := by decide +kernel
theorem dX10_act_116 : decode cX10_act 116 = .ok (.aload_n 0, 1) := by decide +kernel
theorem dX10_act_117 : decode cX10_act 117 = .ok (.getfield 60, 3) := by decide +kernel
theorem dX10_act_120 : decode cX10_act 120 = .ok (.getfield 213, 3) := by decide +kernel
theorem dX10_act_123 : decode cX10_act 123 = .ok (.ireturn, 1) := by decide +kernel
theorem dX10_act_124 : decode cX10_act 124 = .ok (.aload_n 0, 1) := by decide +kernel
theorem dX10_act_125 : decode cX10_act 125 = .ok (.getfield 60, 3) := by decide +kernel
theorem dX10_act_128 : decode cX10_act 128 = .ok (.getfield 213, 3) := by decide +kernel
theorem dX10_act_131 : decode cX10_act 131 = .ok (.bipush (-9), 2) := by decide +kernel
theorem dX10_act_133 : decode cX10_act 133 = .ok (.if_icmp .eq 14, 3) := by decide +kernel
theorem dX10_act_136 : decode cX10_act 136 = .ok (.bipush (-100), 2) := by decide +kernel
theorem dX10_act_138 : decode cX10_act 138 = .ok (.aload_n 0, 1) := by decide +kernel
theorem dX10_act_139 : decode cX10_act 139 = .ok (.getfield 60, 3) := by decide +kernel
theorem dX10_act_142 : decode cX10_act 142 = .ok (.getfield 213, 3) := by decide +kernel
theorem dX10_act_145 : decode cX10_act 145 = .ok (.isub, 1) := by decide +kernel
theorem dX10_act_146 : decode cX10_act 146 = .ok (.ireturn, 1) := by decide +kernel
theorem dX10_act_147 : decode cX10_act 147 = .ok (.iload 6, 2) := by decide +kernel
theorem dX10_act_149 : decode cX10_act 149 = .ok (.ifCond .eq 37, 3) := by decide +kernel
theorem dX10_act_152 : decode cX10_act 152 = .ok (.aload_n 0, 1) := by decide +kernel
theorem dX10_act_153 : decode cX10_act 153 = .ok (.getfield 32, 3) := by decide +kernel
theorem dX10_act_156 : decode cX10_act 156 = .ok (.iload 5, 2) := by decide +kernel
theorem dX10_act_158 : decode cX10_act 158 = .ok (.bipush 10, 2) := by decide +kernel
theorem dX10_act_160 : decode cX10_act 160 = .ok (.isub, 1) := by decide +kernel
theorem dX10_act_161 : decode cX10_act 161 = .ok (.invokevirtual 118, 3) := by decide +kernel
theorem dX10_act_164 : decode cX10_act 164 = .ok (.ifCond .eq 19, 3) := by decide +kernel
theorem dX10_act_167 : decode cX10_act 167 = .ok (.aload_n 0, 1) := by decide +kernel
theorem dX10_act_168 : decode cX10_act 168 = .ok (.getfield 60, 3) := by decide +kernel
theorem dX10_act_171 : decode cX10_act 171 = .ok (.getfield 216, 3) := by decide +kernel
theorem dX10_act_174 : decode cX10_act 174 = .ok (.iload 5, 2) := by decide +kernel
theorem dX10_act_176 : decode cX10_act 176 = .ok (.bipush 10, 2) := by decide +kernel
theorem dX10_act_178 : decode cX10_act 178 = .ok (.isub, 1) := by decide +kernel
theorem dX10_act_179 : decode cX10_act 179 = .ok (.iaload, 1) := by decide +kernel
theorem dX10_act_180 : decode cX10_act 180 = .ok (.goto 5, 3) := by decide +kernel
theorem dX10_act_183 : decode cX10_act 183 = .ok (.bipush (-9), 2) := by decide +kernel
theorem dX10_act_185 : decode cX10_act 185 = .ok (.ireturn, 1) := by decide +kernel
theorem dX10_act_186 : decode cX10_act 186 = .ok (.iload 5, 2) := by decide +kernel
theorem dX10_act_188 : decode cX10_act 188 = .ok (.ifCond .ne 13, 3) := by decide +kernel
theorem dX10_act_191 : decode cX10_act 191 = .ok (.aload_n 0, 1) := by decide +kernel
theorem dX10_act_192 : decode cX10_act 192 = .ok (.getfield 60, 3) := by decide +kernel
theorem dX10_act_195 : decode cX10_act 195 = .ok (.getfield 219, 3) := by decide +kernel
theorem dX10_act_198 : decode cX10_act 198 = .ok (.goto 33, 3) := by decide +kernel
theorem dX10_act_201 : decode cX10_act 201 = .ok (.iload 5, 2) := by decide +kernel
theorem dX10_act_203 : decode cX10_act 203 = .ok (.iconst 2, 1) := by decide +kernel
theorem dX10_act_204 : decode cX10_act 204 = .ok (.if_icmp .ne 13, 3) := by decide +kernel
theorem dX10_act_207 : decode cX10_act 207 = .ok (.aload_n 0, 1) := by decide +kernel
theorem dX10_act_208 : decode cX10_act 208 = .ok (.getfield 60, 3) := by decide +kernel
theorem dX10_act_211 : decode cX10_act 211 = .ok (.getfield 222, 3) := by decide +kernel
theorem dX10_act_214 : decode cX10_act 214 = .ok (.goto 17, 3) := by decide +kernel
theorem dX10_act_217 : decode cX10_act 217 = .ok (.aload_n 0, 1) := by decide +kernel
theorem dX10_act_218 : decode cX10_act 218 = .ok (.getfield 32, 3) := by decide +kernel
theorem dX10_act_221 : decode cX10_act 221 = .ok (.aload_n 0, 1) := by decide +kernel
theorem dX10_act_222 : decode cX10_act 222 = .ok (.getfield 60, 3) := by decide +kernel
theorem dX10_act_225 : decode cX10_act 225 = .ok (.getfield 216, 3) := by decide +kernel
theorem dX10_act_228 : decode cX10_act 228 = .ok (.invokevirtual 147, 3) := by decide +kernel
theorem dX10_act_231 : decode cX10_act 231 = .ok (.ireturn, 1) := by decide +kernel
set_option maxRecDepth 20000 in
theorem ggX10_picture_X10_within : GoodIn wsX10_picture wsX10_within := goodIn_r _ [10] (by decide +kernel) (by decide +kernel)
set_option maxRecDepth 20000 in
theorem gX10_picture_X10_within : GoodIn wsX10_picture (va_wsS RX10 154 yX10_within wsX10_within) := goodIn_app (goodIn_of _ (by decide +kernel)) ggX10_picture_X10_within
set_option maxRecDepth 20000 in
theorem ggX10_picture_X4_find : GoodIn wsX10_picture wsX4_find := goodIn_r _ [15, 16, 17, 18, 19, 20, 21, 22, 23, 24, 25, 14, 26, 27, 28, 29, 30, 31, 32, 33, 34, 35, 36, 37, 38, 39, 40, 41, 42, 43, 44, 9, 45, 46, 47, 48, 49, 50, 51, 52, 53, 54, 55, 56, 57, 58, 59, 60, 61, 62, 63, 64, 65, 66, 67, 68, 69, 70, 71, 88, 89, 90, 91, 92, 93, 84, 85, 86, 87, 94, 95, 96, 97, 98, 99] (by decide +kernel) (by decide +kernel)
set_option maxRecDepth 20000 in
theorem gX10_picture_X4_find : GoodIn wsX10_picture (wsV RX10 225 RX4 yX4_find wsX4_find) := goodIn_app (goodIn_of _ (by decide +kernel)) ggX10_picture_X4_find
theorem dX10_picture_0 : decode cX10_picture 0 = .ok (.aload_n 0, 1) := by decide +kernel
theorem dX10_picture_1 : decode cX10_picture 1 = .ok (.getfield 32, 3) := by decide +kernel
theorem dX10_picture_4 : decode cX10_picture 4 = .ok (.getfield 117, 3) := by decide +kernel
theorem dX10_picture_7 : decode cX10_picture 7 = .ok (.ifCond .ne 6, 3) := by decide +kernel
theorem dX10_picture_10 : decode cX10_picture 10 = .ok (.bipush (-3), 2) := by decide +kernel
theorem dX10_picture_12 : decode cX10_picture 12 = .ok (.ireturn, 1) := by decide +kernel
theorem dX10_picture_13 : decode cX10_picture 13 = .ok (.iload_n 1, 1) := by decide +kernel
theorem dX10_picture_14 : decode cX10_picture 14 = .ok (.iconst 0, 1) := by decide +kernel
theorem dX10_picture_15 : decode cX10_picture 15 = .ok (.iconst 1, 1) := by decide +kernel
theorem dX10_picture_16 : decode cX10_picture 16 = .ok (.aload_n 0, 1) := by decide +kernel
theorem dX10_picture_17 : decode cX10_picture 17 = .ok (.getfield 32, 3) := by decide +kernel
theorem dX10_picture_20 : decode cX10_picture 20 = .ok (.getfield 117, 3) := by decide +kernel
theorem dX10_picture_23 : decode cX10_picture 23 = .ok (.ishl, 1) := by decide +kernel
theorem dX10_picture_24 : decode cX10_picture 24 = .ok (.iconst 1, 1) := by decide +kernel
theorem dX10_picture_25 : decode cX10_picture 25 = .ok (.isub, 1) := by decide +kernel
theorem dX10_picture_26 : decode cX10_picture 26 = .ok (.invokestatic 154, 3) := by decide +kernel
theorem dX10_picture_29 : decode cX10_picture 29 = .ok (.ifCond .eq 14, 3) := by decide +kernel
theorem dX10_picture_32 : decode cX10_picture 32 = .ok (.iload_n 2, 1) := by decide +kernel
theorem dX10_picture_33 : decode cX10_picture 33 = .ok (.bipush (-2), 2) := by decide +kernel
theorem dX10_picture_35 : decode cX10_picture 35 = .ok (.bipush 7, 2) := by decide +kernel
theorem dX10_picture_37 : decode cX10_picture 37 = .ok (.invokestatic 154, 3) := by decide +kernel
theorem dX10_picture_40 : decode cX10_picture 40 = .ok (.ifCond .ne 6, 3) := by decide +kernel
theorem dX10_picture_43 : decode cX10_picture 43 = .ok (.bipush (-2), 2) := by decide +kernel
theorem dX10_picture_45 : decode cX10_picture 45 = .ok (.ireturn, 1) := by decide +kernel
theorem dX10_picture_46 : decode cX10_picture 46 = .ok (.iload_n 2, 1) := by decide +kernel
theorem dX10_picture_47 : decode cX10_picture 47 = .ok (.aload_n 0, 1) := by decide +kernel
theorem dX10_picture_48 : decode cX10_picture 48 = .ok (.getfield 32, 3) := by decide +kernel
theorem dX10_picture_51 : decode cX10_picture 51 = .ok (.getfield 117, 3) := by decide +kernel
theorem dX10_picture_54 : decode cX10_picture 54 = .ok (.if_icmp .ge 18, 3) := by decide +kernel
theorem dX10_picture_57 : decode cX10_picture 57 = .ok (.aload_n 0, 1) := by decide +kernel
theorem dX10_picture_58 : decode cX10_picture 58 = .ok (.getfield 67, 3) := by decide +kernel
theorem dX10_picture_61 : decode cX10_picture 61 = .ok (.aload_n 0, 1) := by decide +kernel
theorem dX10_picture_62 : decode cX10_picture 62 = .ok (.getfield 32, 3) := by decide +kernel
theorem dX10_picture_65 : decode cX10_picture 65 = .ok (.iload_n 1, 1) := by decide +kernel
theorem dX10_picture_66 : decode cX10_picture 66 = .ok (.invokevirtual 225, 3) := by decide +kernel
theorem dX10_picture_69 : decode cX10_picture 69 = .ok (.ifCond .ne 6, 3) := by decide +kernel
theorem dX10_picture_72 : decode cX10_picture 72 = .ok (.bipush (-9), 2) := by decide +kernel
theorem dX10_picture_74 : decode cX10_picture 74 = .ok (.ireturn, 1) := by decide +kernel
theorem dX10_picture_75 : decode cX10_picture 75 = .ok (.iload_n 2, 1) := by decide +kernel
theorem dX10_picture_76 : decode cX10_picture 76 = .ok (.bipush (-2), 2) := by decide +kernel
theorem dX10_picture_78 : decode cX10_picture 78 = .ok (.if_icmp .ne 13, 3) := by decide +kernel
theorem dX10_picture_81 : decode cX10_picture 81 = .ok (.aload_n 0, 1) := by decide +kernel
theorem dX10_picture_82 : decode cX10_picture 82 = .ok (.getfield 67, 3) := by decide +kernel
theorem dX10_picture_85 : decode cX10_picture 85 = .ok (.getfield 229, 3) := by decide +kernel
theorem dX10_picture_88 : decode cX10_picture 88 = .ok (.goto 27, 3) := by decide +kernel
theorem dX10_picture_91 : decode cX10_picture 91 = .ok (.iload_n 2, 1) := by decide +kernel
theorem dX10_picture_92 : decode cX10_picture 92 = .ok (.iconst (-1), 1) := by decide +kernel
theorem dX10_picture_93 : decode cX10_picture 93 = .ok (.if_icmp .ne 13, 3) := by decide +kernel
theorem dX10_picture_96 : decode cX10_picture 96 = .ok (.aload_n 0, 1) := by decide +kernel
theorem dX10_picture_97 : decode cX10_picture 97 = .ok (.getfield 67, 3) := by decide +kernel
theorem dX10_picture_100 : decode cX10_picture 100 = .ok (.getfield 232, 3) := by decide +kernel
theorem dX10_picture_103 : decode cX10_picture 103 = .ok (.goto 12, 3) := by decide +kernel
theorem dX10_picture_106 : decode cX10_picture 106 = .ok (.aload_n 0, 1) := by decide +kernel
theorem dX10_picture_107 : decode cX10_picture 107 = .ok (.getfield 67, 3) := by decide +kernel
theorem dX10_picture_110 : decode cX10_picture 110 = .ok (.getfield 233, 3) := by decide +kernel
theorem dX10_picture_113 : decode cX10_picture 113 = .ok (.iload_n 2, 1) := by decide +kernel
theorem dX10_picture_114 : decode cX10_picture 114 = .ok (.iaload, 1) := by decide +kernel
theorem dX10_picture_115 : decode cX10_picture 115 = .ok (.ireturn, 1) := by decide +kernel
set_option maxRecDepth 20000 in
theorem ggX10_split_X10_isSheet : GoodIn wsX10_split wsX10_isSheet := goodIn_r _ [11, 12, 13, 10, 14] (by decide +kernel) (by decide +kernel)
set_option maxRecDepth 20000 in
theorem gX10_split_X10_isSheet : GoodIn wsX10_split (va_wsS RX10 82 yX10_isSheet wsX10_isSheet) := goodIn_app (goodIn_of _ (by decide +kernel)) ggX10_split_X10_isSheet
set_option maxRecDepth 20000 in
theorem ggX10_split_X10_isLane : GoodIn wsX10_split wsX10_isLane := goodIn_r _ [17, 12, 13, 10, 14] (by decide +kernel) (by decide +kernel)
set_option maxRecDepth 20000 in
theorem gX10_split_X10_isLane : GoodIn wsX10_split (va_wsS RX10 86 yX10_isLane wsX10_isLane) := goodIn_app (goodIn_of _ (by decide +kernel)) ggX10_split_X10_isLane
set_option maxRecDepth 20000 in
theorem ggX10_split_X10_within : GoodIn wsX10_split wsX10_within := goodIn_r _ [14] (by decide +kernel) (by decide +kernel)
set_option maxRecDepth 20000 in
theorem gX10_split_X10_within : GoodIn wsX10_split (va_wsS RX10 154 yX10_within wsX10_within) := goodIn_app (goodIn_of _ (by decide +kernel)) ggX10_split_X10_within
set_option maxRecDepth 20000 in
theorem ggX10_split_X10_takeMoves : GoodIn wsX10_split wsX10_takeMoves := goodIn_r _ [21, 5, 22, 3, 23, 24, 25, 26, 27, 28, 29, 30, 31, 32, 33, 34, 35, 36, 37, 38, 39, 10, 40, 1, 41, 42, 43, 44, 45, 46, 47, 48, 49, 12, 13, 14, 50, 51, 52, 53, 54, 55, 56, 57, 137, 138, 139, 140, 141, 142, 143, 144, 145, 146, 147, 148, 156, 157, 158, 159, 160, 161, 162, 163, 164, 165, 166] (by decide +kernel) (by decide +kernel)
set_option maxRecDepth 20000 in
theorem gX10_split_X10_takeMoves : GoodIn wsX10_split (wsV RX10 176 RX10 yX10_takeMoves wsX10_takeMoves) := goodIn_app (goodIn_of _ (by decide +kernel)) ggX10_split_X10_takeMoves
set_option maxRecDepth 20000 in
theorem ggX10_split_X2_repeatBatten : GoodIn wsX10_split wsX2_repeatBatten := goodIn_r _ [61, 55, 56, 160, 161, 162] (by decide +kernel) (by decide +kernel)
set_option maxRecDepth 20000 in
theorem gX10_split_X2_repeatBatten : GoodIn wsX10_split (wsV RX10 180 RX2 yX2_repeatBatten wsX2_repeatBatten) := goodIn_app (goodIn_of _ (by decide +kernel)) ggX10_split_X2_repeatBatten
set_option maxRecDepth 20000 in
theorem ggX10_split_X8_find : GoodIn wsX10_split wsX8_find := goodIn_r _ [66, 67, 68, 69, 70, 71, 72, 73, 65, 74, 75, 76, 77, 78, 79, 80, 81, 82, 83, 84, 85, 86, 87, 88, 89, 90, 91, 44, 92, 46, 93, 94, 95, 96, 97, 98, 99, 100, 101, 10, 102, 103, 104, 105, 106, 107, 108, 109, 110, 111, 112, 113, 114, 115, 116, 117, 118, 119, 120, 121, 122, 123, 124, 125, 126, 127, 128, 129, 130, 131, 132, 133, 134, 135, 136, 160, 161, 162, 149, 150, 151, 152, 153, 154, 155, 156, 157, 158, 159, 167, 168, 169, 170, 171, 172] (by decide +kernel) (by decide +kernel)
set_option maxRecDepth 20000 in
theorem gX10_split_X8_find : GoodIn wsX10_split (wsV RX10 234 RX8 yX8_find wsX8_find) := goodIn_app (goodIn_of _ (by decide +kernel)) ggX10_split_X8_find
theorem dX10_split_0 : decode cX10_split 0 = .ok (.aload_n 0, 1) := by decide +kernel
theorem dX10_split_1 : decode cX10_split 1 = .ok (.iconst 0, 1) := by decide +kernel
theorem dX10_split_2 : decode cX10_split 2 = .ok (.putfield 78, 3) := by decide +kernel
theorem dX10_split_5 : decode cX10_split 5 = .ok (.iload_n 1, 1) := by decide +kernel
theorem dX10_split_6 : decode cX10_split 6 = .ok (.invokestatic 82, 3) := by decide +kernel
theorem dX10_split_9 : decode cX10_split 9 = .ok (.ifCond .ne 5, 3) := by decide +kernel
theorem dX10_split_12 : decode cX10_split 12 = .ok (.iconst (-1), 1) := by decide +kernel
theorem dX10_split_13 : decode cX10_split 13 = .ok (.ireturn, 1) := by decide +kernel
theorem dX10_split_14 : decode cX10_split 14 = .ok (.iload_n 2, 1) := by decide +kernel
theorem dX10_split_15 : decode cX10_split 15 = .ok (.invokestatic 86, 3) := by decide +kernel
theorem dX10_split_18 : decode cX10_split 18 = .ok (.ifCond .eq 23, 3) := by decide +kernel
theorem dX10_split_21 : decode cX10_split 21 = .ok (.iload 4, 2) := by decide +kernel
theorem dX10_split_23 : decode cX10_split 23 = .ok (.iconst 0, 1) := by decide +kernel
theorem dX10_split_24 : decode cX10_split 24 = .ok (.iconst 5, 1) := by decide +kernel
theorem dX10_split_25 : decode cX10_split 25 = .ok (.invokestatic 154, 3) := by decide +kernel
theorem dX10_split_28 : decode cX10_split 28 = .ok (.ifCond .eq 13, 3) := by decide +kernel
theorem dX10_split_31 : decode cX10_split 31 = .ok (.iload 5, 2) := by decide +kernel
theorem dX10_split_33 : decode cX10_split 33 = .ok (.iconst (-1), 1) := by decide +kernel
theorem dX10_split_34 : decode cX10_split 34 = .ok (.iconst 4, 1) := by decide +kernel
theorem dX10_split_35 : decode cX10_split 35 = .ok (.invokestatic 154, 3) := by decide +kernel
theorem dX10_split_38 : decode cX10_split 38 = .ok (.ifCond .ne 6, 3) := by decide +kernel
theorem dX10_split_41 : decode cX10_split 41 = .ok (.bipush (-2), 2) := by decide +kernel
theorem dX10_split_43 : decode cX10_split 43 = .ok (.ireturn, 1) := by decide +kernel
theorem dX10_split_44 : decode cX10_split 44 = .ok (.aload_n 0, 1) := by decide +kernel
theorem dX10_split_45 : decode cX10_split 45 = .ok (.aload_n 0, 1) := by decide +kernel
theorem dX10_split_46 : decode cX10_split 46 = .ok (.getfield 13, 3) := by decide +kernel
theorem dX10_split_49 : decode cX10_split 49 = .ok (.iload_n 1, 1) := by decide +kernel
theorem dX10_split_50 : decode cX10_split 50 = .ok (.aaload, 1) := by decide +kernel
theorem dX10_split_51 : decode cX10_split 51 = .ok (.iload_n 2, 1) := by decide +kernel
theorem dX10_split_52 : decode cX10_split 52 = .ok (.iload_n 3, 1) := by decide +kernel
theorem dX10_split_53 : decode cX10_split 53 = .ok (.iload 4, 2) := by decide +kernel
theorem dX10_split_55 : decode cX10_split 55 = .ok (.invokevirtual 176, 3) := by decide +kernel
theorem dX10_split_58 : decode cX10_split 58 = .ok (.istore 6, 2) := by decide +kernel
theorem dX10_split_60 : decode cX10_split 60 = .ok (.iload 6, 2) := by decide +kernel
theorem dX10_split_62 : decode cX10_split 62 = .ok (.ifCond .eq 6, 3) := by decide +kernel
theorem dX10_split_65 : decode cX10_split 65 = .ok (.iload 6, 2) := by decide +kernel
theorem dX10_split_67 : decode cX10_split 67 = .ok (.ireturn, 1) := by decide +kernel
theorem dX10_split_68 : decode cX10_split 68 = .ok (.aload_n 0, 1) := by decide +kernel
theorem dX10_split_69 : decode cX10_split 69 = .ok (.getfield 53, 3) := by decide +kernel
theorem dX10_split_72 : decode cX10_split 72 = .ok (.invokevirtual 180, 3) := by decide +kernel
theorem dX10_split_75 : decode cX10_split 75 = .ok (.ifCond .eq 6, 3) := by decide +kernel
theorem dX10_split_78 : decode cX10_split 78 = .ok (.bipush (-3), 2) := by decide +kernel
theorem dX10_split_80 : decode cX10_split 80 = .ok (.ireturn, 1) := by decide +kernel
theorem dX10_split_81 : decode cX10_split 81 = .ok (.iload 5, 2) := by decide +kernel
theorem dX10_split_83 : decode cX10_split 83 = .ok (.iload 4, 2) := by decide +kernel
theorem dX10_split_85 : decode cX10_split 85 = .ok (.if_icmp .ge 21, 3) := by decide +kernel
theorem dX10_split_88 : decode cX10_split 88 = .ok (.aload_n 0, 1) := by decide +kernel
theorem dX10_split_89 : decode cX10_split 89 = .ok (.getfield 74, 3) := by decide +kernel
theorem dX10_split_92 : decode cX10_split 92 = .ok (.aload_n 0, 1) := by decide +kernel
theorem dX10_split_93 : decode cX10_split 93 = .ok (.getfield 32, 3) := by decide +kernel
theorem dX10_split_96 : decode cX10_split 96 = .ok (.aload_n 0, 1) := by decide +kernel
theorem dX10_split_97 : decode cX10_split 97 = .ok (.getfield 53, 3) := by decide +kernel
theorem dX10_split_100 : decode cX10_split 100 = .ok (.invokevirtual 234, 3) := by decide +kernel
theorem dX10_split_103 : decode cX10_split 103 = .ok (.ifCond .ne 6, 3) := by decide +kernel
theorem dX10_split_106 : decode cX10_split 106 = .ok (.bipush (-9), 2) := by decide +kernel
theorem dX10_split_108 : decode cX10_split 108 = .ok (.ireturn, 1) := by decide +kernel
theorem dX10_split_109 : decode cX10_split 109 = .ok (.iload 5, 2) := by decide +kernel
theorem dX10_split_111 : decode cX10_split 111 = .ok (.iconst (-1), 1) := by decide +kernel
theorem dX10_split_112 : decode cX10_split 112 = .ok (.if_icmp .ne 13, 3) := by decide +kernel
theorem dX10_split_115 : decode cX10_split 115 = .ok (.aload_n 0, 1) := by decide +kernel
theorem dX10_split_116 : decode cX10_split 116 = .ok (.getfield 74, 3) := by decide +kernel
theorem dX10_split_119 : decode cX10_split 119 = .ok (.getfield 237, 3) := by decide +kernel
theorem dX10_split_122 : decode cX10_split 122 = .ok (.goto 13, 3) := by decide +kernel
theorem dX10_split_125 : decode cX10_split 125 = .ok (.aload_n 0, 1) := by decide +kernel
theorem dX10_split_126 : decode cX10_split 126 = .ok (.getfield 74, 3) := by decide +kernel
theorem dX10_split_129 : decode cX10_split 129 = .ok (.getfield 240, 3) := by decide +kernel
theorem dX10_split_132 : decode cX10_split 132 = .ok (.iload 5, 2) := by decide +kernel
theorem dX10_split_134 : decode cX10_split 134 = .ok (.iaload, 1) := by decide +kernel
theorem dX10_split_135 : decode cX10_split 135 = .ok (.ireturn, 1) := by decide +kernel
set_option maxRecDepth 20000 in
theorem ggX10_crew_X10_isSheet : GoodIn wsX10_crew wsX10_isSheet := goodIn_r _ [10, 11, 12, 9, 13] (by decide +kernel) (by decide +kernel)
set_option maxRecDepth 20000 in
theorem gX10_crew_X10_isSheet : GoodIn wsX10_crew (va_wsS RX10 82 yX10_isSheet wsX10_isSheet) := goodIn_app (goodIn_of _ (by decide +kernel)) ggX10_crew_X10_isSheet
set_option maxRecDepth 20000 in
theorem ggX10_crew_X10_isLane : GoodIn wsX10_crew wsX10_isLane := goodIn_r _ [16, 11, 12, 9, 13] (by decide +kernel) (by decide +kernel)
set_option maxRecDepth 20000 in
theorem gX10_crew_X10_isLane : GoodIn wsX10_crew (va_wsS RX10 86 yX10_isLane wsX10_isLane) := goodIn_app (goodIn_of _ (by decide +kernel)) ggX10_crew_X10_isLane
set_option maxRecDepth 20000 in
theorem ggX10_crew_X10_within : GoodIn wsX10_crew wsX10_within := goodIn_r _ [13] (by decide +kernel) (by decide +kernel)
set_option maxRecDepth 20000 in
theorem gX10_crew_X10_within : GoodIn wsX10_crew (va_wsS RX10 154 yX10_within wsX10_within) := goodIn_app (goodIn_of _ (by decide +kernel)) ggX10_crew_X10_within
set_option maxRecDepth 20000 in
theorem ggX10_crew_X10_takeMoves : GoodIn wsX10_crew wsX10_takeMoves := goodIn_r _ [20, 4, 21, 5, 22, 23, 24, 25, 26, 27, 28, 29, 30, 31, 32, 33, 34, 35, 36, 37, 38, 9, 39, 1, 40, 41, 42, 43, 44, 45, 46, 47, 48, 11, 12, 13, 49, 50, 51, 52, 53, 54, 55, 56, 104, 105, 106, 107, 108, 109, 110, 111, 112, 113, 114, 115, 121, 122, 123, 124, 125, 126, 127, 128, 129, 130, 131] (by decide +kernel) (by decide +kernel)
set_option maxRecDepth 20000 in
theorem gX10_crew_X10_takeMoves : GoodIn wsX10_crew (wsV RX10 176 RX10 yX10_takeMoves wsX10_takeMoves) := goodIn_app (goodIn_of _ (by decide +kernel)) ggX10_crew_X10_takeMoves
set_option maxRecDepth 20000 in
theorem ggX10_crew_X0_run : GoodIn wsX10_crew wsX0_run := goodIn_r _ [61, 62, 63, 64, 65, 66, 67, 68, 69, 70, 71, 72, 73, 74, 75, 76, 77, 78, 79, 80, 81, 82, 43, 83, 45, 84, 85, 86, 87, 88, 89, 90, 91, 92, 9, 93, 94, 95, 96, 97, 98, 99, 100, 101, 102, 103, 116, 117, 118, 119, 120, 121, 122, 123, 124, 132, 133, 134, 135, 136, 137, 125, 126, 127] (by decide +kernel) (by decide +kernel)
set_option maxRecDepth 20000 in
theorem gX10_crew_X0_run : GoodIn wsX10_crew (wsV RX10 209 RX0 yX0_run wsX0_run) := goodIn_app (goodIn_of _ (by decide +kernel)) ggX10_crew_X0_run
theorem dX10_crew_0 : decode cX10_crew 0 = .ok (.aload_n 0, 1) := by decide +kernel
theorem dX10_crew_1 : decode cX10_crew 1 = .ok (.iconst 0, 1) := by decide +kernel
theorem dX10_crew_2 : decode cX10_crew 2 = .ok (.putfield 78, 3) := by decide +kernel
theorem dX10_crew_5 : decode cX10_crew 5 = .ok (.iload_n 1, 1) := by decide +kernel
theorem dX10_crew_6 : decode cX10_crew 6 = .ok (.invokestatic 82, 3) := by decide +kernel
theorem dX10_crew_9 : decode cX10_crew 9 = .ok (.ifCond .ne 5, 3) := by decide +kernel
theorem dX10_crew_12 : decode cX10_crew 12 = .ok (.iconst (-1), 1) := by decide +kernel
theorem dX10_crew_13 : decode cX10_crew 13 = .ok (.ireturn, 1) := by decide +kernel
theorem dX10_crew_14 : decode cX10_crew 14 = .ok (.iload_n 2, 1) := by decide +kernel
theorem dX10_crew_15 : decode cX10_crew 15 = .ok (.invokestatic 86, 3) := by decide +kernel
theorem dX10_crew_18 : decode cX10_crew 18 = .ok (.ifCond .eq 14, 3) := by decide +kernel
theorem dX10_crew_21 : decode cX10_crew 21 = .ok (.iload 4, 2) := by decide +kernel
theorem dX10_crew_23 : decode cX10_crew 23 = .ok (.iconst 0, 1) := by decide +kernel
theorem dX10_crew_24 : decode cX10_crew 24 = .ok (.bipush 20, 2) := by decide +kernel
theorem dX10_crew_26 : decode cX10_crew 26 = .ok (.invokestatic 154, 3) := by decide +kernel
theorem dX10_crew_29 : decode cX10_crew 29 = .ok (.ifCond .ne 6, 3) := by decide +kernel
theorem dX10_crew_32 : decode cX10_crew 32 = .ok (.bipush (-2), 2) := by decide +kernel
theorem dX10_crew_34 : decode cX10_crew 34 = .ok (.ireturn, 1) := by decide +kernel
theorem dX10_crew_35 : decode cX10_crew 35 = .ok (.aload_n 0, 1) := by decide +kernel
theorem dX10_crew_36 : decode cX10_crew 36 = .ok (.aload_n 0, 1) := by decide +kernel
theorem dX10_crew_37 : decode cX10_crew 37 = .ok (.getfield 13, 3) := by decide +kernel
theorem dX10_crew_40 : decode cX10_crew 40 = .ok (.iload_n 1, 1) := by decide +kernel
theorem dX10_crew_41 : decode cX10_crew 41 = .ok (.aaload, 1) := by decide +kernel
theorem dX10_crew_42 : decode cX10_crew 42 = .ok (.iload_n 2, 1) := by decide +kernel
theorem dX10_crew_43 : decode cX10_crew 43 = .ok (.iload_n 3, 1) := by decide +kernel
theorem dX10_crew_44 : decode cX10_crew 44 = .ok (.iload 4, 2) := by decide +kernel
theorem dX10_crew_46 : decode cX10_crew 46 = .ok (.invokevirtual 176, 3) := by decide +kernel
theorem dX10_crew_49 : decode cX10_crew 49 = .ok (.istore 5, 2) := by decide +kernel
theorem dX10_crew_51 : decode cX10_crew 51 = .ok (.iload 5, 2) := by decide +kernel
theorem dX10_crew_53 : decode cX10_crew 53 = .ok (.ifCond .eq 6, 3) := by decide +kernel
theorem dX10_crew_56 : decode cX10_crew 56 = .ok (.iload 5, 2) := by decide +kernel
theorem dX10_crew_58 : decode cX10_crew 58 = .ok (.ireturn, 1) := by decide +kernel
theorem dX10_crew_59 : decode cX10_crew 59 = .ok (.iconst 1, 1) := by decide +kernel
theorem dX10_crew_60 : decode cX10_crew 60 = .ok (.istore 6, 2) := by decide +kernel
theorem dX10_crew_62 : decode cX10_crew 62 = .ok (.iload 6, 2) := by decide +kernel
theorem dX10_crew_64 : decode cX10_crew 64 = .ok (.bipush 6, 2) := by decide +kernel
theorem dX10_crew_66 : decode cX10_crew 66 = .ok (.if_icmp .gt 41, 3) := by decide +kernel
theorem dX10_crew_69 : decode cX10_crew 69 = .ok (.aload_n 0, 1) := by decide +kernel
theorem dX10_crew_70 : decode cX10_crew 70 = .ok (.getfield 60, 3) := by decide +kernel
theorem dX10_crew_73 : decode cX10_crew 73 = .ok (.aload_n 0, 1) := by decide +kernel
theorem dX10_crew_74 : decode cX10_crew 74 = .ok (.getfield 32, 3) := by decide +kernel
theorem dX10_crew_77 : decode cX10_crew 77 = .ok (.aload_n 0, 1) := by decide +kernel
theorem dX10_crew_78 : decode cX10_crew 78 = .ok (.getfield 53, 3) := by decide +kernel
theorem dX10_crew_81 : decode cX10_crew 81 = .ok (.iload 6, 2) := by decide +kernel
theorem dX10_crew_83 : decode cX10_crew 83 = .ok (.invokevirtual 209, 3) := by decide +kernel
theorem dX10_crew_86 : decode cX10_crew 86 = .ok (.aload_n 0, 1) := by decide +kernel
theorem dX10_crew_87 : decode cX10_crew 87 = .ok (.getfield 60, 3) := by decide +kernel
theorem dX10_crew_90 : decode cX10_crew 90 = .ok (.getfield 213, 3) := by decide +kernel
theorem dX10_crew_93 : decode cX10_crew 93 = .ok (.bipush (-9), 2) := by decide +kernel
theorem dX10_crew_95 : decode cX10_crew 95 = .ok (.if_icmp .ne 6, 3) := by decide +kernel
theorem dX10_crew_98 : decode cX10_crew 98 = .ok (.iload 6, 2) := by decide +kernel
theorem dX10_crew_100 : decode cX10_crew 100 = .ok (.ireturn, 1) := by decide +kernel
theorem dX10_crew_101 : decode cX10_crew 101 = .ok (.iinc 6 1, 3) := by decide +kernel
theorem dX10_crew_104 : decode cX10_crew 104 = .ok (.goto (-42), 3) := by decide +kernel
theorem dX10_crew_107 : decode cX10_crew 107 = .ok (.bipush (-9), 2) := by decide +kernel
theorem dX10_crew_109 : decode cX10_crew 109 = .ok (.ireturn, 1) := by decide +kernel
set_option maxRecDepth 20000 in
theorem ggX10_balance_X1_has : GoodIn wsX10_balance wsX1_has := goodIn_r _ [6, 7, 49, 50, 51, 52] (by decide +kernel) (by decide +kernel)
set_option maxRecDepth 20000 in
theorem gX10_balance_X1_has : GoodIn wsX10_balance (wsV RX10 118 RX1 yX1_has wsX1_has) := goodIn_app (goodIn_of _ (by decide +kernel)) ggX10_balance_X1_has
set_option maxRecDepth 20000 in
theorem ggX10_balance_X10_isDigit : GoodIn wsX10_balance wsX10_isDigit := goodIn_r _ [11, 12, 13, 10, 14] (by decide +kernel) (by decide +kernel)
set_option maxRecDepth 20000 in
theorem gX10_balance_X10_isDigit : GoodIn wsX10_balance (va_wsS RX10 184 yX10_isDigit wsX10_isDigit) := goodIn_app (goodIn_of _ (by decide +kernel)) ggX10_balance_X10_isDigit
set_option maxRecDepth 20000 in
theorem ggX10_balance_X1_balanceOf : GoodIn wsX10_balance wsX1_balanceOf := goodIn_r _ [18, 19, 20, 21, 22, 23, 24, 25, 26, 27, 28, 29, 30, 31, 10, 32, 33, 34, 35, 36, 49, 50, 51, 52, 53, 54, 55, 56, 57, 58] (by decide +kernel) (by decide +kernel)
set_option maxRecDepth 20000 in
theorem gX10_balance_X1_balanceOf : GoodIn wsX10_balance (wsV RX10 243 RX1 yX1_balanceOf wsX1_balanceOf) := goodIn_app (goodIn_of _ (by decide +kernel)) ggX10_balance_X1_balanceOf
theorem dX10_balance_0 : decode cX10_balance 0 = .ok (.aload_n 0, 1) := by decide +kernel
theorem dX10_balance_1 : decode cX10_balance 1 = .ok (.getfield 32, 3) := by decide +kernel
theorem dX10_balance_4 : decode cX10_balance 4 = .ok (.iload_n 1, 1) := by decide +kernel
theorem dX10_balance_5 : decode cX10_balance 5 = .ok (.invokevirtual 118, 3) := by decide +kernel
theorem dX10_balance_8 : decode cX10_balance 8 = .ok (.ifCond .ne 5, 3) := by decide +kernel
theorem dX10_balance_11 : decode cX10_balance 11 = .ok (.iconst (-1), 1) := by decide +kernel
theorem dX10_balance_12 : decode cX10_balance 12 = .ok (.ireturn, 1) := by decide +kernel
theorem dX10_balance_13 : decode cX10_balance 13 = .ok (.iload_n 2, 1) := by decide +kernel
theorem dX10_balance_14 : decode cX10_balance 14 = .ok (.invokestatic 184, 3) := by decide +kernel
theorem dX10_balance_17 : decode cX10_balance 17 = .ok (.ifCond .eq 15, 3) := by decide +kernel
theorem dX10_balance_20 : decode cX10_balance 20 = .ok (.aload_n 0, 1) := by decide +kernel
theorem dX10_balance_21 : decode cX10_balance 21 = .ok (.getfield 32, 3) := by decide +kernel
theorem dX10_balance_24 : decode cX10_balance 24 = .ok (.iload_n 1, 1) := by decide +kernel
theorem dX10_balance_25 : decode cX10_balance 25 = .ok (.iload_n 2, 1) := by decide +kernel
theorem dX10_balance_26 : decode cX10_balance 26 = .ok (.invokevirtual 243, 3) := by decide +kernel
theorem dX10_balance_29 : decode cX10_balance 29 = .ok (.goto 5, 3) := by decide +kernel
theorem dX10_balance_32 : decode cX10_balance 32 = .ok (.bipush (-2), 2) := by decide +kernel
theorem dX10_balance_34 : decode cX10_balance 34 = .ok (.ireturn, 1) := by decide +kernel
set_option maxRecDepth 20000 in
theorem ggX10_reading_X1_has : GoodIn wsX10_reading wsX1_has := goodIn_r _ [8, 9, 39, 40, 41, 42] (by decide +kernel) (by decide +kernel)
set_option maxRecDepth 20000 in
theorem gX10_reading_X1_has : GoodIn wsX10_reading (wsV RX10 118 RX1 yX1_has wsX1_has) := goodIn_app (goodIn_of _ (by decide +kernel)) ggX10_reading_X1_has
set_option maxRecDepth 20000 in
theorem ggX10_reading_X10_within : GoodIn wsX10_reading wsX10_within := goodIn_r _ [13] (by decide +kernel) (by decide +kernel)
set_option maxRecDepth 20000 in
theorem gX10_reading_X10_within : GoodIn wsX10_reading (va_wsS RX10 154 yX10_within wsX10_within) := goodIn_app (goodIn_of _ (by decide +kernel)) ggX10_reading_X10_within
set_option maxRecDepth 20000 in
theorem ggX10_reading_X5_add : GoodIn wsX10_reading wsX5_add := goodIn_r _ [18, 19, 20, 21, 22, 35, 36, 37, 38] (by decide +kernel) (by decide +kernel)
set_option maxRecDepth 20000 in
theorem gX10_reading_X5_add : GoodIn wsX10_reading (wsV RX10 246 RX5 yX5_add wsX5_add) := goodIn_app (goodIn_of _ (by decide +kernel)) ggX10_reading_X5_add
theorem dX10_reading_0 : decode cX10_reading 0 = .ok (.aload_n 0, 1) := by decide +kernel
theorem dX10_reading_1 : decode cX10_reading 1 = .ok (.getfield 32, 3) := by decide +kernel
theorem dX10_reading_4 : decode cX10_reading 4 = .ok (.iload_n 1, 1) := by decide +kernel
theorem dX10_reading_5 : decode cX10_reading 5 = .ok (.invokevirtual 118, 3) := by decide +kernel
theorem dX10_reading_8 : decode cX10_reading 8 = .ok (.ifCond .ne 5, 3) := by decide +kernel
theorem dX10_reading_11 : decode cX10_reading 11 = .ok (.iconst (-1), 1) := by decide +kernel
theorem dX10_reading_12 : decode cX10_reading 12 = .ok (.ireturn, 1) := by decide +kernel
theorem dX10_reading_13 : decode cX10_reading 13 = .ok (.iload_n 2, 1) := by decide +kernel
theorem dX10_reading_14 : decode cX10_reading 14 = .ok (.iconst 1, 1) := by decide +kernel
theorem dX10_reading_15 : decode cX10_reading 15 = .ok (.bipush 9, 2) := by decide +kernel
theorem dX10_reading_17 : decode cX10_reading 17 = .ok (.invokestatic 154, 3) := by decide +kernel
theorem dX10_reading_20 : decode cX10_reading 20 = .ok (.ifCond .eq 13, 3) := by decide +kernel
theorem dX10_reading_23 : decode cX10_reading 23 = .ok (.iload_n 3, 1) := by decide +kernel
theorem dX10_reading_24 : decode cX10_reading 24 = .ok (.iconst 0, 1) := by decide +kernel
theorem dX10_reading_25 : decode cX10_reading 25 = .ok (.bipush 81, 2) := by decide +kernel
theorem dX10_reading_27 : decode cX10_reading 27 = .ok (.invokestatic 154, 3) := by decide +kernel
theorem dX10_reading_30 : decode cX10_reading 30 = .ok (.ifCond .ne 6, 3) := by decide +kernel
theorem dX10_reading_33 : decode cX10_reading 33 = .ok (.bipush (-2), 2) := by decide +kernel
theorem dX10_reading_35 : decode cX10_reading 35 = .ok (.ireturn, 1) := by decide +kernel
theorem dX10_reading_36 : decode cX10_reading 36 = .ok (.aload_n 0, 1) := by decide +kernel
theorem dX10_reading_37 : decode cX10_reading 37 = .ok (.getfield 46, 3) := by decide +kernel
theorem dX10_reading_40 : decode cX10_reading 40 = .ok (.getfield 114, 3) := by decide +kernel
theorem dX10_reading_43 : decode cX10_reading 43 = .ok (.bipush 8, 2) := by decide +kernel
theorem dX10_reading_45 : decode cX10_reading 45 = .ok (.if_icmp .lt 6, 3) := by decide +kernel
theorem dX10_reading_48 : decode cX10_reading 48 = .ok (.bipush (-4), 2) := by decide +kernel
theorem dX10_reading_50 : decode cX10_reading 50 = .ok (.ireturn, 1) := by decide +kernel
theorem dX10_reading_51 : decode cX10_reading 51 = .ok (.aload_n 0, 1) := by decide +kernel
theorem dX10_reading_52 : decode cX10_reading 52 = .ok (.getfield 46, 3) := by decide +kernel
theorem dX10_reading_55 : decode cX10_reading 55 = .ok (.getfield 114, 3) := by decide +kernel
theorem dX10_reading_58 : decode cX10_reading 58 = .ok (.istore 4, 2) := by decide +kernel
theorem dX10_reading_60 : decode cX10_reading 60 = .ok (.aload_n 0, 1) := by decide +kernel
theorem dX10_reading_61 : decode cX10_reading 61 = .ok (.getfield 46, 3) := by decide +kernel
theorem dX10_reading_64 : decode cX10_reading 64 = .ok (.iload_n 1, 1) := by decide +kernel
theorem dX10_reading_65 : decode cX10_reading 65 = .ok (.iload_n 2, 1) := by decide +kernel
theorem dX10_reading_66 : decode cX10_reading 66 = .ok (.iload_n 3, 1) := by decide +kernel
theorem dX10_reading_67 : decode cX10_reading 67 = .ok (.invokevirtual 246, 3) := by decide +kernel
theorem dX10_reading_70 : decode cX10_reading 70 = .ok (.iload 4, 2) := by decide +kernel
theorem dX10_reading_72 : decode cX10_reading 72 = .ok (.ireturn, 1) := by decide +kernel
set_option maxRecDepth 20000 in
theorem ggX10_back_X10_within : GoodIn wsX10_back wsX10_within := goodIn_r _ [6] (by decide +kernel) (by decide +kernel)
set_option maxRecDepth 20000 in
theorem gX10_back_X10_within : GoodIn wsX10_back (va_wsS RX10 154 yX10_within wsX10_within) := goodIn_app (goodIn_of _ (by decide +kernel)) ggX10_back_X10_within
theorem dX10_back_0 : decode cX10_back 0 = .ok (.iload_n 1, 1) := by decide +kernel
theorem dX10_back_1 : decode cX10_back 1 = .ok (.iconst 0, 1) := by decide +kernel
theorem dX10_back_2 : decode cX10_back 2 = .ok (.aload_n 0, 1) := by decide +kernel
theorem dX10_back_3 : decode cX10_back 3 = .ok (.getfield 46, 3) := by decide +kernel
theorem dX10_back_6 : decode cX10_back 6 = .ok (.getfield 114, 3) := by decide +kernel
theorem dX10_back_9 : decode cX10_back 9 = .ok (.invokestatic 154, 3) := by decide +kernel
theorem dX10_back_12 : decode cX10_back 12 = .ok (.ifCond .ne 6, 3) := by decide +kernel
theorem dX10_back_15 : decode cX10_back 15 = .ok (.bipush (-2), 2) := by decide +kernel
theorem dX10_back_17 : decode cX10_back 17 = .ok (.ireturn, 1) := by decide +kernel
theorem dX10_back_18 : decode cX10_back 18 = .ok (.aload_n 0, 1) := by decide +kernel
theorem dX10_back_19 : decode cX10_back 19 = .ok (.getfield 46, 3) := by decide +kernel
theorem dX10_back_22 : decode cX10_back 22 = .ok (.dup, 1) := by decide +kernel
theorem dX10_back_23 : decode cX10_back 23 = .ok (.getfield 114, 3) := by decide +kernel
theorem dX10_back_26 : decode cX10_back 26 = .ok (.iload_n 1, 1) := by decide +kernel
theorem dX10_back_27 : decode cX10_back 27 = .ok (.isub, 1) := by decide +kernel
theorem dX10_back_28 : decode cX10_back 28 = .ok (.putfield 114, 3) := by decide +kernel
theorem dX10_back_31 : decode cX10_back 31 = .ok (.aload_n 0, 1) := by decide +kernel
theorem dX10_back_32 : decode cX10_back 32 = .ok (.getfield 46, 3) := by decide +kernel
theorem dX10_back_35 : decode cX10_back 35 = .ok (.getfield 114, 3) := by decide +kernel
theorem dX10_back_38 : decode cX10_back 38 = .ok (.ireturn, 1) := by decide +kernel
set_option maxRecDepth 20000 in
theorem ggX10_loads_X1_has : GoodIn wsX10_loads wsX1_has := goodIn_r _ [10, 11, 52, 53, 54, 55] (by decide +kernel) (by decide +kernel)
set_option maxRecDepth 20000 in
theorem gX10_loads_X1_has : GoodIn wsX10_loads (wsV RX10 118 RX1 yX1_has wsX1_has) := goodIn_app (goodIn_of _ (by decide +kernel)) ggX10_loads_X1_has
set_option maxRecDepth 20000 in
theorem ggX10_loads_X10_pullOf : GoodIn wsX10_loads wsX10_pullOf := goodIn_r _ [15, 16, 17, 18, 19, 20, 21, 22] (by decide +kernel) (by decide +kernel)
set_option maxRecDepth 20000 in
theorem gX10_loads_X10_pullOf : GoodIn wsX10_loads (va_wsS RX10 249 yX10_pullOf wsX10_pullOf) := goodIn_app (goodIn_of _ (by decide +kernel)) ggX10_loads_X10_pullOf
set_option maxRecDepth 20000 in
theorem ggX10_loads_X5_areSo : GoodIn wsX10_loads wsX5_areSo := goodIn_r _ [27, 28, 29, 30, 31, 32, 33, 34, 9, 35, 36, 37, 38, 39, 13, 14, 15, 16, 17, 18, 19, 20, 21, 22, 62, 63, 64, 65, 52, 53, 54, 55, 56, 57, 58, 59, 60, 61] (by decide +kernel) (by decide +kernel)
set_option maxRecDepth 20000 in
theorem gX10_loads_X5_areSo : GoodIn wsX10_loads (wsV RX10 252 RX5 yX5_areSo wsX5_areSo) := goodIn_app (goodIn_of _ (by decide +kernel)) ggX10_loads_X5_areSo
theorem dX10_loads_0 : decode cX10_loads 0 = .ok (.aload_n 0, 1) := by decide +kernel
theorem dX10_loads_1 : decode cX10_loads 1 = .ok (.getfield 32, 3) := by decide +kernel
theorem dX10_loads_4 : decode cX10_loads 4 = .ok (.iload_n 1, 1) := by decide +kernel
theorem dX10_loads_5 : decode cX10_loads 5 = .ok (.invokevirtual 118, 3) := by decide +kernel
theorem dX10_loads_8 : decode cX10_loads 8 = .ok (.ifCond .ne 5, 3) := by decide +kernel
theorem dX10_loads_11 : decode cX10_loads 11 = .ok (.iconst (-1), 1) := by decide +kernel
theorem dX10_loads_12 : decode cX10_loads 12 = .ok (.ireturn, 1) := by decide +kernel
theorem dX10_loads_13 : decode cX10_loads 13 = .ok (.iconst 0, 1) := by decide +kernel
theorem dX10_loads_14 : decode cX10_loads 14 = .ok (.istore_n 2, 1) := by decide +kernel
theorem dX10_loads_15 : decode cX10_loads 15 = .ok (.iconst 0, 1) := by decide +kernel
theorem dX10_loads_16 : decode cX10_loads 16 = .ok (.istore_n 3, 1) := by decide +kernel
theorem dX10_loads_17 : decode cX10_loads 17 = .ok (.iload_n 3, 1) := by decide +kernel
theorem dX10_loads_18 : decode cX10_loads 18 = .ok (.bipush 9, 2) := by decide +kernel
theorem dX10_loads_20 : decode cX10_loads 20 = .ok (.if_icmp .gt 63, 3) := by decide +kernel
theorem dX10_loads_23 : decode cX10_loads 23 = .ok (.aload_n 0, 1) := by decide +kernel
theorem dX10_loads_24 : decode cX10_loads 24 = .ok (.getfield 32, 3) := by decide +kernel
theorem dX10_loads_27 : decode cX10_loads 27 = .ok (.getfield 121, 3) := by decide +kernel
theorem dX10_loads_30 : decode cX10_loads 30 = .ok (.iload_n 1, 1) := by decide +kernel
theorem dX10_loads_31 : decode cX10_loads 31 = .ok (.iaload, 1) := by decide +kernel
theorem dX10_loads_32 : decode cX10_loads 32 = .ok (.iload_n 3, 1) := by decide +kernel
theorem dX10_loads_33 : decode cX10_loads 33 = .ok (.aload_n 0, 1) := by decide +kernel
theorem dX10_loads_34 : decode cX10_loads 34 = .ok (.getfield 32, 3) := by decide +kernel
theorem dX10_loads_37 : decode cX10_loads 37 = .ok (.getfield 124, 3) := by decide +kernel
theorem dX10_loads_40 : decode cX10_loads 40 = .ok (.getfield 131, 3) := by decide +kernel
theorem dX10_loads_43 : decode cX10_loads 43 = .ok (.iload_n 1, 1) := by decide +kernel
theorem dX10_loads_44 : decode cX10_loads 44 = .ok (.iaload, 1) := by decide +kernel
theorem dX10_loads_45 : decode cX10_loads 45 = .ok (.invokestatic 249, 3) := by decide +kernel
theorem dX10_loads_48 : decode cX10_loads 48 = .ok (.istore 4, 2) := by decide +kernel
theorem dX10_loads_50 : decode cX10_loads 50 = .ok (.iload_n 2, 1) := by decide +kernel
theorem dX10_loads_51 : decode cX10_loads 51 = .ok (.aload_n 0, 1) := by decide +kernel
theorem dX10_loads_52 : decode cX10_loads 52 = .ok (.getfield 46, 3) := by decide +kernel
theorem dX10_loads_55 : decode cX10_loads 55 = .ok (.aload_n 0, 1) := by decide +kernel
theorem dX10_loads_56 : decode cX10_loads 56 = .ok (.getfield 32, 3) := by decide +kernel
theorem dX10_loads_59 : decode cX10_loads 59 = .ok (.iload_n 1, 1) := by decide +kernel
theorem dX10_loads_60 : decode cX10_loads 60 = .ok (.iload 4, 2) := by decide +kernel
theorem dX10_loads_62 : decode cX10_loads 62 = .ok (.invokevirtual 252, 3) := by decide +kernel
theorem dX10_loads_65 : decode cX10_loads 65 = .ok (.ifCond .eq 9, 3) := by decide +kernel
theorem dX10_loads_68 : decode cX10_loads 68 = .ok (.iconst 1, 1) := by decide +kernel
theorem dX10_loads_69 : decode cX10_loads 69 = .ok (.iload_n 3, 1) := by decide +kernel
theorem dX10_loads_70 : decode cX10_loads 70 = .ok (.ishl, 1) := by decide +kernel
theorem dX10_loads_71 : decode cX10_loads 71 = .ok (.goto 4, 3) := by decide +kernel
theorem dX10_loads_74 : decode cX10_loads 74 = .ok (.iconst 0, 1) := by decide +kernel
theorem dX10_loads_75 : decode cX10_loads 75 = .ok (.ior, 1) := by decide +kernel
theorem dX10_loads_76 : decode cX10_loads 76 = .ok (.istore_n 2, 1) := by decide +kernel
theorem dX10_loads_77 : decode cX10_loads 77 = .ok (.iinc 3 1, 3) := by decide +kernel
theorem dX10_loads_80 : decode cX10_loads 80 = .ok (.goto (-63), 3) := by decide +kernel
theorem dX10_loads_83 : decode cX10_loads 83 = .ok (.iload_n 2, 1) := by decide +kernel
theorem dX10_loads_84 : decode cX10_loads 84 = .ok (.ireturn, 1) := by decide +kernel
set_option maxRecDepth 20000 in
theorem ggX10_weights_X1_has : GoodIn wsX10_weights wsX1_has := goodIn_r _ [10, 11, 52, 53, 54, 55] (by decide +kernel) (by decide +kernel)
set_option maxRecDepth 20000 in
theorem gX10_weights_X1_has : GoodIn wsX10_weights (wsV RX10 118 RX1 yX1_has wsX1_has) := goodIn_app (goodIn_of _ (by decide +kernel)) ggX10_weights_X1_has
set_option maxRecDepth 20000 in
theorem ggX10_weights_X10_pullOf : GoodIn wsX10_weights wsX10_pullOf := goodIn_r _ [15, 16, 17, 18, 19, 20, 21, 22] (by decide +kernel) (by decide +kernel)
set_option maxRecDepth 20000 in
theorem gX10_weights_X10_pullOf : GoodIn wsX10_weights (va_wsS RX10 249 yX10_pullOf wsX10_pullOf) := goodIn_app (goodIn_of _ (by decide +kernel)) ggX10_weights_X10_pullOf
set_option maxRecDepth 20000 in
theorem ggX10_weights_X5_areSo : GoodIn wsX10_weights wsX5_areSo := goodIn_r _ [27, 28, 29, 30, 31, 32, 33, 34, 9, 35, 36, 37, 38, 39, 13, 14, 15, 16, 17, 18, 19, 20, 21, 22, 62, 63, 64, 65, 52, 53, 54, 55, 56, 57, 58, 59, 60, 61] (by decide +kernel) (by decide +kernel)
set_option maxRecDepth 20000 in
theorem gX10_weights_X5_areSo : GoodIn wsX10_weights (wsV RX10 252 RX5 yX5_areSo wsX5_areSo) := goodIn_app (goodIn_of _ (by decide +kernel)) ggX10_weights_X5_areSo
theorem dX10_weights_0 : decode cX10_weights 0 = .ok (.aload_n 0, 1) := by decide +kernel
theorem dX10_weights_1 : decode cX10_weights 1 = .ok (.getfield 32, 3) := by decide +kernel
theorem dX10_weights_4 : decode cX10_weights 4 = .ok (.iload_n 1, 1) := by decide +kernel
theorem dX10_weights_5 : decode cX10_weights 5 = .ok (.invokevirtual 118, 3) := by decide +kernel
theorem dX10_weights_8 : decode cX10_weights 8 = .ok (.ifCond .ne 5, 3) := by decide +kernel
theorem dX10_weights_11 : decode cX10_weights 11 = .ok (.iconst (-1), 1) := by decide +kernel
theorem dX10_weights_12 : decode cX10_weights 12 = .ok (.ireturn, 1) := by decide +kernel
theorem dX10_weights_13 : decode cX10_weights 13 = .ok (.iconst 0, 1) := by decide +kernel
theorem dX10_weights_14 : decode cX10_weights 14 = .ok (.istore_n 2, 1) := by decide +kernel
theorem dX10_weights_15 : decode cX10_weights 15 = .ok (.iconst 0, 1) := by decide +kernel
theorem dX10_weights_16 : decode cX10_weights 16 = .ok (.istore_n 3, 1) := by decide +kernel
theorem dX10_weights_17 : decode cX10_weights 17 = .ok (.iload_n 3, 1) := by decide +kernel
theorem dX10_weights_18 : decode cX10_weights 18 = .ok (.bipush 9, 2) := by decide +kernel
theorem dX10_weights_20 : decode cX10_weights 20 = .ok (.if_icmp .gt 63, 3) := by decide +kernel
theorem dX10_weights_23 : decode cX10_weights 23 = .ok (.aload_n 0, 1) := by decide +kernel
theorem dX10_weights_24 : decode cX10_weights 24 = .ok (.getfield 32, 3) := by decide +kernel
theorem dX10_weights_27 : decode cX10_weights 27 = .ok (.getfield 121, 3) := by decide +kernel
theorem dX10_weights_30 : decode cX10_weights 30 = .ok (.iload_n 1, 1) := by decide +kernel
theorem dX10_weights_31 : decode cX10_weights 31 = .ok (.iaload, 1) := by decide +kernel
theorem dX10_weights_32 : decode cX10_weights 32 = .ok (.aload_n 0, 1) := by decide +kernel
theorem dX10_weights_33 : decode cX10_weights 33 = .ok (.getfield 32, 3) := by decide +kernel
theorem dX10_weights_36 : decode cX10_weights 36 = .ok (.getfield 124, 3) := by decide +kernel
theorem dX10_weights_39 : decode cX10_weights 39 = .ok (.getfield 128, 3) := by decide +kernel
theorem dX10_weights_42 : decode cX10_weights 42 = .ok (.iload_n 1, 1) := by decide +kernel
theorem dX10_weights_43 : decode cX10_weights 43 = .ok (.iaload, 1) := by decide +kernel
theorem dX10_weights_44 : decode cX10_weights 44 = .ok (.iload_n 3, 1) := by decide +kernel
theorem dX10_weights_45 : decode cX10_weights 45 = .ok (.invokestatic 249, 3) := by decide +kernel
theorem dX10_weights_48 : decode cX10_weights 48 = .ok (.istore 4, 2) := by decide +kernel
theorem dX10_weights_50 : decode cX10_weights 50 = .ok (.iload_n 2, 1) := by decide +kernel
theorem dX10_weights_51 : decode cX10_weights 51 = .ok (.aload_n 0, 1) := by decide +kernel
theorem dX10_weights_52 : decode cX10_weights 52 = .ok (.getfield 46, 3) := by decide +kernel
theorem dX10_weights_55 : decode cX10_weights 55 = .ok (.aload_n 0, 1) := by decide +kernel
theorem dX10_weights_56 : decode cX10_weights 56 = .ok (.getfield 32, 3) := by decide +kernel
theorem dX10_weights_59 : decode cX10_weights 59 = .ok (.iload_n 1, 1) := by decide +kernel
theorem dX10_weights_60 : decode cX10_weights 60 = .ok (.iload 4, 2) := by decide +kernel
theorem dX10_weights_62 : decode cX10_weights 62 = .ok (.invokevirtual 252, 3) := by decide +kernel
theorem dX10_weights_65 : decode cX10_weights 65 = .ok (.ifCond .eq 9, 3) := by decide +kernel
theorem dX10_weights_68 : decode cX10_weights 68 = .ok (.iconst 1, 1) := by decide +kernel
theorem dX10_weights_69 : decode cX10_weights 69 = .ok (.iload_n 3, 1) := by decide +kernel
theorem dX10_weights_70 : decode cX10_weights 70 = .ok (.ishl, 1) := by decide +kernel
theorem dX10_weights_71 : decode cX10_weights 71 = .ok (.goto 4, 3) := by decide +kernel
theorem dX10_weights_74 : decode cX10_weights 74 = .ok (.iconst 0, 1) := by decide +kernel
theorem dX10_weights_75 : decode cX10_weights 75 = .ok (.ior, 1) := by decide +kernel
theorem dX10_weights_76 : decode cX10_weights 76 = .ok (.istore_n 2, 1) := by decide +kernel
theorem dX10_weights_77 : decode cX10_weights 77 = .ok (.iinc 3 1, 3) := by decide +kernel
theorem dX10_weights_80 : decode cX10_weights 80 = .ok (.goto (-63), 3) := by decide +kernel
theorem dX10_weights_83 : decode cX10_weights 83 = .ok (.iload_n 2, 1) := by decide +kernel
theorem dX10_weights_84 : decode cX10_weights 84 = .ok (.ireturn, 1) := by decide +kernel
set_option maxRecDepth 20000 in
theorem ggX10_kinds_X1_has : GoodIn wsX10_kinds wsX1_has := goodIn_r _ [10, 11, 52, 53, 54, 55] (by decide +kernel) (by decide +kernel)
set_option maxRecDepth 20000 in
theorem gX10_kinds_X1_has : GoodIn wsX10_kinds (wsV RX10 118 RX1 yX1_has wsX1_has) := goodIn_app (goodIn_of _ (by decide +kernel)) ggX10_kinds_X1_has
set_option maxRecDepth 20000 in
theorem ggX10_kinds_X10_pullOf : GoodIn wsX10_kinds wsX10_pullOf := goodIn_r _ [15, 16, 17, 18, 19, 20, 21, 22] (by decide +kernel) (by decide +kernel)
set_option maxRecDepth 20000 in
theorem gX10_kinds_X10_pullOf : GoodIn wsX10_kinds (va_wsS RX10 249 yX10_pullOf wsX10_pullOf) := goodIn_app (goodIn_of _ (by decide +kernel)) ggX10_kinds_X10_pullOf
set_option maxRecDepth 20000 in
theorem ggX10_kinds_X5_areSo : GoodIn wsX10_kinds wsX5_areSo := goodIn_r _ [27, 28, 29, 30, 31, 32, 33, 34, 9, 35, 36, 37, 38, 39, 13, 14, 15, 16, 17, 18, 19, 20, 21, 22, 62, 63, 64, 65, 52, 53, 54, 55, 56, 57, 58, 59, 60, 61] (by decide +kernel) (by decide +kernel)
set_option maxRecDepth 20000 in
theorem gX10_kinds_X5_areSo : GoodIn wsX10_kinds (wsV RX10 252 RX5 yX5_areSo wsX5_areSo) := goodIn_app (goodIn_of _ (by decide +kernel)) ggX10_kinds_X5_areSo
theorem dX10_kinds_0 : decode cX10_kinds 0 = .ok (.aload_n 0, 1) := by decide +kernel
theorem dX10_kinds_1 : decode cX10_kinds 1 = .ok (.getfield 32, 3) := by decide +kernel
theorem dX10_kinds_4 : decode cX10_kinds 4 = .ok (.iload_n 1, 1) := by decide +kernel
theorem dX10_kinds_5 : decode cX10_kinds 5 = .ok (.invokevirtual 118, 3) := by decide +kernel
theorem dX10_kinds_8 : decode cX10_kinds 8 = .ok (.ifCond .ne 5, 3) := by decide +kernel
theorem dX10_kinds_11 : decode cX10_kinds 11 = .ok (.iconst (-1), 1) := by decide +kernel
theorem dX10_kinds_12 : decode cX10_kinds 12 = .ok (.ireturn, 1) := by decide +kernel
theorem dX10_kinds_13 : decode cX10_kinds 13 = .ok (.iconst 0, 1) := by decide +kernel
theorem dX10_kinds_14 : decode cX10_kinds 14 = .ok (.istore_n 2, 1) := by decide +kernel
theorem dX10_kinds_15 : decode cX10_kinds 15 = .ok (.iconst 0, 1) := by decide +kernel
theorem dX10_kinds_16 : decode cX10_kinds 16 = .ok (.istore_n 3, 1) := by decide +kernel
theorem dX10_kinds_17 : decode cX10_kinds 17 = .ok (.iload_n 3, 1) := by decide +kernel
theorem dX10_kinds_18 : decode cX10_kinds 18 = .ok (.iconst 2, 1) := by decide +kernel
theorem dX10_kinds_19 : decode cX10_kinds 19 = .ok (.if_icmp .gt 66, 3) := by decide +kernel
theorem dX10_kinds_22 : decode cX10_kinds 22 = .ok (.iload_n 3, 1) := by decide +kernel
theorem dX10_kinds_23 : decode cX10_kinds 23 = .ok (.aload_n 0, 1) := by decide +kernel
theorem dX10_kinds_24 : decode cX10_kinds 24 = .ok (.getfield 32, 3) := by decide +kernel
theorem dX10_kinds_27 : decode cX10_kinds 27 = .ok (.getfield 124, 3) := by decide +kernel
theorem dX10_kinds_30 : decode cX10_kinds 30 = .ok (.getfield 128, 3) := by decide +kernel
theorem dX10_kinds_33 : decode cX10_kinds 33 = .ok (.iload_n 1, 1) := by decide +kernel
theorem dX10_kinds_34 : decode cX10_kinds 34 = .ok (.iaload, 1) := by decide +kernel
theorem dX10_kinds_35 : decode cX10_kinds 35 = .ok (.aload_n 0, 1) := by decide +kernel
theorem dX10_kinds_36 : decode cX10_kinds 36 = .ok (.getfield 32, 3) := by decide +kernel
theorem dX10_kinds_39 : decode cX10_kinds 39 = .ok (.getfield 124, 3) := by decide +kernel
theorem dX10_kinds_42 : decode cX10_kinds 42 = .ok (.getfield 131, 3) := by decide +kernel
theorem dX10_kinds_45 : decode cX10_kinds 45 = .ok (.iload_n 1, 1) := by decide +kernel
theorem dX10_kinds_46 : decode cX10_kinds 46 = .ok (.iaload, 1) := by decide +kernel
theorem dX10_kinds_47 : decode cX10_kinds 47 = .ok (.invokestatic 249, 3) := by decide +kernel
theorem dX10_kinds_50 : decode cX10_kinds 50 = .ok (.istore 4, 2) := by decide +kernel
theorem dX10_kinds_52 : decode cX10_kinds 52 = .ok (.iload_n 2, 1) := by decide +kernel
theorem dX10_kinds_53 : decode cX10_kinds 53 = .ok (.aload_n 0, 1) := by decide +kernel
theorem dX10_kinds_54 : decode cX10_kinds 54 = .ok (.getfield 46, 3) := by decide +kernel
theorem dX10_kinds_57 : decode cX10_kinds 57 = .ok (.aload_n 0, 1) := by decide +kernel
theorem dX10_kinds_58 : decode cX10_kinds 58 = .ok (.getfield 32, 3) := by decide +kernel
theorem dX10_kinds_61 : decode cX10_kinds 61 = .ok (.iload_n 1, 1) := by decide +kernel
theorem dX10_kinds_62 : decode cX10_kinds 62 = .ok (.iload 4, 2) := by decide +kernel
theorem dX10_kinds_64 : decode cX10_kinds 64 = .ok (.invokevirtual 252, 3) := by decide +kernel
theorem dX10_kinds_67 : decode cX10_kinds 67 = .ok (.ifCond .eq 9, 3) := by decide +kernel
theorem dX10_kinds_70 : decode cX10_kinds 70 = .ok (.iconst 1, 1) := by decide +kernel
theorem dX10_kinds_71 : decode cX10_kinds 71 = .ok (.iload_n 3, 1) := by decide +kernel
theorem dX10_kinds_72 : decode cX10_kinds 72 = .ok (.ishl, 1) := by decide +kernel
theorem dX10_kinds_73 : decode cX10_kinds 73 = .ok (.goto 4, 3) := by decide +kernel
theorem dX10_kinds_76 : decode cX10_kinds 76 = .ok (.iconst 0, 1) := by decide +kernel
theorem dX10_kinds_77 : decode cX10_kinds 77 = .ok (.ior, 1) := by decide +kernel
theorem dX10_kinds_78 : decode cX10_kinds 78 = .ok (.istore_n 2, 1) := by decide +kernel
theorem dX10_kinds_79 : decode cX10_kinds 79 = .ok (.iinc 3 1, 3) := by decide +kernel
theorem dX10_kinds_82 : decode cX10_kinds 82 = .ok (.goto (-65), 3) := by decide +kernel
theorem dX10_kinds_85 : decode cX10_kinds 85 = .ok (.iload_n 2, 1) := by decide +kernel
theorem dX10_kinds_86 : decode cX10_kinds 86 = .ok (.ireturn, 1) := by decide +kernel
set_option maxRecDepth 20000 in
theorem ggX10_odds_X1_has : GoodIn wsX10_odds wsX1_has := goodIn_r _ [7, 8, 40, 41, 42, 43] (by decide +kernel) (by decide +kernel)
set_option maxRecDepth 20000 in
theorem gX10_odds_X1_has : GoodIn wsX10_odds (wsV RX10 118 RX1 yX1_has wsX1_has) := goodIn_app (goodIn_of _ (by decide +kernel)) ggX10_odds_X1_has
set_option maxRecDepth 20000 in
theorem ggX10_odds_X10_within : GoodIn wsX10_odds wsX10_within := goodIn_r _ [12] (by decide +kernel) (by decide +kernel)
set_option maxRecDepth 20000 in
theorem gX10_odds_X10_within : GoodIn wsX10_odds (va_wsS RX10 154 yX10_within wsX10_within) := goodIn_app (goodIn_of _ (by decide +kernel)) ggX10_odds_X10_within
set_option maxRecDepth 20000 in
theorem ggX10_odds_X1_isSeenAmongUp : GoodIn wsX10_odds wsX1_isSeenAmongUp := goodIn_r _ [16, 17, 18, 19, 20, 21, 6, 22, 23, 24, 25, 26, 27, 40, 41, 42, 43, 44, 45, 46, 47, 48, 49] (by decide +kernel) (by decide +kernel)
set_option maxRecDepth 20000 in
theorem gX10_odds_X1_isSeenAmongUp : GoodIn wsX10_odds (wsV RX10 258 RX1 yX1_isSeenAmongUp wsX1_isSeenAmongUp) := goodIn_app (goodIn_of _ (by decide +kernel)) ggX10_odds_X1_isSeenAmongUp
theorem dX10_odds_0 : decode cX10_odds 0 = .ok (.aload_n 0, 1) := by decide +kernel
theorem dX10_odds_1 : decode cX10_odds 1 = .ok (.getfield 32, 3) := by decide +kernel
theorem dX10_odds_4 : decode cX10_odds 4 = .ok (.iload_n 1, 1) := by decide +kernel
theorem dX10_odds_5 : decode cX10_odds 5 = .ok (.invokevirtual 118, 3) := by decide +kernel
theorem dX10_odds_8 : decode cX10_odds 8 = .ok (.ifCond .eq 12, 3) := by decide +kernel
theorem dX10_odds_11 : decode cX10_odds 11 = .ok (.iload_n 2, 1) := by decide +kernel
theorem dX10_odds_12 : decode cX10_odds 12 = .ok (.iconst 0, 1) := by decide +kernel
theorem dX10_odds_13 : decode cX10_odds 13 = .ok (.iconst 1, 1) := by decide +kernel
theorem dX10_odds_14 : decode cX10_odds 14 = .ok (.invokestatic 154, 3) := by decide +kernel
theorem dX10_odds_17 : decode cX10_odds 17 = .ok (.ifCond .ne 7, 3) := by decide +kernel
theorem dX10_odds_20 : decode cX10_odds 20 = .ok (.ldc2_w 256, 3) := by decide +kernel
theorem dX10_odds_23 : decode cX10_odds 23 = .ok (.lreturn, 1) := by decide +kernel
theorem dX10_odds_24 : decode cX10_odds 24 = .ok (.aload_n 0, 1) := by decide +kernel
theorem dX10_odds_25 : decode cX10_odds 25 = .ok (.getfield 32, 3) := by decide +kernel
theorem dX10_odds_28 : decode cX10_odds 28 = .ok (.iload_n 1, 1) := by decide +kernel
theorem dX10_odds_29 : decode cX10_odds 29 = .ok (.invokevirtual 258, 3) := by decide +kernel
theorem dX10_odds_32 : decode cX10_odds 32 = .ok (.istore_n 3, 1) := by decide +kernel
theorem dX10_odds_33 : decode cX10_odds 33 = .ok (.iload_n 2, 1) := by decide +kernel
theorem dX10_odds_34 : decode cX10_odds 34 = .ok (.ifCond .ne 5, 3) := by decide +kernel
theorem dX10_odds_37 : decode cX10_odds 37 = .ok (.lconst 1, 1) := by decide +kernel
theorem dX10_odds_38 : decode cX10_odds 38 = .ok (.lreturn, 1) := by decide +kernel
theorem dX10_odds_39 : decode cX10_odds 39 = .ok (.iload_n 3, 1) := by decide +kernel
theorem dX10_odds_40 : decode cX10_odds 40 = .ok (.ifCond .eq 9, 3) := by decide +kernel
theorem dX10_odds_43 : decode cX10_odds 43 = .ok (.lconst 1, 1) := by decide +kernel
theorem dX10_odds_44 : decode cX10_odds 44 = .ok (.iload_n 1, 1) := by decide +kernel
theorem dX10_odds_45 : decode cX10_odds 45 = .ok (.lshl, 1) := by decide +kernel
theorem dX10_odds_46 : decode cX10_odds 46 = .ok (.goto 8, 3) := by decide +kernel
theorem dX10_odds_49 : decode cX10_odds 49 = .ok (.lconst 1, 1) := by decide +kernel
theorem dX10_odds_50 : decode cX10_odds 50 = .ok (.iload_n 1, 1) := by decide +kernel
theorem dX10_odds_51 : decode cX10_odds 51 = .ok (.iconst 1, 1) := by decide +kernel
theorem dX10_odds_52 : decode cX10_odds 52 = .ok (.iadd, 1) := by decide +kernel
theorem dX10_odds_53 : decode cX10_odds 53 = .ok (.lshl, 1) := by decide +kernel
theorem dX10_odds_54 : decode cX10_odds 54 = .ok (.lreturn, 1) := by decide +kernel
set_option maxRecDepth 20000 in
theorem ggX10_sheet_X10_isSheet : GoodIn wsX10_sheet wsX10_isSheet := goodIn_r _ [6, 7, 8, 5, 9] (by decide +kernel) (by decide +kernel)
set_option maxRecDepth 20000 in
theorem gX10_sheet_X10_isSheet : GoodIn wsX10_sheet (va_wsS RX10 82 yX10_isSheet wsX10_isSheet) := goodIn_app (goodIn_of _ (by decide +kernel)) ggX10_sheet_X10_isSheet
set_option maxRecDepth 20000 in
theorem ggX10_sheet_X10_isLane : GoodIn wsX10_sheet wsX10_isLane := goodIn_r _ [12, 7, 8, 5, 9] (by decide +kernel) (by decide +kernel)
set_option maxRecDepth 20000 in
theorem gX10_sheet_X10_isLane : GoodIn wsX10_sheet (va_wsS RX10 86 yX10_isLane wsX10_isLane) := goodIn_app (goodIn_of _ (by decide +kernel)) ggX10_sheet_X10_isLane
set_option maxRecDepth 20000 in
theorem ggX10_sheet_X10_faulted : GoodIn wsX10_sheet wsX10_faulted := goodIn_r _ [16, 1, 26, 27, 28, 29, 30, 31, 32, 33, 34, 35, 36, 37] (by decide +kernel) (by decide +kernel)
set_option maxRecDepth 20000 in
theorem gX10_sheet_X10_faulted : GoodIn wsX10_sheet (wsV RX10 93 RX10 yX10_faulted wsX10_faulted) := goodIn_app (goodIn_of _ (by decide +kernel)) ggX10_sheet_X10_faulted
set_option maxRecDepth 20000 in
theorem ggX10_sheet_X7_renew : GoodIn wsX10_sheet wsX7_renew := goodIn_r _ [21, 22, 23, 24, 25, 38, 39, 40, 41] (by decide +kernel) (by decide +kernel)
set_option maxRecDepth 20000 in
theorem gX10_sheet_X7_renew : GoodIn wsX10_sheet (wsV RX10 261 RX7 yX7_renew wsX7_renew) := goodIn_app (goodIn_of _ (by decide +kernel)) ggX10_sheet_X7_renew
theorem dX10_sheet_0 : decode cX10_sheet 0 = .ok (.aload_n 0, 1) := by decide +kernel
theorem dX10_sheet_1 : decode cX10_sheet 1 = .ok (.iconst 0, 1) := by decide +kernel
theorem dX10_sheet_2 : decode cX10_sheet 2 = .ok (.putfield 78, 3) := by decide +kernel
theorem dX10_sheet_5 : decode cX10_sheet 5 = .ok (.iload_n 1, 1) := by decide +kernel
theorem dX10_sheet_6 : decode cX10_sheet 6 = .ok (.invokestatic 82, 3) := by decide +kernel
theorem dX10_sheet_9 : decode cX10_sheet 9 = .ok (.ifCond .ne 5, 3) := by decide +kernel
theorem dX10_sheet_12 : decode cX10_sheet 12 = .ok (.iconst (-1), 1) := by decide +kernel
theorem dX10_sheet_13 : decode cX10_sheet 13 = .ok (.ireturn, 1) := by decide +kernel
theorem dX10_sheet_14 : decode cX10_sheet 14 = .ok (.iload_n 2, 1) := by decide +kernel
theorem dX10_sheet_15 : decode cX10_sheet 15 = .ok (.invokestatic 86, 3) := by decide +kernel
theorem dX10_sheet_18 : decode cX10_sheet 18 = .ok (.ifCond .eq 9, 3) := by decide +kernel
theorem dX10_sheet_21 : decode cX10_sheet 21 = .ok (.iload_n 3, 1) := by decide +kernel
theorem dX10_sheet_22 : decode cX10_sheet 22 = .ok (.bipush 60, 2) := by decide +kernel
theorem dX10_sheet_24 : decode cX10_sheet 24 = .ok (.if_icmp .le 6, 3) := by decide +kernel
theorem dX10_sheet_27 : decode cX10_sheet 27 = .ok (.bipush (-2), 2) := by decide +kernel
theorem dX10_sheet_29 : decode cX10_sheet 29 = .ok (.ireturn, 1) := by decide +kernel
theorem dX10_sheet_30 : decode cX10_sheet 30 = .ok (.iload_n 3, 1) := by decide +kernel
theorem dX10_sheet_31 : decode cX10_sheet 31 = .ok (.ifCond .ge 9, 3) := by decide +kernel
theorem dX10_sheet_34 : decode cX10_sheet 34 = .ok (.aload_n 0, 1) := by decide +kernel
theorem dX10_sheet_35 : decode cX10_sheet 35 = .ok (.iconst 4, 1) := by decide +kernel
theorem dX10_sheet_36 : decode cX10_sheet 36 = .ok (.invokevirtual 93, 3) := by decide +kernel
theorem dX10_sheet_39 : decode cX10_sheet 39 = .ok (.ireturn, 1) := by decide +kernel
theorem dX10_sheet_40 : decode cX10_sheet 40 = .ok (.aload_n 0, 1) := by decide +kernel
theorem dX10_sheet_41 : decode cX10_sheet 41 = .ok (.getfield 13, 3) := by decide +kernel
theorem dX10_sheet_44 : decode cX10_sheet 44 = .ok (.iload_n 1, 1) := by decide +kernel
theorem dX10_sheet_45 : decode cX10_sheet 45 = .ok (.aaload, 1) := by decide +kernel
theorem dX10_sheet_46 : decode cX10_sheet 46 = .ok (.iload_n 2, 1) := by decide +kernel
theorem dX10_sheet_47 : decode cX10_sheet 47 = .ok (.iload_n 3, 1) := by decide +kernel
theorem dX10_sheet_48 : decode cX10_sheet 48 = .ok (.invokevirtual 261, 3) := by decide +kernel
theorem dX10_sheet_51 : decode cX10_sheet 51 = .ok (.iconst 1, 1) := by decide +kernel
theorem dX10_sheet_52 : decode cX10_sheet 52 = .ok (.ireturn, 1) := by decide +kernel
set_option maxRecDepth 20000 in
theorem ggX10_lose_X10_isSheet : GoodIn wsX10_lose wsX10_isSheet := goodIn_r _ [6, 7, 8, 5, 9] (by decide +kernel) (by decide +kernel)
set_option maxRecDepth 20000 in
theorem gX10_lose_X10_isSheet : GoodIn wsX10_lose (va_wsS RX10 82 yX10_isSheet wsX10_isSheet) := goodIn_app (goodIn_of _ (by decide +kernel)) ggX10_lose_X10_isSheet
theorem dX10_lose_0 : decode cX10_lose 0 = .ok (.iload_n 1, 1) := by decide +kernel
theorem dX10_lose_1 : decode cX10_lose 1 = .ok (.invokestatic 82, 3) := by decide +kernel
theorem dX10_lose_4 : decode cX10_lose 4 = .ok (.ifCond .ne 5, 3) := by decide +kernel
theorem dX10_lose_7 : decode cX10_lose 7 = .ok (.iconst (-1), 1) := by decide +kernel
theorem dX10_lose_8 : decode cX10_lose 8 = .ok (.ireturn, 1) := by decide +kernel
