theorem dX11_goes_19 : decode cX11_goes 19 = .ok (.iload_n 1, 1) := by decide +kernel
theorem dX11_goes_20 : decode cX11_goes 20 = .ok (.iaload, 1) := by decide +kernel
theorem dX11_goes_21 : decode cX11_goes 21 = .ok (.iastore, 1) := by decide +kernel
theorem dX11_goes_22 : decode cX11_goes 22 = .ok (.iinc 1 1, 3) := by decide +kernel
theorem dX11_goes_25 : decode cX11_goes 25 = .ok (.goto (-23), 3) := by decide +kernel
theorem dX11_goes_28 : decode cX11_goes 28 = .ok (.return_, 1) := by decide +kernel
set_option maxRecDepth 20000 in
theorem ggX11_doCue_X11_canBe : GoodIn wsX11_doCue wsX11_canBe := goodIn_r _ [5, 6, 7, 8, 9, 10, 11, 12, 4, 13, 14, 15, 16, 17, 18, 19, 20, 21, 44, 45, 46, 47, 48, 49, 50, 51, 52, 53, 54, 55, 56, 57, 58, 59, 60, 61, 62, 63, 64, 65, 66, 67, 68, 69, 70, 71, 72, 73, 74, 75, 76, 77, 78, 79, 80, 81, 82] (by decide +kernel) (by decide +kernel)
set_option maxRecDepth 20000 in
theorem gX11_doCue_X11_canBe : GoodIn wsX11_doCue (wsV RX11 172 RX11 yX11_canBe wsX11_canBe) := goodIn_app (goodIn_of _ (by decide +kernel)) ggX11_doCue_X11_canBe
set_option maxRecDepth 20000 in
theorem ggX11_doCue_X11_beats : GoodIn wsX11_doCue wsX11_beats := goodIn_r _ [25, 6, 8, 7, 26, 27, 4, 28, 44, 45, 46, 47, 48, 49, 50, 51, 52, 53, 54, 55, 56, 57, 58, 59, 60, 61, 62, 63, 64, 65, 66, 67, 68, 69, 70, 71, 72, 73, 74, 75, 76, 77, 78, 79, 80, 81, 82] (by decide +kernel) (by decide +kernel)
set_option maxRecDepth 20000 in
theorem gX11_doCue_X11_beats : GoodIn wsX11_doCue (wsV RX11 176 RX11 yX11_beats wsX11_beats) := goodIn_app (goodIn_of _ (by decide +kernel)) ggX11_doCue_X11_beats
set_option maxRecDepth 20000 in
theorem ggX11_doCue_X11_remember : GoodIn wsX11_doCue wsX11_remember := goodIn_r _ [32, 33, 34, 35, 36, 37, 4, 38, 8, 14, 15, 39, 44, 45, 46, 47, 48, 49, 50, 51, 52, 53, 54, 55, 56, 57, 58, 59, 60, 61, 62, 63, 64, 65, 66, 67, 68, 69, 70, 71, 72, 73, 74, 75, 76, 77, 78, 79, 80, 81, 82] (by decide +kernel) (by decide +kernel)
set_option maxRecDepth 20000 in
theorem gX11_doCue_X11_remember : GoodIn wsX11_doCue (wsV RX11 179 RX11 yX11_remember wsX11_remember) := goodIn_app (goodIn_of _ (by decide +kernel)) ggX11_doCue_X11_remember
set_option maxRecDepth 20000 in
theorem ggX11_doCue_X11_goes : GoodIn wsX11_doCue wsX11_goes := goodIn_r _ [43, 6, 8, 7, 44, 45, 46, 47, 48, 49, 50, 51, 52, 53, 54, 55, 56, 57, 58, 59, 60, 61, 62, 63, 64, 65, 66, 67, 68, 69, 70, 71, 72, 73, 74, 75, 76, 77, 78, 79, 80, 81, 82] (by decide +kernel) (by decide +kernel)
set_option maxRecDepth 20000 in
theorem gX11_doCue_X11_goes : GoodIn wsX11_doCue (wsV RX11 182 RX11 yX11_goes wsX11_goes) := goodIn_app (goodIn_of _ (by decide +kernel)) ggX11_doCue_X11_goes
theorem dX11_doCue_0 : decode cX11_doCue 0 = .ok (.aload_n 0, 1) := by decide +kernel
theorem dX11_doCue_1 : decode cX11_doCue 1 = .ok (.invokevirtual 172, 3) := by decide +kernel
theorem dX11_doCue_4 : decode cX11_doCue 4 = .ok (.ifCond .ne 6, 3) := by decide +kernel
theorem dX11_doCue_7 : decode cX11_doCue 7 = .ok (.bipush (-3), 2) := by decide +kernel
theorem dX11_doCue_9 : decode cX11_doCue 9 = .ok (.ireturn, 1) := by decide +kernel
theorem dX11_doCue_10 : decode cX11_doCue 10 = .ok (.aload_n 0, 1) := by decide +kernel
theorem dX11_doCue_11 : decode cX11_doCue 11 = .ok (.invokevirtual 176, 3) := by decide +kernel
theorem dX11_doCue_14 : decode cX11_doCue 14 = .ok (.istore_n 1, 1) := by decide +kernel
theorem dX11_doCue_15 : decode cX11_doCue 15 = .ok (.aload_n 0, 1) := by decide +kernel
theorem dX11_doCue_16 : decode cX11_doCue 16 = .ok (.invokevirtual 179, 3) := by decide +kernel
theorem dX11_doCue_19 : decode cX11_doCue 19 = .ok (.aload_n 0, 1) := by decide +kernel
theorem dX11_doCue_20 : decode cX11_doCue 20 = .ok (.invokevirtual 182, 3) := by decide +kernel
theorem dX11_doCue_23 : decode cX11_doCue 23 = .ok (.iload_n 1, 1) := by decide +kernel
theorem dX11_doCue_24 : decode cX11_doCue 24 = .ok (.ireturn, 1) := by decide +kernel
set_option maxRecDepth 20000 in
theorem ggX11_fly_X11_isBatten : GoodIn wsX11_fly wsX11_isBatten := goodIn_r _ [6, 7, 62, 63, 64, 65, 66, 67, 68, 69, 70, 71, 72, 73, 74, 75, 76, 77, 78, 79, 80, 81, 82, 83, 84, 85, 86, 87, 88, 89, 90, 91, 92, 93, 94, 95, 96, 97, 98, 99, 100] (by decide +kernel) (by decide +kernel)
set_option maxRecDepth 20000 in
theorem gX11_fly_X11_isBatten : GoodIn wsX11_fly (wsV RX11 152 RX11 yX11_isBatten wsX11_isBatten) := goodIn_app (goodIn_of _ (by decide +kernel)) ggX11_fly_X11_isBatten
set_option maxRecDepth 20000 in
theorem ggX11_fly_X11_isDigit : GoodIn wsX11_fly wsX11_isDigit := goodIn_r _ [10, 11, 12, 5, 13] (by decide +kernel) (by decide +kernel)
set_option maxRecDepth 20000 in
theorem gX11_fly_X11_isDigit : GoodIn wsX11_fly (va_wsS RX11 185 yX11_isDigit wsX11_isDigit) := goodIn_app (goodIn_of _ (by decide +kernel)) ggX11_fly_X11_isDigit
set_option maxRecDepth 20000 in
theorem ggX11_fly_X11_goalsAsNow : GoodIn wsX11_fly wsX11_goalsAsNow := goodIn_r _ [17, 7, 1, 18, 62, 63, 64, 65, 66, 67, 68, 69, 70, 71, 72, 73, 74, 75, 76, 77, 78, 79, 80, 81, 82, 83, 84, 85, 86, 87, 88, 89, 90, 91, 92, 93, 94, 95, 96, 97, 98, 99, 100] (by decide +kernel) (by decide +kernel)
set_option maxRecDepth 20000 in
theorem gX11_fly_X11_goalsAsNow : GoodIn wsX11_fly (wsV RX11 188 RX11 yX11_goalsAsNow wsX11_goalsAsNow) := goodIn_app (goodIn_of _ (by decide +kernel)) ggX11_fly_X11_goalsAsNow
set_option maxRecDepth 20000 in
theorem ggX11_fly_X11_doCue : GoodIn wsX11_fly wsX11_doCue := goodIn_r _ [22, 23, 24, 25, 5, 26, 7, 1, 18, 27, 28, 29, 30, 31, 32, 33, 34, 35, 36, 37, 38, 39, 40, 41, 42, 43, 44, 45, 46, 47, 48, 49, 50, 51, 52, 53, 54, 55, 56, 57, 58, 59, 60, 61, 62, 63, 64, 65, 66, 67, 68, 69, 70, 71, 72, 73, 74, 75, 76, 77, 78, 79, 80, 81, 82, 83, 84, 85, 86, 87, 88, 89, 90, 91, 92, 93, 94, 95, 96, 97, 98, 99, 100] (by decide +kernel) (by decide +kernel)
set_option maxRecDepth 20000 in
theorem gX11_fly_X11_doCue : GoodIn wsX11_fly (wsV RX11 191 RX11 yX11_doCue wsX11_doCue) := goodIn_app (goodIn_of _ (by decide +kernel)) ggX11_fly_X11_doCue
theorem dX11_fly_0 : decode cX11_fly 0 = .ok (.aload_n 0, 1) := by decide +kernel
theorem dX11_fly_1 : decode cX11_fly 1 = .ok (.iload_n 1, 1) := by decide +kernel
theorem dX11_fly_2 : decode cX11_fly 2 = .ok (.invokevirtual 152, 3) := by decide +kernel
theorem dX11_fly_5 : decode cX11_fly 5 = .ok (.ifCond .ne 5, 3) := by decide +kernel
theorem dX11_fly_8 : decode cX11_fly 8 = .ok (.iconst (-1), 1) := by decide +kernel
theorem dX11_fly_9 : decode cX11_fly 9 = .ok (.ireturn, 1) := by decide +kernel
theorem dX11_fly_10 : decode cX11_fly 10 = .ok (.iload_n 2, 1) := by decide +kernel
theorem dX11_fly_11 : decode cX11_fly 11 = .ok (.invokestatic 185, 3) := by decide +kernel
theorem dX11_fly_14 : decode cX11_fly 14 = .ok (.ifCond .ne 6, 3) := by decide +kernel
theorem dX11_fly_17 : decode cX11_fly 17 = .ok (.bipush (-2), 2) := by decide +kernel
theorem dX11_fly_19 : decode cX11_fly 19 = .ok (.ireturn, 1) := by decide +kernel
theorem dX11_fly_20 : decode cX11_fly 20 = .ok (.aload_n 0, 1) := by decide +kernel
theorem dX11_fly_21 : decode cX11_fly 21 = .ok (.invokevirtual 188, 3) := by decide +kernel
theorem dX11_fly_24 : decode cX11_fly 24 = .ok (.aload_n 0, 1) := by decide +kernel
theorem dX11_fly_25 : decode cX11_fly 25 = .ok (.getfield 37, 3) := by decide +kernel
theorem dX11_fly_28 : decode cX11_fly 28 = .ok (.iload_n 1, 1) := by decide +kernel
theorem dX11_fly_29 : decode cX11_fly 29 = .ok (.iload_n 2, 1) := by decide +kernel
theorem dX11_fly_30 : decode cX11_fly 30 = .ok (.iastore, 1) := by decide +kernel
theorem dX11_fly_31 : decode cX11_fly 31 = .ok (.aload_n 0, 1) := by decide +kernel
theorem dX11_fly_32 : decode cX11_fly 32 = .ok (.invokevirtual 191, 3) := by decide +kernel
theorem dX11_fly_35 : decode cX11_fly 35 = .ok (.ireturn, 1) := by decide +kernel
set_option maxRecDepth 20000 in
theorem ggX11_refusesPairs_X11_isBatten : GoodIn wsX11_refusesPairs wsX11_isBatten := goodIn_r _ [6, 7, 14, 15, 16, 17, 18, 19, 20, 21, 22, 23, 24, 25, 26, 27, 28, 29, 30, 31, 32, 33, 34, 35, 36, 37, 38, 39, 40, 41, 42, 43, 44, 45, 46, 47, 48, 49, 50, 51, 52] (by decide +kernel) (by decide +kernel)
set_option maxRecDepth 20000 in
theorem gX11_refusesPairs_X11_isBatten : GoodIn wsX11_refusesPairs (wsV RX11 152 RX11 yX11_isBatten wsX11_isBatten) := goodIn_app (goodIn_of _ (by decide +kernel)) ggX11_refusesPairs_X11_isBatten
set_option maxRecDepth 20000 in
theorem ggX11_refusesPairs_X11_isDigit : GoodIn wsX11_refusesPairs wsX11_isDigit := goodIn_r _ [10, 11, 12, 5, 13] (by decide +kernel) (by decide +kernel)
set_option maxRecDepth 20000 in
theorem gX11_refusesPairs_X11_isDigit : GoodIn wsX11_refusesPairs (va_wsS RX11 185 yX11_isDigit wsX11_isDigit) := goodIn_app (goodIn_of _ (by decide +kernel)) ggX11_refusesPairs_X11_isDigit
theorem dX11_refusesPairs_0 : decode cX11_refusesPairs 0 = .ok (.iconst 0, 1) := by decide +kernel
theorem dX11_refusesPairs_1 : decode cX11_refusesPairs 1 = .ok (.istore_n 3, 1) := by decide +kernel
theorem dX11_refusesPairs_2 : decode cX11_refusesPairs 2 = .ok (.iload_n 3, 1) := by decide +kernel
theorem dX11_refusesPairs_3 : decode cX11_refusesPairs 3 = .ok (.iload_n 2, 1) := by decide +kernel
theorem dX11_refusesPairs_4 : decode cX11_refusesPairs 4 = .ok (.if_icmp .ge 49, 3) := by decide +kernel
theorem dX11_refusesPairs_7 : decode cX11_refusesPairs 7 = .ok (.aload_n 0, 1) := by decide +kernel
theorem dX11_refusesPairs_8 : decode cX11_refusesPairs 8 = .ok (.aload_n 0, 1) := by decide +kernel
theorem dX11_refusesPairs_9 : decode cX11_refusesPairs 9 = .ok (.getfield 16, 3) := by decide +kernel
theorem dX11_refusesPairs_12 : decode cX11_refusesPairs 12 = .ok (.iload_n 1, 1) := by decide +kernel
theorem dX11_refusesPairs_13 : decode cX11_refusesPairs 13 = .ok (.iconst 2, 1) := by decide +kernel
theorem dX11_refusesPairs_14 : decode cX11_refusesPairs 14 = .ok (.iload_n 3, 1) := by decide +kernel
theorem dX11_refusesPairs_15 : decode cX11_refusesPairs 15 = .ok (.imul, 1) := by decide +kernel
theorem dX11_refusesPairs_16 : decode cX11_refusesPairs 16 = .ok (.iadd, 1) := by decide +kernel
theorem dX11_refusesPairs_17 : decode cX11_refusesPairs 17 = .ok (.iaload, 1) := by decide +kernel
theorem dX11_refusesPairs_18 : decode cX11_refusesPairs 18 = .ok (.invokevirtual 152, 3) := by decide +kernel
theorem dX11_refusesPairs_21 : decode cX11_refusesPairs 21 = .ok (.ifCond .ne 5, 3) := by decide +kernel
theorem dX11_refusesPairs_24 : decode cX11_refusesPairs 24 = .ok (.iconst (-1), 1) := by decide +kernel
theorem dX11_refusesPairs_25 : decode cX11_refusesPairs 25 = .ok (.ireturn, 1) := by decide +kernel
theorem dX11_refusesPairs_26 : decode cX11_refusesPairs 26 = .ok (.aload_n 0, 1) := by decide +kernel
theorem dX11_refusesPairs_27 : decode cX11_refusesPairs 27 = .ok (.getfield 16, 3) := by decide +kernel
theorem dX11_refusesPairs_30 : decode cX11_refusesPairs 30 = .ok (.iload_n 1, 1) := by decide +kernel
theorem dX11_refusesPairs_31 : decode cX11_refusesPairs 31 = .ok (.iconst 2, 1) := by decide +kernel
theorem dX11_refusesPairs_32 : decode cX11_refusesPairs 32 = .ok (.iload_n 3, 1) := by decide +kernel
theorem dX11_refusesPairs_33 : decode cX11_refusesPairs 33 = .ok (.imul, 1) := by decide +kernel
theorem dX11_refusesPairs_34 : decode cX11_refusesPairs 34 = .ok (.iadd, 1) := by decide +kernel
theorem dX11_refusesPairs_35 : decode cX11_refusesPairs 35 = .ok (.iconst 1, 1) := by decide +kernel
theorem dX11_refusesPairs_36 : decode cX11_refusesPairs 36 = .ok (.iadd, 1) := by decide +kernel
theorem dX11_refusesPairs_37 : decode cX11_refusesPairs 37 = .ok (.iaload, 1) := by decide +kernel
theorem dX11_refusesPairs_38 : decode cX11_refusesPairs 38 = .ok (.invokestatic 185, 3) := by decide +kernel
theorem dX11_refusesPairs_41 : decode cX11_refusesPairs 41 = .ok (.ifCond .ne 6, 3) := by decide +kernel
theorem dX11_refusesPairs_44 : decode cX11_refusesPairs 44 = .ok (.bipush (-2), 2) := by decide +kernel
theorem dX11_refusesPairs_46 : decode cX11_refusesPairs 46 = .ok (.ireturn, 1) := by decide +kernel
theorem dX11_refusesPairs_47 : decode cX11_refusesPairs 47 = .ok (.iinc 3 1, 3) := by decide +kernel
theorem dX11_refusesPairs_50 : decode cX11_refusesPairs 50 = .ok (.goto (-48), 3) := by decide +kernel
theorem dX11_refusesPairs_53 : decode cX11_refusesPairs 53 = .ok (.iconst 0, 1) := by decide +kernel
theorem dX11_refusesPairs_54 : decode cX11_refusesPairs 54 = .ok (.ireturn, 1) := by decide +kernel
theorem dX11_isTwice_0 : decode cX11_isTwice 0 = .ok (.iconst 0, 1) := by decide +kernel
theorem dX11_isTwice_1 : decode cX11_isTwice 1 = .ok (.istore_n 3, 1) := by decide +kernel
theorem dX11_isTwice_2 : decode cX11_isTwice 2 = .ok (.iconst 0, 1) := by decide +kernel
theorem dX11_isTwice_3 : decode cX11_isTwice 3 = .ok (.istore 4, 2) := by decide +kernel
theorem dX11_isTwice_5 : decode cX11_isTwice 5 = .ok (.iload 4, 2) := by decide +kernel
theorem dX11_isTwice_7 : decode cX11_isTwice 7 = .ok (.iload_n 2, 1) := by decide +kernel
theorem dX11_isTwice_8 : decode cX11_isTwice 8 = .ok (.if_icmp .ge 41, 3) := by decide +kernel
theorem dX11_isTwice_11 : decode cX11_isTwice 11 = .ok (.aload_n 0, 1) := by decide +kernel
theorem dX11_isTwice_12 : decode cX11_isTwice 12 = .ok (.getfield 16, 3) := by decide +kernel
theorem dX11_isTwice_15 : decode cX11_isTwice 15 = .ok (.iload_n 1, 1) := by decide +kernel
theorem dX11_isTwice_16 : decode cX11_isTwice 16 = .ok (.iconst 2, 1) := by decide +kernel
theorem dX11_isTwice_17 : decode cX11_isTwice 17 = .ok (.iload 4, 2) := by decide +kernel
theorem dX11_isTwice_19 : decode cX11_isTwice 19 = .ok (.imul, 1) := by decide +kernel
theorem dX11_isTwice_20 : decode cX11_isTwice 20 = .ok (.iadd, 1) := by decide +kernel
theorem dX11_isTwice_21 : decode cX11_isTwice 21 = .ok (.iaload, 1) := by decide +kernel
theorem dX11_isTwice_22 : decode cX11_isTwice 22 = .ok (.istore 5, 2) := by decide +kernel
theorem dX11_isTwice_24 : decode cX11_isTwice 24 = .ok (.iload_n 3, 1) := by decide +kernel
theorem dX11_isTwice_25 : decode cX11_isTwice 25 = .ok (.iload 5, 2) := by decide +kernel
theorem dX11_isTwice_27 : decode cX11_isTwice 27 = .ok (.ishr, 1) := by decide +kernel
theorem dX11_isTwice_28 : decode cX11_isTwice 28 = .ok (.iconst 1, 1) := by decide +kernel
theorem dX11_isTwice_29 : decode cX11_isTwice 29 = .ok (.iand, 1) := by decide +kernel
theorem dX11_isTwice_30 : decode cX11_isTwice 30 = .ok (.iconst 1, 1) := by decide +kernel
theorem dX11_isTwice_31 : decode cX11_isTwice 31 = .ok (.if_icmp .ne 5, 3) := by decide +kernel
theorem dX11_isTwice_34 : decode cX11_isTwice 34 = .ok (.iconst 1, 1) := by decide +kernel
theorem dX11_isTwice_35 : decode cX11_isTwice 35 = .ok (.ireturn, 1) := by decide +kernel
theorem dX11_isTwice_36 : decode cX11_isTwice 36 = .ok (.iload_n 3, 1) := by decide +kernel
theorem dX11_isTwice_37 : decode cX11_isTwice 37 = .ok (.iconst 1, 1) := by decide +kernel
theorem dX11_isTwice_38 : decode cX11_isTwice 38 = .ok (.iload 5, 2) := by decide +kernel
theorem dX11_isTwice_40 : decode cX11_isTwice 40 = .ok (.ishl, 1) := by decide +kernel
theorem dX11_isTwice_41 : decode cX11_isTwice 41 = .ok (.ior, 1) := by decide +kernel
theorem dX11_isTwice_42 : decode cX11_isTwice 42 = .ok (.istore_n 3, 1) := by decide +kernel
theorem dX11_isTwice_43 : decode cX11_isTwice 43 = .ok (.iinc 4 1, 3) := by decide +kernel
theorem dX11_isTwice_46 : decode cX11_isTwice 46 = .ok (.goto (-41), 3) := by decide +kernel
theorem dX11_isTwice_49 : decode cX11_isTwice 49 = .ok (.iconst 0, 1) := by decide +kernel
theorem dX11_isTwice_50 : decode cX11_isTwice 50 = .ok (.ireturn, 1) := by decide +kernel
set_option maxRecDepth 20000 in
theorem ggX11_cue_X11_isSheet : GoodIn wsX11_cue wsX11_isSheet := goodIn_r _ [8, 9, 10, 7, 11] (by decide +kernel) (by decide +kernel)
set_option maxRecDepth 20000 in
theorem gX11_cue_X11_isSheet : GoodIn wsX11_cue (va_wsS RX11 93 yX11_isSheet wsX11_isSheet) := goodIn_app (goodIn_of _ (by decide +kernel)) ggX11_cue_X11_isSheet
set_option maxRecDepth 20000 in
theorem ggX11_cue_X11_isSort : GoodIn wsX11_cue wsX11_isSort := goodIn_r _ [14, 9, 10, 7, 11] (by decide +kernel) (by decide +kernel)
set_option maxRecDepth 20000 in
theorem gX11_cue_X11_isSort : GoodIn wsX11_cue (va_wsS RX11 97 yX11_isSort wsX11_isSort) := goodIn_app (goodIn_of _ (by decide +kernel)) ggX11_cue_X11_isSort
set_option maxRecDepth 20000 in
theorem ggX11_cue_X11_within : GoodIn wsX11_cue wsX11_within := goodIn_r _ [11] (by decide +kernel) (by decide +kernel)
set_option maxRecDepth 20000 in
theorem gX11_cue_X11_within : GoodIn wsX11_cue (va_wsS RX11 83 yX11_within wsX11_within) := goodIn_app (goodIn_of _ (by decide +kernel)) ggX11_cue_X11_within
set_option maxRecDepth 20000 in
theorem ggX11_cue_X11_against : GoodIn wsX11_cue wsX11_against := goodIn_r _ [18, 19, 20, 88, 89, 90, 91, 92, 93, 94, 95, 96, 97, 98, 99, 100, 101, 102, 103, 104, 105, 106, 107, 108, 109, 110, 111, 112, 113, 114, 115, 116, 117, 118, 119, 120, 121, 122, 123, 124, 125, 126] (by decide +kernel) (by decide +kernel)
set_option maxRecDepth 20000 in
theorem gX11_cue_X11_against : GoodIn wsX11_cue (wsV RX11 100 RX11 yX11_against wsX11_against) := goodIn_app (goodIn_of _ (by decide +kernel)) ggX11_cue_X11_against
set_option maxRecDepth 20000 in
theorem ggX11_cue_X11_fails : GoodIn wsX11_cue wsX11_fails := goodIn_r _ [24, 1, 88, 89, 90, 91, 92, 93, 94, 95, 96, 97, 98, 99, 100, 101, 102, 103, 104, 105, 106, 107, 108, 109, 110, 111, 112, 113, 114, 115, 116, 117, 118, 119, 120, 121, 122, 123, 124, 125, 126] (by decide +kernel) (by decide +kernel)
set_option maxRecDepth 20000 in
theorem gX11_cue_X11_fails : GoodIn wsX11_cue (wsV RX11 104 RX11 yX11_fails wsX11_fails) := goodIn_app (goodIn_of _ (by decide +kernel)) ggX11_cue_X11_fails
set_option maxRecDepth 20000 in
theorem ggX11_cue_X11_refusesPairs : GoodIn wsX11_cue wsX11_refusesPairs := goodIn_r _ [28, 4, 29, 30, 31, 7, 32, 2, 33, 34, 35, 9, 10, 11, 88, 89, 90, 91, 92, 93, 94, 95, 96, 97, 98, 99, 100, 101, 102, 103, 104, 105, 106, 107, 108, 109, 110, 111, 112, 113, 114, 115, 116, 117, 118, 119, 120, 121, 122, 123, 124, 125, 126] (by decide +kernel) (by decide +kernel)
set_option maxRecDepth 20000 in
theorem gX11_cue_X11_refusesPairs : GoodIn wsX11_cue (wsV RX11 194 RX11 yX11_refusesPairs wsX11_refusesPairs) := goodIn_app (goodIn_of _ (by decide +kernel)) ggX11_cue_X11_refusesPairs
set_option maxRecDepth 20000 in
theorem ggX11_cue_X11_isTwice : GoodIn wsX11_cue wsX11_isTwice := goodIn_r _ [39, 4, 88, 89, 90, 91, 92, 93, 94, 95, 96, 97, 98, 99, 100, 101, 102, 103, 104, 105, 106, 107, 108, 109, 110, 111, 112, 113, 114, 115, 116, 117, 118, 119, 120, 121, 122, 123, 124, 125, 126] (by decide +kernel) (by decide +kernel)
set_option maxRecDepth 20000 in
theorem gX11_cue_X11_isTwice : GoodIn wsX11_cue (wsV RX11 197 RX11 yX11_isTwice wsX11_isTwice) := goodIn_app (goodIn_of _ (by decide +kernel)) ggX11_cue_X11_isTwice
set_option maxRecDepth 20000 in
theorem ggX11_cue_X11_goalsAsNow : GoodIn wsX11_cue wsX11_goalsAsNow := goodIn_r _ [43, 2, 3, 44, 88, 89, 90, 91, 92, 93, 94, 95, 96, 97, 98, 99, 100, 101, 102, 103, 104, 105, 106, 107, 108, 109, 110, 111, 112, 113, 114, 115, 116, 117, 118, 119, 120, 121, 122, 123, 124, 125, 126] (by decide +kernel) (by decide +kernel)
set_option maxRecDepth 20000 in
theorem gX11_cue_X11_goalsAsNow : GoodIn wsX11_cue (wsV RX11 188 RX11 yX11_goalsAsNow wsX11_goalsAsNow) := goodIn_app (goodIn_of _ (by decide +kernel)) ggX11_cue_X11_goalsAsNow
set_option maxRecDepth 20000 in
theorem ggX11_cue_X11_doCue : GoodIn wsX11_cue wsX11_doCue := goodIn_r _ [48, 49, 50, 51, 7, 52, 2, 3, 44, 53, 54, 55, 56, 57, 58, 59, 60, 61, 62, 63, 64, 65, 66, 67, 68, 69, 70, 71, 72, 73, 74, 75, 76, 77, 78, 79, 80, 81, 82, 83, 84, 85, 86, 87, 88, 89, 90, 91, 92, 93, 94, 95, 96, 97, 98, 99, 100, 101, 102, 103, 104, 105, 106, 107, 108, 109, 110, 111, 112, 113, 114, 115, 116, 117, 118, 119, 120, 121, 122, 123, 124, 125, 126] (by decide +kernel) (by decide +kernel)
set_option maxRecDepth 20000 in
theorem gX11_cue_X11_doCue : GoodIn wsX11_cue (wsV RX11 191 RX11 yX11_doCue wsX11_doCue) := goodIn_app (goodIn_of _ (by decide +kernel)) ggX11_cue_X11_doCue
theorem dX11_cue_0 : decode cX11_cue 0 = .ok (.aload_n 0, 1) := by decide +kernel
theorem dX11_cue_1 : decode cX11_cue 1 = .ok (.iconst 0, 1) := by decide +kernel
theorem dX11_cue_2 : decode cX11_cue 2 = .ok (.putfield 77, 3) := by decide +kernel
theorem dX11_cue_5 : decode cX11_cue 5 = .ok (.iload_n 1, 1) := by decide +kernel
theorem dX11_cue_6 : decode cX11_cue 6 = .ok (.invokestatic 93, 3) := by decide +kernel
theorem dX11_cue_9 : decode cX11_cue 9 = .ok (.ifCond .ne 5, 3) := by decide +kernel
theorem dX11_cue_12 : decode cX11_cue 12 = .ok (.iconst (-1), 1) := by decide +kernel
theorem dX11_cue_13 : decode cX11_cue 13 = .ok (.ireturn, 1) := by decide +kernel
theorem dX11_cue_14 : decode cX11_cue 14 = .ok (.iload_n 2, 1) := by decide +kernel
theorem dX11_cue_15 : decode cX11_cue 15 = .ok (.invokestatic 97, 3) := by decide +kernel
theorem dX11_cue_18 : decode cX11_cue 18 = .ok (.ifCond .eq 14, 3) := by decide +kernel
theorem dX11_cue_21 : decode cX11_cue 21 = .ok (.iload 4, 2) := by decide +kernel
theorem dX11_cue_23 : decode cX11_cue 23 = .ok (.iconst 0, 1) := by decide +kernel
theorem dX11_cue_24 : decode cX11_cue 24 = .ok (.bipush 8, 2) := by decide +kernel
theorem dX11_cue_26 : decode cX11_cue 26 = .ok (.invokestatic 83, 3) := by decide +kernel
theorem dX11_cue_29 : decode cX11_cue 29 = .ok (.ifCond .ne 6, 3) := by decide +kernel
theorem dX11_cue_32 : decode cX11_cue 32 = .ok (.bipush (-2), 2) := by decide +kernel
theorem dX11_cue_34 : decode cX11_cue 34 = .ok (.ireturn, 1) := by decide +kernel
theorem dX11_cue_35 : decode cX11_cue 35 = .ok (.aload_n 0, 1) := by decide +kernel
theorem dX11_cue_36 : decode cX11_cue 36 = .ok (.iload_n 1, 1) := by decide +kernel
theorem dX11_cue_37 : decode cX11_cue 37 = .ok (.iload_n 2, 1) := by decide +kernel
theorem dX11_cue_38 : decode cX11_cue 38 = .ok (.iload_n 3, 1) := by decide +kernel
theorem dX11_cue_39 : decode cX11_cue 39 = .ok (.iconst 2, 1) := by decide +kernel
theorem dX11_cue_40 : decode cX11_cue 40 = .ok (.iload 4, 2) := by decide +kernel
theorem dX11_cue_42 : decode cX11_cue 42 = .ok (.imul, 1) := by decide +kernel
theorem dX11_cue_43 : decode cX11_cue 43 = .ok (.invokevirtual 100, 3) := by decide +kernel
theorem dX11_cue_46 : decode cX11_cue 46 = .ok (.istore 5, 2) := by decide +kernel
theorem dX11_cue_48 : decode cX11_cue 48 = .ok (.iload 5, 2) := by decide +kernel
theorem dX11_cue_50 : decode cX11_cue 50 = .ok (.ifCond .eq 10, 3) := by decide +kernel
theorem dX11_cue_53 : decode cX11_cue 53 = .ok (.aload_n 0, 1) := by decide +kernel
theorem dX11_cue_54 : decode cX11_cue 54 = .ok (.iload 5, 2) := by decide +kernel
theorem dX11_cue_56 : decode cX11_cue 56 = .ok (.invokevirtual 104, 3) := by decide +kernel
theorem dX11_cue_59 : decode cX11_cue 59 = .ok (.ireturn, 1) := by decide +kernel
theorem dX11_cue_60 : decode cX11_cue 60 = .ok (.aload_n 0, 1) := by decide +kernel
theorem dX11_cue_61 : decode cX11_cue 61 = .ok (.getfield 87, 3) := by decide +kernel
theorem dX11_cue_64 : decode cX11_cue 64 = .ok (.ifCond .ne 6, 3) := by decide +kernel
theorem dX11_cue_67 : decode cX11_cue 67 = .ok (.bipush (-3), 2) := by decide +kernel
theorem dX11_cue_69 : decode cX11_cue 69 = .ok (.ireturn, 1) := by decide +kernel
theorem dX11_cue_70 : decode cX11_cue 70 = .ok (.bipush 60, 2) := by decide +kernel
theorem dX11_cue_72 : decode cX11_cue 72 = .ok (.iload_n 1, 1) := by decide +kernel
theorem dX11_cue_73 : decode cX11_cue 73 = .ok (.imul, 1) := by decide +kernel
theorem dX11_cue_74 : decode cX11_cue 74 = .ok (.iload_n 3, 1) := by decide +kernel
theorem dX11_cue_75 : decode cX11_cue 75 = .ok (.iadd, 1) := by decide +kernel
theorem dX11_cue_76 : decode cX11_cue 76 = .ok (.istore 6, 2) := by decide +kernel
theorem dX11_cue_78 : decode cX11_cue 78 = .ok (.aload_n 0, 1) := by decide +kernel
theorem dX11_cue_79 : decode cX11_cue 79 = .ok (.iload 6, 2) := by decide +kernel
theorem dX11_cue_81 : decode cX11_cue 81 = .ok (.iload 4, 2) := by decide +kernel
theorem dX11_cue_83 : decode cX11_cue 83 = .ok (.invokevirtual 194, 3) := by decide +kernel
theorem dX11_cue_86 : decode cX11_cue 86 = .ok (.istore 7, 2) := by decide +kernel
theorem dX11_cue_88 : decode cX11_cue 88 = .ok (.iload 7, 2) := by decide +kernel
theorem dX11_cue_90 : decode cX11_cue 90 = .ok (.ifCond .eq 6, 3) := by decide +kernel
theorem dX11_cue_93 : decode cX11_cue 93 = .ok (.iload 7, 2) := by decide +kernel
theorem dX11_cue_95 : decode cX11_cue 95 = .ok (.ireturn, 1) := by decide +kernel
theorem dX11_cue_96 : decode cX11_cue 96 = .ok (.aload_n 0, 1) := by decide +kernel
theorem dX11_cue_97 : decode cX11_cue 97 = .ok (.iload 6, 2) := by decide +kernel
theorem dX11_cue_99 : decode cX11_cue 99 = .ok (.iload 4, 2) := by decide +kernel
theorem dX11_cue_101 : decode cX11_cue 101 = .ok (.invokevirtual 197, 3) := by decide +kernel
theorem dX11_cue_104 : decode cX11_cue 104 = .ok (.ifCond .eq 6, 3) := by decide +kernel
theorem dX11_cue_107 : decode cX11_cue 107 = .ok (.bipush (-3), 2) := by decide +kernel
theorem dX11_cue_109 : decode cX11_cue 109 = .ok (.ireturn, 1) := by decide +kernel
theorem dX11_cue_110 : decode cX11_cue 110 = .ok (.aload_n 0, 1) := by decide +kernel
theorem dX11_cue_111 : decode cX11_cue 111 = .ok (.invokevirtual 188, 3) := by decide +kernel
theorem dX11_cue_114 : decode cX11_cue 114 = .ok (.iconst 0, 1) := by decide +kernel
theorem dX11_cue_115 : decode cX11_cue 115 = .ok (.istore 8, 2) := by decide +kernel
theorem dX11_cue_117 : decode cX11_cue 117 = .ok (.iload 8, 2) := by decide +kernel
theorem dX11_cue_119 : decode cX11_cue 119 = .ok (.iload 4, 2) := by decide +kernel
theorem dX11_cue_121 : decode cX11_cue 121 = .ok (.if_icmp .ge 40, 3) := by decide +kernel
theorem dX11_cue_124 : decode cX11_cue 124 = .ok (.aload_n 0, 1) := by decide +kernel
theorem dX11_cue_125 : decode cX11_cue 125 = .ok (.getfield 37, 3) := by decide +kernel
theorem dX11_cue_128 : decode cX11_cue 128 = .ok (.aload_n 0, 1) := by decide +kernel
theorem dX11_cue_129 : decode cX11_cue 129 = .ok (.getfield 16, 3) := by decide +kernel
theorem dX11_cue_132 : decode cX11_cue 132 = .ok (.iload 6, 2) := by decide +kernel
theorem dX11_cue_134 : decode cX11_cue 134 = .ok (.iconst 2, 1) := by decide +kernel
theorem dX11_cue_135 : decode cX11_cue 135 = .ok (.iload 8, 2) := by decide +kernel
theorem dX11_cue_137 : decode cX11_cue 137 = .ok (.imul, 1) := by decide +kernel
theorem dX11_cue_138 : decode cX11_cue 138 = .ok (.iadd, 1) := by decide +kernel
theorem dX11_cue_139 : decode cX11_cue 139 = .ok (.iaload, 1) := by decide +kernel
theorem dX11_cue_140 : decode cX11_cue 140 = .ok (.aload_n 0, 1) := by decide +kernel
theorem dX11_cue_141 : decode cX11_cue 141 = .ok (.getfield 16, 3) := by decide +kernel
theorem dX11_cue_144 : decode cX11_cue 144 = .ok (.iload 6, 2) := by decide +kernel
theorem dX11_cue_146 : decode cX11_cue 146 = .ok (.iconst 2, 1) := by decide +kernel
theorem dX11_cue_147 : decode cX11_cue 147 = .ok (.iload 8, 2) := by decide +kernel
theorem dX11_cue_149 : decode cX11_cue 149 = .ok (.imul, 1) := by decide +kernel
theorem dX11_cue_150 : decode cX11_cue 150 = .ok (.iadd, 1) := by decide +kernel
theorem dX11_cue_151 : decode cX11_cue 151 = .ok (.iconst 1, 1) := by decide +kernel
theorem dX11_cue_152 : decode cX11_cue 152 = .ok (.iadd, 1) := by decide +kernel
theorem dX11_cue_153 : decode cX11_cue 153 = .ok (.iaload, 1) := by decide +kernel
theorem dX11_cue_154 : decode cX11_cue 154 = .ok (.iastore, 1) := by decide +kernel
theorem dX11_cue_155 : decode cX11_cue 155 = .ok (.iinc 8 1, 3) := by decide +kernel
theorem dX11_cue_158 : decode cX11_cue 158 = .ok (.goto (-41), 3) := by decide +kernel
theorem dX11_cue_161 : decode cX11_cue 161 = .ok (.aload_n 0, 1) := by decide +kernel
theorem dX11_cue_162 : decode cX11_cue 162 = .ok (.invokevirtual 191, 3) := by decide +kernel
theorem dX11_cue_165 : decode cX11_cue 165 = .ok (.ireturn, 1) := by decide +kernel
theorem dX11_runsAway_0 : decode cX11_runsAway 0 = .ok (.aload_n 0, 1) := by decide +kernel
theorem dX11_runsAway_1 : decode cX11_runsAway 1 = .ok (.getfield 25, 3) := by decide +kernel
theorem dX11_runsAway_4 : decode cX11_runsAway 4 = .ok (.iload_n 1, 1) := by decide +kernel
theorem dX11_runsAway_5 : decode cX11_runsAway 5 = .ok (.iaload, 1) := by decide +kernel
theorem dX11_runsAway_6 : decode cX11_runsAway 6 = .ok (.aload_n 0, 1) := by decide +kernel
theorem dX11_runsAway_7 : decode cX11_runsAway 7 = .ok (.getfield 22, 3) := by decide +kernel
theorem dX11_runsAway_10 : decode cX11_runsAway 10 = .ok (.iload_n 1, 1) := by decide +kernel
theorem dX11_runsAway_11 : decode cX11_runsAway 11 = .ok (.iaload, 1) := by decide +kernel
theorem dX11_runsAway_12 : decode cX11_runsAway 12 = .ok (.isub, 1) := by decide +kernel
theorem dX11_runsAway_13 : decode cX11_runsAway 13 = .ok (.aload_n 0, 1) := by decide +kernel
theorem dX11_runsAway_14 : decode cX11_runsAway 14 = .ok (.getfield 117, 3) := by decide +kernel
theorem dX11_runsAway_17 : decode cX11_runsAway 17 = .ok (.if_icmp .gt 5, 3) := by decide +kernel
theorem dX11_runsAway_20 : decode cX11_runsAway 20 = .ok (.iconst 0, 1) := by decide +kernel
theorem dX11_runsAway_21 : decode cX11_runsAway 21 = .ok (.ireturn, 1) := by decide +kernel
theorem dX11_runsAway_22 : decode cX11_runsAway 22 = .ok (.aload_n 0, 1) := by decide +kernel
theorem dX11_runsAway_23 : decode cX11_runsAway 23 = .ok (.getfield 28, 3) := by decide +kernel
theorem dX11_runsAway_26 : decode cX11_runsAway 26 = .ok (.iload_n 1, 1) := by decide +kernel
theorem dX11_runsAway_27 : decode cX11_runsAway 27 = .ok (.bipush 9, 2) := by decide +kernel
theorem dX11_runsAway_29 : decode cX11_runsAway 29 = .ok (.iastore, 1) := by decide +kernel
theorem dX11_runsAway_30 : decode cX11_runsAway 30 = .ok (.iconst 1, 1) := by decide +kernel
theorem dX11_runsAway_31 : decode cX11_runsAway 31 = .ok (.ireturn, 1) := by decide +kernel
set_option maxRecDepth 20000 in
theorem ggX11_hang_X11_isBatten : GoodIn wsX11_hang wsX11_isBatten := goodIn_r _ [7, 8, 32, 33, 34, 35, 36, 37, 38, 39, 40, 41, 42, 43, 44, 45, 46, 47, 48, 49, 50, 51, 52, 53, 54, 55, 56, 57, 58, 59, 60, 61, 62, 63, 64, 65, 66, 67, 68, 69, 70] (by decide +kernel) (by decide +kernel)
set_option maxRecDepth 20000 in
theorem gX11_hang_X11_isBatten : GoodIn wsX11_hang (wsV RX11 152 RX11 yX11_isBatten wsX11_isBatten) := goodIn_app (goodIn_of _ (by decide +kernel)) ggX11_hang_X11_isBatten
set_option maxRecDepth 20000 in
theorem ggX11_hang_X11_isDigit : GoodIn wsX11_hang wsX11_isDigit := goodIn_r _ [11, 12, 13, 6, 14] (by decide +kernel) (by decide +kernel)
set_option maxRecDepth 20000 in
theorem gX11_hang_X11_isDigit : GoodIn wsX11_hang (va_wsS RX11 185 yX11_isDigit wsX11_isDigit) := goodIn_app (goodIn_of _ (by decide +kernel)) ggX11_hang_X11_isDigit
set_option maxRecDepth 20000 in
theorem ggX11_hang_X11_remember : GoodIn wsX11_hang wsX11_remember := goodIn_r _ [18, 19, 20, 21, 22, 23, 6, 24, 1, 2, 25, 26, 32, 33, 34, 35, 36, 37, 38, 39, 40, 41, 42, 43, 44, 45, 46, 47, 48, 49, 50, 51, 52, 53, 54, 55, 56, 57, 58, 59, 60, 61, 62, 63, 64, 65, 66, 67, 68, 69, 70] (by decide +kernel) (by decide +kernel)
set_option maxRecDepth 20000 in
theorem gX11_hang_X11_remember : GoodIn wsX11_hang (wsV RX11 179 RX11 yX11_remember wsX11_remember) := goodIn_app (goodIn_of _ (by decide +kernel)) ggX11_hang_X11_remember
set_option maxRecDepth 20000 in
theorem ggX11_hang_X11_runsAway : GoodIn wsX11_hang wsX11_runsAway := goodIn_r _ [30, 25, 2, 31, 1, 32, 33, 34, 35, 36, 37, 38, 39, 40, 41, 42, 43, 44, 45, 46, 47, 48, 49, 50, 51, 52, 53, 54, 55, 56, 57, 58, 59, 60, 61, 62, 63, 64, 65, 66, 67, 68, 69, 70] (by decide +kernel) (by decide +kernel)
set_option maxRecDepth 20000 in
theorem gX11_hang_X11_runsAway : GoodIn wsX11_hang (wsV RX11 200 RX11 yX11_runsAway wsX11_runsAway) := goodIn_app (goodIn_of _ (by decide +kernel)) ggX11_hang_X11_runsAway
theorem dX11_hang_0 : decode cX11_hang 0 = .ok (.aload_n 0, 1) := by decide +kernel
theorem dX11_hang_1 : decode cX11_hang 1 = .ok (.iload_n 1, 1) := by decide +kernel
theorem dX11_hang_2 : decode cX11_hang 2 = .ok (.invokevirtual 152, 3) := by decide +kernel
theorem dX11_hang_5 : decode cX11_hang 5 = .ok (.ifCond .ne 5, 3) := by decide +kernel
theorem dX11_hang_8 : decode cX11_hang 8 = .ok (.iconst (-1), 1) := by decide +kernel
theorem dX11_hang_9 : decode cX11_hang 9 = .ok (.ireturn, 1) := by decide +kernel
theorem dX11_hang_10 : decode cX11_hang 10 = .ok (.iload_n 2, 1) := by decide +kernel
theorem dX11_hang_11 : decode cX11_hang 11 = .ok (.invokestatic 185, 3) := by decide +kernel
theorem dX11_hang_14 : decode cX11_hang 14 = .ok (.ifCond .ne 6, 3) := by decide +kernel
theorem dX11_hang_17 : decode cX11_hang 17 = .ok (.bipush (-2), 2) := by decide +kernel
theorem dX11_hang_19 : decode cX11_hang 19 = .ok (.ireturn, 1) := by decide +kernel
theorem dX11_hang_20 : decode cX11_hang 20 = .ok (.aload_n 0, 1) := by decide +kernel
theorem dX11_hang_21 : decode cX11_hang 21 = .ok (.getfield 28, 3) := by decide +kernel
theorem dX11_hang_24 : decode cX11_hang 24 = .ok (.iload_n 1, 1) := by decide +kernel
theorem dX11_hang_25 : decode cX11_hang 25 = .ok (.iaload, 1) := by decide +kernel
theorem dX11_hang_26 : decode cX11_hang 26 = .ok (.ifCond .eq 6, 3) := by decide +kernel
theorem dX11_hang_29 : decode cX11_hang 29 = .ok (.bipush (-3), 2) := by decide +kernel
theorem dX11_hang_31 : decode cX11_hang 31 = .ok (.ireturn, 1) := by decide +kernel
theorem dX11_hang_32 : decode cX11_hang 32 = .ok (.aload_n 0, 1) := by decide +kernel
theorem dX11_hang_33 : decode cX11_hang 33 = .ok (.invokevirtual 179, 3) := by decide +kernel
theorem dX11_hang_36 : decode cX11_hang 36 = .ok (.aload_n 0, 1) := by decide +kernel
theorem dX11_hang_37 : decode cX11_hang 37 = .ok (.getfield 22, 3) := by decide +kernel
theorem dX11_hang_40 : decode cX11_hang 40 = .ok (.iload_n 1, 1) := by decide +kernel
theorem dX11_hang_41 : decode cX11_hang 41 = .ok (.iload_n 2, 1) := by decide +kernel
theorem dX11_hang_42 : decode cX11_hang 42 = .ok (.iastore, 1) := by decide +kernel
theorem dX11_hang_43 : decode cX11_hang 43 = .ok (.aload_n 0, 1) := by decide +kernel
theorem dX11_hang_44 : decode cX11_hang 44 = .ok (.iload_n 1, 1) := by decide +kernel
theorem dX11_hang_45 : decode cX11_hang 45 = .ok (.invokevirtual 200, 3) := by decide +kernel
theorem dX11_hang_48 : decode cX11_hang 48 = .ok (.ireturn, 1) := by decide +kernel
set_option maxRecDepth 20000 in
theorem ggX11_brick_X11_isBatten : GoodIn wsX11_brick wsX11_isBatten := goodIn_r _ [8, 9, 32, 33, 34, 35, 36, 37, 38, 39, 40, 41, 42, 43, 44, 45, 46, 47, 48, 49, 50, 51, 52, 53, 54, 55, 56, 57, 58, 59, 60, 61, 62, 63, 64, 65, 66, 67, 68, 69, 70] (by decide +kernel) (by decide +kernel)
set_option maxRecDepth 20000 in
theorem gX11_brick_X11_isBatten : GoodIn wsX11_brick (wsV RX11 152 RX11 yX11_isBatten wsX11_isBatten) := goodIn_app (goodIn_of _ (by decide +kernel)) ggX11_brick_X11_isBatten
set_option maxRecDepth 20000 in
theorem ggX11_brick_X11_isDigit : GoodIn wsX11_brick wsX11_isDigit := goodIn_r _ [12, 13, 14, 7, 15] (by decide +kernel) (by decide +kernel)
set_option maxRecDepth 20000 in
theorem gX11_brick_X11_isDigit : GoodIn wsX11_brick (va_wsS RX11 185 yX11_isDigit wsX11_isDigit) := goodIn_app (goodIn_of _ (by decide +kernel)) ggX11_brick_X11_isDigit
set_option maxRecDepth 20000 in
theorem ggX11_brick_X11_remember : GoodIn wsX11_brick wsX11_remember := goodIn_r _ [19, 20, 21, 22, 23, 24, 7, 25, 1, 26, 2, 3, 32, 33, 34, 35, 36, 37, 38, 39, 40, 41, 42, 43, 44, 45, 46, 47, 48, 49, 50, 51, 52, 53, 54, 55, 56, 57, 58, 59, 60, 61, 62, 63, 64, 65, 66, 67, 68, 69, 70] (by decide +kernel) (by decide +kernel)
set_option maxRecDepth 20000 in
theorem gX11_brick_X11_remember : GoodIn wsX11_brick (wsV RX11 179 RX11 yX11_remember wsX11_remember) := goodIn_app (goodIn_of _ (by decide +kernel)) ggX11_brick_X11_remember
set_option maxRecDepth 20000 in
theorem ggX11_brick_X11_runsAway : GoodIn wsX11_brick wsX11_runsAway := goodIn_r _ [30, 2, 26, 31, 1, 32, 33, 34, 35, 36, 37, 38, 39, 40, 41, 42, 43, 44, 45, 46, 47, 48, 49, 50, 51, 52, 53, 54, 55, 56, 57, 58, 59, 60, 61, 62, 63, 64, 65, 66, 67, 68, 69, 70] (by decide +kernel) (by decide +kernel)
set_option maxRecDepth 20000 in
theorem gX11_brick_X11_runsAway : GoodIn wsX11_brick (wsV RX11 200 RX11 yX11_runsAway wsX11_runsAway) := goodIn_app (goodIn_of _ (by decide +kernel)) ggX11_brick_X11_runsAway
theorem dX11_brick_0 : decode cX11_brick 0 = .ok (.aload_n 0, 1) := by decide +kernel
theorem dX11_brick_1 : decode cX11_brick 1 = .ok (.iload_n 1, 1) := by decide +kernel
theorem dX11_brick_2 : decode cX11_brick 2 = .ok (.invokevirtual 152, 3) := by decide +kernel
theorem dX11_brick_5 : decode cX11_brick 5 = .ok (.ifCond .ne 5, 3) := by decide +kernel
theorem dX11_brick_8 : decode cX11_brick 8 = .ok (.iconst (-1), 1) := by decide +kernel
theorem dX11_brick_9 : decode cX11_brick 9 = .ok (.ireturn, 1) := by decide +kernel
theorem dX11_brick_10 : decode cX11_brick 10 = .ok (.iload_n 2, 1) := by decide +kernel
theorem dX11_brick_11 : decode cX11_brick 11 = .ok (.invokestatic 185, 3) := by decide +kernel
theorem dX11_brick_14 : decode cX11_brick 14 = .ok (.ifCond .ne 6, 3) := by decide +kernel
theorem dX11_brick_17 : decode cX11_brick 17 = .ok (.bipush (-2), 2) := by decide +kernel
theorem dX11_brick_19 : decode cX11_brick 19 = .ok (.ireturn, 1) := by decide +kernel
theorem dX11_brick_20 : decode cX11_brick 20 = .ok (.aload_n 0, 1) := by decide +kernel
theorem dX11_brick_21 : decode cX11_brick 21 = .ok (.getfield 28, 3) := by decide +kernel
theorem dX11_brick_24 : decode cX11_brick 24 = .ok (.iload_n 1, 1) := by decide +kernel
theorem dX11_brick_25 : decode cX11_brick 25 = .ok (.iaload, 1) := by decide +kernel
theorem dX11_brick_26 : decode cX11_brick 26 = .ok (.ifCond .ne 18, 3) := by decide +kernel
theorem dX11_brick_29 : decode cX11_brick 29 = .ok (.iload_n 2, 1) := by decide +kernel
theorem dX11_brick_30 : decode cX11_brick 30 = .ok (.aload_n 0, 1) := by decide +kernel
theorem dX11_brick_31 : decode cX11_brick 31 = .ok (.getfield 25, 3) := by decide +kernel
theorem dX11_brick_34 : decode cX11_brick 34 = .ok (.iload_n 1, 1) := by decide +kernel
theorem dX11_brick_35 : decode cX11_brick 35 = .ok (.iaload, 1) := by decide +kernel
theorem dX11_brick_36 : decode cX11_brick 36 = .ok (.isub, 1) := by decide +kernel
theorem dX11_brick_37 : decode cX11_brick 37 = .ok (.aload_n 0, 1) := by decide +kernel
theorem dX11_brick_38 : decode cX11_brick 38 = .ok (.getfield 129, 3) := by decide +kernel
theorem dX11_brick_41 : decode cX11_brick 41 = .ok (.if_icmp .le 6, 3) := by decide +kernel
theorem dX11_brick_44 : decode cX11_brick 44 = .ok (.bipush (-3), 2) := by decide +kernel
theorem dX11_brick_46 : decode cX11_brick 46 = .ok (.ireturn, 1) := by decide +kernel
theorem dX11_brick_47 : decode cX11_brick 47 = .ok (.aload_n 0, 1) := by decide +kernel
theorem dX11_brick_48 : decode cX11_brick 48 = .ok (.invokevirtual 179, 3) := by decide +kernel
theorem dX11_brick_51 : decode cX11_brick 51 = .ok (.aload_n 0, 1) := by decide +kernel
theorem dX11_brick_52 : decode cX11_brick 52 = .ok (.dup, 1) := by decide +kernel
theorem dX11_brick_53 : decode cX11_brick 53 = .ok (.getfield 129, 3) := by decide +kernel
theorem dX11_brick_56 : decode cX11_brick 56 = .ok (.aload_n 0, 1) := by decide +kernel
theorem dX11_brick_57 : decode cX11_brick 57 = .ok (.getfield 25, 3) := by decide +kernel
theorem dX11_brick_60 : decode cX11_brick 60 = .ok (.iload_n 1, 1) := by decide +kernel
theorem dX11_brick_61 : decode cX11_brick 61 = .ok (.iaload, 1) := by decide +kernel
theorem dX11_brick_62 : decode cX11_brick 62 = .ok (.iload_n 2, 1) := by decide +kernel
theorem dX11_brick_63 : decode cX11_brick 63 = .ok (.isub, 1) := by decide +kernel
theorem dX11_brick_64 : decode cX11_brick 64 = .ok (.iadd, 1) := by decide +kernel
theorem dX11_brick_65 : decode cX11_brick 65 = .ok (.putfield 129, 3) := by decide +kernel
theorem dX11_brick_68 : decode cX11_brick 68 = .ok (.aload_n 0, 1) := by decide +kernel
theorem dX11_brick_69 : decode cX11_brick 69 = .ok (.getfield 25, 3) := by decide +kernel
theorem dX11_brick_72 : decode cX11_brick 72 = .ok (.iload_n 1, 1) := by decide +kernel
theorem dX11_brick_73 : decode cX11_brick 73 = .ok (.iload_n 2, 1) := by decide +kernel
theorem dX11_brick_74 : decode cX11_brick 74 = .ok (.iastore, 1) := by decide +kernel
theorem dX11_brick_75 : decode cX11_brick 75 = .ok (.aload_n 0, 1) := by decide +kernel
theorem dX11_brick_76 : decode cX11_brick 76 = .ok (.iload_n 1, 1) := by decide +kernel
theorem dX11_brick_77 : decode cX11_brick 77 = .ok (.invokevirtual 200, 3) := by decide +kernel
theorem dX11_brick_80 : decode cX11_brick 80 = .ok (.ireturn, 1) := by decide +kernel
theorem dX11_write_0 : decode cX11_write 0 = .ok (.iconst 0, 1) := by decide +kernel
theorem dX11_write_1 : decode cX11_write 1 = .ok (.istore_n 3, 1) := by decide +kernel
theorem dX11_write_2 : decode cX11_write 2 = .ok (.iload_n 3, 1) := by decide +kernel
theorem dX11_write_3 : decode cX11_write 3 = .ok (.bipush 8, 2) := by decide +kernel
theorem dX11_write_5 : decode cX11_write 5 = .ok (.if_icmp .ge 48, 3) := by decide +kernel
theorem dX11_write_8 : decode cX11_write 8 = .ok (.aload_n 1, 1) := by decide +kernel
theorem dX11_write_9 : decode cX11_write 9 = .ok (.iload_n 2, 1) := by decide +kernel
theorem dX11_write_10 : decode cX11_write 10 = .ok (.iload_n 3, 1) := by decide +kernel
theorem dX11_write_11 : decode cX11_write 11 = .ok (.iadd, 1) := by decide +kernel
theorem dX11_write_12 : decode cX11_write 12 = .ok (.aload_n 0, 1) := by decide +kernel
theorem dX11_write_13 : decode cX11_write 13 = .ok (.getfield 28, 3) := by decide +kernel
theorem dX11_write_16 : decode cX11_write 16 = .ok (.iload_n 3, 1) := by decide +kernel
theorem dX11_write_17 : decode cX11_write 17 = .ok (.iaload, 1) := by decide +kernel
theorem dX11_write_18 : decode cX11_write 18 = .ok (.iastore, 1) := by decide +kernel
theorem dX11_write_19 : decode cX11_write 19 = .ok (.aload_n 1, 1) := by decide +kernel
theorem dX11_write_20 : decode cX11_write 20 = .ok (.iload_n 2, 1) := by decide +kernel
theorem dX11_write_21 : decode cX11_write 21 = .ok (.bipush 8, 2) := by decide +kernel
theorem dX11_write_23 : decode cX11_write 23 = .ok (.iadd, 1) := by decide +kernel
theorem dX11_write_24 : decode cX11_write 24 = .ok (.iload_n 3, 1) := by decide +kernel
theorem dX11_write_25 : decode cX11_write 25 = .ok (.iadd, 1) := by decide +kernel
theorem dX11_write_26 : decode cX11_write 26 = .ok (.aload_n 0, 1) := by decide +kernel
theorem dX11_write_27 : decode cX11_write 27 = .ok (.getfield 22, 3) := by decide +kernel
theorem dX11_write_30 : decode cX11_write 30 = .ok (.iload_n 3, 1) := by decide +kernel
theorem dX11_write_31 : decode cX11_write 31 = .ok (.iaload, 1) := by decide +kernel
theorem dX11_write_32 : decode cX11_write 32 = .ok (.iastore, 1) := by decide +kernel
theorem dX11_write_33 : decode cX11_write 33 = .ok (.aload_n 1, 1) := by decide +kernel
theorem dX11_write_34 : decode cX11_write 34 = .ok (.iload_n 2, 1) := by decide +kernel
theorem dX11_write_35 : decode cX11_write 35 = .ok (.bipush 16, 2) := by decide +kernel
theorem dX11_write_37 : decode cX11_write 37 = .ok (.iadd, 1) := by decide +kernel
theorem dX11_write_38 : decode cX11_write 38 = .ok (.iload_n 3, 1) := by decide +kernel
theorem dX11_write_39 : decode cX11_write 39 = .ok (.iadd, 1) := by decide +kernel
theorem dX11_write_40 : decode cX11_write 40 = .ok (.aload_n 0, 1) := by decide +kernel
theorem dX11_write_41 : decode cX11_write 41 = .ok (.getfield 25, 3) := by decide +kernel
theorem dX11_write_44 : decode cX11_write 44 = .ok (.iload_n 3, 1) := by decide +kernel
theorem dX11_write_45 : decode cX11_write 45 = .ok (.iaload, 1) := by decide +kernel
theorem dX11_write_46 : decode cX11_write 46 = .ok (.iastore, 1) := by decide +kernel
theorem dX11_write_47 : decode cX11_write 47 = .ok (.iinc 3 1, 3) := by decide +kernel
theorem dX11_write_50 : decode cX11_write 50 = .ok (.goto (-48), 3) := by decide +kernel
theorem dX11_write_53 : decode cX11_write 53 = .ok (.aload_n 1, 1) := by decide +kernel
theorem dX11_write_54 : decode cX11_write 54 = .ok (.iload_n 2, 1) := by decide +kernel
theorem dX11_write_55 : decode cX11_write 55 = .ok (.bipush 24, 2) := by decide +kernel
theorem dX11_write_57 : decode cX11_write 57 = .ok (.iadd, 1) := by decide +kernel
theorem dX11_write_58 : decode cX11_write 58 = .ok (.aload_n 0, 1) := by decide +kernel
theorem dX11_write_59 : decode cX11_write 59 = .ok (.getfield 129, 3) := by decide +kernel
theorem dX11_write_62 : decode cX11_write 62 = .ok (.iastore, 1) := by decide +kernel
theorem dX11_write_63 : decode cX11_write 63 = .ok (.return_, 1) := by decide +kernel
theorem dX11_readBack_0 : decode cX11_readBack 0 = .ok (.iconst 0, 1) := by decide +kernel
theorem dX11_readBack_1 : decode cX11_readBack 1 = .ok (.istore_n 3, 1) := by decide +kernel
theorem dX11_readBack_2 : decode cX11_readBack 2 = .ok (.iload_n 3, 1) := by decide +kernel
theorem dX11_readBack_3 : decode cX11_readBack 3 = .ok (.bipush 8, 2) := by decide +kernel
theorem dX11_readBack_5 : decode cX11_readBack 5 = .ok (.if_icmp .ge 48, 3) := by decide +kernel
theorem dX11_readBack_8 : decode cX11_readBack 8 = .ok (.aload_n 0, 1) := by decide +kernel
theorem dX11_readBack_9 : decode cX11_readBack 9 = .ok (.getfield 28, 3) := by decide +kernel
theorem dX11_readBack_12 : decode cX11_readBack 12 = .ok (.iload_n 3, 1) := by decide +kernel
theorem dX11_readBack_13 : decode cX11_readBack 13 = .ok (.aload_n 1, 1) := by decide +kernel
theorem dX11_readBack_14 : decode cX11_readBack 14 = .ok (.iload_n 2, 1) := by decide +kernel
theorem dX11_readBack_15 : decode cX11_readBack 15 = .ok (.iload_n 3, 1) := by decide +kernel
theorem dX11_readBack_16 : decode cX11_readBack 16 = .ok (.iadd, 1) := by decide +kernel
theorem dX11_readBack_17 : decode cX11_readBack 17 = .ok (.iaload, 1) := by decide +kernel
theorem dX11_readBack_18 : decode cX11_readBack 18 = .ok (.iastore, 1) := by decide +kernel
theorem dX11_readBack_19 : decode cX11_readBack 19 = .ok (.aload_n 0, 1) := by decide +kernel
theorem dX11_readBack_20 : decode cX11_readBack 20 = .ok (.getfield 22, 3) := by decide +kernel
theorem dX11_readBack_23 : decode cX11_readBack 23 = .ok (.iload_n 3, 1) := by decide +kernel
theorem dX11_readBack_24 : decode cX11_readBack 24 = .ok (.aload_n 1, 1) := by decide +kernel
theorem dX11_readBack_25 : decode cX11_readBack 25 = .ok (.iload_n 2, 1) := by decide +kernel
theorem dX11_readBack_26 : decode cX11_readBack 26 = .ok (.bipush 8, 2) := by decide +kernel
theorem dX11_readBack_28 : decode cX11_readBack 28 = .ok (.iadd, 1) := by decide +kernel
theorem dX11_readBack_29 : decode cX11_readBack 29 = .ok (.iload_n 3, 1) := by decide +kernel
theorem dX11_readBack_30 : decode cX11_readBack 30 = .ok (.iadd, 1) := by decide +kernel
theorem dX11_readBack_31 : decode cX11_readBack 31 = .ok (.iaload, 1) := by decide +kernel
theorem dX11_readBack_32 : decode cX11_readBack 32 = .ok (.iastore, 1) := by decide +kernel
theorem dX11_readBack_33 : decode cX11_readBack 33 = .ok (.aload_n 0, 1) := by decide +kernel
theorem dX11_readBack_34 : decode cX11_readBack 34 = .ok (.getfield 25, 3) := by decide +kernel
theorem dX11_readBack_37 : decode cX11_readBack 37 = .ok (.iload_n 3, 1) := by decide +kernel
theorem dX11_readBack_38 : decode cX11_readBack 38 = .ok (.aload_n 1, 1) := by decide +kernel
theorem dX11_readBack_39 : decode cX11_readBack 39 = .ok (.iload_n 2, 1) := by decide +kernel
theorem dX11_readBack_40 : decode cX11_readBack 40 = .ok (.bipush 16, 2) := by decide +kernel
theorem dX11_readBack_42 : decode cX11_readBack 42 = .ok (.iadd, 1) := by decide +kernel
theorem dX11_readBack_43 : decode cX11_readBack 43 = .ok (.iload_n 3, 1) := by decide +kernel
theorem dX11_readBack_44 : decode cX11_readBack 44 = .ok (.iadd, 1) := by decide +kernel
theorem dX11_readBack_45 : decode cX11_readBack 45 = .ok (.iaload, 1) := by decide +kernel
theorem dX11_readBack_46 : decode cX11_readBack 46 = .ok (.iastore, 1) := by decide +kernel
theorem dX11_readBack_47 : decode cX11_readBack 47 = .ok (.iinc 3 1, 3) := by decide +kernel
theorem dX11_readBack_50 : decode cX11_readBack 50 = .ok (.goto (-48), 3) := by decide +kernel
theorem dX11_readBack_53 : decode cX11_readBack 53 = .ok (.aload_n 0, 1) := by decide +kernel
theorem dX11_readBack_54 : decode cX11_readBack 54 = .ok (.aload_n 1, 1) := by decide +kernel
theorem dX11_readBack_55 : decode cX11_readBack 55 = .ok (.iload_n 2, 1) := by decide +kernel
theorem dX11_readBack_56 : decode cX11_readBack 56 = .ok (.bipush 24, 2) := by decide +kernel
theorem dX11_readBack_58 : decode cX11_readBack 58 = .ok (.iadd, 1) := by decide +kernel
theorem dX11_readBack_59 : decode cX11_readBack 59 = .ok (.iaload, 1) := by decide +kernel
theorem dX11_readBack_60 : decode cX11_readBack 60 = .ok (.putfield 129, 3) := by decide +kernel
theorem dX11_readBack_63 : decode cX11_readBack 63 = .ok (.return_, 1) := by decide +kernel
set_option maxRecDepth 20000 in
theorem ggX11_remember_X11_write : GoodIn wsX11_remember wsX11_write := goodIn_r _ [7, 8, 9, 10, 11, 12, 13, 14, 15, 16, 17, 18, 19, 20, 21, 22, 23, 24, 25, 26, 27, 28, 29, 30, 31, 32, 33, 34, 35, 36, 37, 38, 39, 40, 41, 42, 43, 44, 45, 46, 47, 48, 49, 50] (by decide +kernel) (by decide +kernel)
set_option maxRecDepth 20000 in
theorem gX11_remember_X11_write : GoodIn wsX11_remember (wsV RX11 203 RX11 yX11_write wsX11_write) := goodIn_app (goodIn_of _ (by decide +kernel)) ggX11_remember_X11_write
theorem dX11_remember_0 : decode cX11_remember 0 = .ok (.aload_n 0, 1) := by decide +kernel
theorem dX11_remember_1 : decode cX11_remember 1 = .ok (.getfield 135, 3) := by decide +kernel
theorem dX11_remember_4 : decode cX11_remember 4 = .ok (.bipush 8, 2) := by decide +kernel
theorem dX11_remember_6 : decode cX11_remember 6 = .ok (.if_icmp .ne 44, 3) := by decide +kernel
theorem dX11_remember_9 : decode cX11_remember 9 = .ok (.bipush 25, 2) := by decide +kernel
theorem dX11_remember_11 : decode cX11_remember 11 = .ok (.istore_n 1, 1) := by decide +kernel
theorem dX11_remember_12 : decode cX11_remember 12 = .ok (.iload_n 1, 1) := by decide +kernel
theorem dX11_remember_13 : decode cX11_remember 13 = .ok (.sipush 200, 3) := by decide +kernel
theorem dX11_remember_16 : decode cX11_remember 16 = .ok (.if_icmp .ge 24, 3) := by decide +kernel
theorem dX11_remember_19 : decode cX11_remember 19 = .ok (.aload_n 0, 1) := by decide +kernel
theorem dX11_remember_20 : decode cX11_remember 20 = .ok (.getfield 40, 3) := by decide +kernel
theorem dX11_remember_23 : decode cX11_remember 23 = .ok (.iload_n 1, 1) := by decide +kernel
theorem dX11_remember_24 : decode cX11_remember 24 = .ok (.bipush 25, 2) := by decide +kernel
theorem dX11_remember_26 : decode cX11_remember 26 = .ok (.isub, 1) := by decide +kernel
theorem dX11_remember_27 : decode cX11_remember 27 = .ok (.aload_n 0, 1) := by decide +kernel
theorem dX11_remember_28 : decode cX11_remember 28 = .ok (.getfield 40, 3) := by decide +kernel
theorem dX11_remember_31 : decode cX11_remember 31 = .ok (.iload_n 1, 1) := by decide +kernel
theorem dX11_remember_32 : decode cX11_remember 32 = .ok (.iaload, 1) := by decide +kernel
theorem dX11_remember_33 : decode cX11_remember 33 = .ok (.iastore, 1) := by decide +kernel
theorem dX11_remember_34 : decode cX11_remember 34 = .ok (.iinc 1 1, 3) := by decide +kernel
theorem dX11_remember_37 : decode cX11_remember 37 = .ok (.goto (-25), 3) := by decide +kernel
theorem dX11_remember_40 : decode cX11_remember 40 = .ok (.aload_n 0, 1) := by decide +kernel
theorem dX11_remember_41 : decode cX11_remember 41 = .ok (.dup, 1) := by decide +kernel
theorem dX11_remember_42 : decode cX11_remember 42 = .ok (.getfield 135, 3) := by decide +kernel
theorem dX11_remember_45 : decode cX11_remember 45 = .ok (.iconst 1, 1) := by decide +kernel
theorem dX11_remember_46 : decode cX11_remember 46 = .ok (.isub, 1) := by decide +kernel
theorem dX11_remember_47 : decode cX11_remember 47 = .ok (.putfield 135, 3) := by decide +kernel
theorem dX11_remember_50 : decode cX11_remember 50 = .ok (.aload_n 0, 1) := by decide +kernel
theorem dX11_remember_51 : decode cX11_remember 51 = .ok (.aload_n 0, 1) := by decide +kernel
theorem dX11_remember_52 : decode cX11_remember 52 = .ok (.getfield 40, 3) := by decide +kernel
theorem dX11_remember_55 : decode cX11_remember 55 = .ok (.bipush 25, 2) := by decide +kernel
theorem dX11_remember_57 : decode cX11_remember 57 = .ok (.aload_n 0, 1) := by decide +kernel
theorem dX11_remember_58 : decode cX11_remember 58 = .ok (.getfield 135, 3) := by decide +kernel
theorem dX11_remember_61 : decode cX11_remember 61 = .ok (.imul, 1) := by decide +kernel
theorem dX11_remember_62 : decode cX11_remember 62 = .ok (.invokevirtual 203, 3) := by decide +kernel
theorem dX11_remember_65 : decode cX11_remember 65 = .ok (.aload_n 0, 1) := by decide +kernel
theorem dX11_remember_66 : decode cX11_remember 66 = .ok (.dup, 1) := by decide +kernel
theorem dX11_remember_67 : decode cX11_remember 67 = .ok (.getfield 135, 3) := by decide +kernel
theorem dX11_remember_70 : decode cX11_remember 70 = .ok (.iconst 1, 1) := by decide +kernel
theorem dX11_remember_71 : decode cX11_remember 71 = .ok (.iadd, 1) := by decide +kernel
theorem dX11_remember_72 : decode cX11_remember 72 = .ok (.putfield 135, 3) := by decide +kernel
theorem dX11_remember_75 : decode cX11_remember 75 = .ok (.return_, 1) := by decide +kernel
set_option maxRecDepth 20000 in
theorem ggX11_undo_X11_readBack : GoodIn wsX11_undo wsX11_readBack := goodIn_r _ [7, 8, 9, 10, 11, 12, 13, 14, 15, 16, 17, 18, 19, 20, 21, 22, 23, 24, 25, 26, 27, 28, 29, 30, 31, 32, 33, 34, 35, 36, 37, 38, 39, 40, 41, 42, 43, 44, 45, 46, 47, 48, 49, 50] (by decide +kernel) (by decide +kernel)
set_option maxRecDepth 20000 in
theorem gX11_undo_X11_readBack : GoodIn wsX11_undo (wsV RX11 207 RX11 yX11_readBack wsX11_readBack) := goodIn_app (goodIn_of _ (by decide +kernel)) ggX11_undo_X11_readBack
theorem dX11_undo_0 : decode cX11_undo 0 = .ok (.aload_n 0, 1) := by decide +kernel
theorem dX11_undo_1 : decode cX11_undo 1 = .ok (.getfield 135, 3) := by decide +kernel
theorem dX11_undo_4 : decode cX11_undo 4 = .ok (.ifCond .ne 6, 3) := by decide +kernel
theorem dX11_undo_7 : decode cX11_undo 7 = .ok (.bipush (-3), 2) := by decide +kernel
theorem dX11_undo_9 : decode cX11_undo 9 = .ok (.ireturn, 1) := by decide +kernel
theorem dX11_undo_10 : decode cX11_undo 10 = .ok (.aload_n 0, 1) := by decide +kernel
theorem dX11_undo_11 : decode cX11_undo 11 = .ok (.dup, 1) := by decide +kernel
theorem dX11_undo_12 : decode cX11_undo 12 = .ok (.getfield 135, 3) := by decide +kernel
theorem dX11_undo_15 : decode cX11_undo 15 = .ok (.iconst 1, 1) := by decide +kernel
theorem dX11_undo_16 : decode cX11_undo 16 = .ok (.isub, 1) := by decide +kernel
theorem dX11_undo_17 : decode cX11_undo 17 = .ok (.putfield 135, 3) := by decide +kernel
theorem dX11_undo_20 : decode cX11_undo 20 = .ok (.aload_n 0, 1) := by decide +kernel
theorem dX11_undo_21 : decode cX11_undo 21 = .ok (.aload_n 0, 1) := by decide +kernel
theorem dX11_undo_22 : decode cX11_undo 22 = .ok (.getfield 40, 3) := by decide +kernel
theorem dX11_undo_25 : decode cX11_undo 25 = .ok (.bipush 25, 2) := by decide +kernel
theorem dX11_undo_27 : decode cX11_undo 27 = .ok (.aload_n 0, 1) := by decide +kernel
theorem dX11_undo_28 : decode cX11_undo 28 = .ok (.getfield 135, 3) := by decide +kernel
theorem dX11_undo_31 : decode cX11_undo 31 = .ok (.imul, 1) := by decide +kernel
theorem dX11_undo_32 : decode cX11_undo 32 = .ok (.invokevirtual 207, 3) := by decide +kernel
theorem dX11_undo_35 : decode cX11_undo 35 = .ok (.aload_n 0, 1) := by decide +kernel
theorem dX11_undo_36 : decode cX11_undo 36 = .ok (.getfield 135, 3) := by decide +kernel
theorem dX11_undo_39 : decode cX11_undo 39 = .ok (.ireturn, 1) := by decide +kernel
set_option maxRecDepth 20000 in
theorem ggX11_keep_X11_within : GoodIn wsX11_keep wsX11_within := goodIn_r _ [11] (by decide +kernel) (by decide +kernel)
set_option maxRecDepth 20000 in
theorem gX11_keep_X11_within : GoodIn wsX11_keep (va_wsS RX11 83 yX11_within wsX11_within) := goodIn_app (goodIn_of _ (by decide +kernel)) ggX11_keep_X11_within
set_option maxRecDepth 20000 in
theorem ggX11_keep_X11_write : GoodIn wsX11_keep wsX11_write := goodIn_r _ [15, 16, 17, 18, 19, 20, 21, 22, 23, 24, 25, 26, 27, 28, 29, 30, 31, 32, 33, 34, 35, 36, 37, 38, 39, 40, 41, 42, 43, 44, 45, 46, 47, 48, 49, 50, 51, 52, 53, 54, 55, 56, 57, 58] (by decide +kernel) (by decide +kernel)
set_option maxRecDepth 20000 in
theorem gX11_keep_X11_write : GoodIn wsX11_keep (wsV RX11 203 RX11 yX11_write wsX11_write) := goodIn_app (goodIn_of _ (by decide +kernel)) ggX11_keep_X11_write
theorem dX11_keep_0 : decode cX11_keep 0 = .ok (.iload_n 1, 1) := by decide +kernel
theorem dX11_keep_1 : decode cX11_keep 1 = .ok (.iconst 0, 1) := by decide +kernel
theorem dX11_keep_2 : decode cX11_keep 2 = .ok (.iconst 1, 1) := by decide +kernel
theorem dX11_keep_3 : decode cX11_keep 3 = .ok (.invokestatic 83, 3) := by decide +kernel
theorem dX11_keep_6 : decode cX11_keep 6 = .ok (.ifCond .ne 5, 3) := by decide +kernel
theorem dX11_keep_9 : decode cX11_keep 9 = .ok (.iconst (-1), 1) := by decide +kernel
theorem dX11_keep_10 : decode cX11_keep 10 = .ok (.ireturn, 1) := by decide +kernel
theorem dX11_keep_11 : decode cX11_keep 11 = .ok (.aload_n 0, 1) := by decide +kernel
theorem dX11_keep_12 : decode cX11_keep 12 = .ok (.getfield 87, 3) := by decide +kernel
theorem dX11_keep_15 : decode cX11_keep 15 = .ok (.ifCond .ne 6, 3) := by decide +kernel
theorem dX11_keep_18 : decode cX11_keep 18 = .ok (.bipush (-3), 2) := by decide +kernel
theorem dX11_keep_20 : decode cX11_keep 20 = .ok (.ireturn, 1) := by decide +kernel
theorem dX11_keep_21 : decode cX11_keep 21 = .ok (.aload_n 0, 1) := by decide +kernel
theorem dX11_keep_22 : decode cX11_keep 22 = .ok (.aload_n 0, 1) := by decide +kernel
theorem dX11_keep_23 : decode cX11_keep 23 = .ok (.getfield 47, 3) := by decide +kernel
theorem dX11_keep_26 : decode cX11_keep 26 = .ok (.bipush 25, 2) := by decide +kernel
theorem dX11_keep_28 : decode cX11_keep 28 = .ok (.iload_n 1, 1) := by decide +kernel
theorem dX11_keep_29 : decode cX11_keep 29 = .ok (.imul, 1) := by decide +kernel
theorem dX11_keep_30 : decode cX11_keep 30 = .ok (.invokevirtual 203, 3) := by decide +kernel
theorem dX11_keep_33 : decode cX11_keep 33 = .ok (.aload_n 0, 1) := by decide +kernel
theorem dX11_keep_34 : decode cX11_keep 34 = .ok (.getfield 50, 3) := by decide +kernel
theorem dX11_keep_37 : decode cX11_keep 37 = .ok (.iload_n 1, 1) := by decide +kernel
theorem dX11_keep_38 : decode cX11_keep 38 = .ok (.aload_n 0, 1) := by decide +kernel
theorem dX11_keep_39 : decode cX11_keep 39 = .ok (.getfield 117, 3) := by decide +kernel
theorem dX11_keep_42 : decode cX11_keep 42 = .ok (.iastore, 1) := by decide +kernel
theorem dX11_keep_43 : decode cX11_keep 43 = .ok (.aload_n 0, 1) := by decide +kernel
theorem dX11_keep_44 : decode cX11_keep 44 = .ok (.getfield 53, 3) := by decide +kernel
theorem dX11_keep_47 : decode cX11_keep 47 = .ok (.iload_n 1, 1) := by decide +kernel
theorem dX11_keep_48 : decode cX11_keep 48 = .ok (.aload_n 0, 1) := by decide +kernel
theorem dX11_keep_49 : decode cX11_keep 49 = .ok (.getfield 123, 3) := by decide +kernel
theorem dX11_keep_52 : decode cX11_keep 52 = .ok (.iastore, 1) := by decide +kernel
theorem dX11_keep_53 : decode cX11_keep 53 = .ok (.aload_n 0, 1) := by decide +kernel
theorem dX11_keep_54 : decode cX11_keep 54 = .ok (.getfield 43, 3) := by decide +kernel
theorem dX11_keep_57 : decode cX11_keep 57 = .ok (.iload_n 1, 1) := by decide +kernel
theorem dX11_keep_58 : decode cX11_keep 58 = .ok (.iconst 1, 1) := by decide +kernel
theorem dX11_keep_59 : decode cX11_keep 59 = .ok (.bastore, 1) := by decide +kernel
theorem dX11_keep_60 : decode cX11_keep 60 = .ok (.aload_n 0, 1) := by decide +kernel
theorem dX11_keep_61 : decode cX11_keep 61 = .ok (.getfield 43, 3) := by decide +kernel
theorem dX11_keep_64 : decode cX11_keep 64 = .ok (.iconst 0, 1) := by decide +kernel
theorem dX11_keep_65 : decode cX11_keep 65 = .ok (.baload, 1) := by decide +kernel
theorem dX11_keep_66 : decode cX11_keep 66 = .ok (.ifCond .eq 16, 3) := by decide +kernel
theorem dX11_keep_69 : decode cX11_keep 69 = .ok (.aload_n 0, 1) := by decide +kernel
theorem dX11_keep_70 : decode cX11_keep 70 = .ok (.getfield 43, 3) := by decide +kernel
theorem dX11_keep_73 : decode cX11_keep 73 = .ok (.iconst 1, 1) := by decide +kernel
theorem dX11_keep_74 : decode cX11_keep 74 = .ok (.baload, 1) := by decide +kernel
theorem dX11_keep_75 : decode cX11_keep 75 = .ok (.ifCond .eq 7, 3) := by decide +kernel
theorem dX11_keep_78 : decode cX11_keep 78 = .ok (.iconst 2, 1) := by decide +kernel
theorem dX11_keep_79 : decode cX11_keep 79 = .ok (.goto 4, 3) := by decide +kernel
theorem dX11_keep_82 : decode cX11_keep 82 = .ok (.iconst 1, 1) := by decide +kernel
theorem dX11_keep_83 : decode cX11_keep 83 = .ok (.ireturn, 1) := by decide +kernel
set_option maxRecDepth 20000 in
theorem ggX11_restore_X11_within : GoodIn wsX11_restore wsX11_within := goodIn_r _ [12] (by decide +kernel) (by decide +kernel)
set_option maxRecDepth 20000 in
theorem gX11_restore_X11_within : GoodIn wsX11_restore (va_wsS RX11 83 yX11_within wsX11_within) := goodIn_app (goodIn_of _ (by decide +kernel)) ggX11_restore_X11_within
set_option maxRecDepth 20000 in
theorem ggX11_restore_X11_readBack : GoodIn wsX11_restore wsX11_readBack := goodIn_r _ [16, 17, 18, 19, 8, 20, 21, 22, 23, 24, 25, 26, 27, 28, 29, 30, 31, 32, 33, 34, 35, 36, 37, 38, 39, 40, 41, 42, 43, 44, 45, 46, 47, 48, 49, 50, 51, 52, 53, 54, 55, 56, 57, 58] (by decide +kernel) (by decide +kernel)
set_option maxRecDepth 20000 in
theorem gX11_restore_X11_readBack : GoodIn wsX11_restore (wsV RX11 207 RX11 yX11_readBack wsX11_readBack) := goodIn_app (goodIn_of _ (by decide +kernel)) ggX11_restore_X11_readBack
theorem dX11_restore_0 : decode cX11_restore 0 = .ok (.iload_n 1, 1) := by decide +kernel
theorem dX11_restore_1 : decode cX11_restore 1 = .ok (.iconst 0, 1) := by decide +kernel
theorem dX11_restore_2 : decode cX11_restore 2 = .ok (.iconst 1, 1) := by decide +kernel
theorem dX11_restore_3 : decode cX11_restore 3 = .ok (.invokestatic 83, 3) := by decide +kernel
theorem dX11_restore_6 : decode cX11_restore 6 = .ok (.ifCond .ne 5, 3) := by decide +kernel
theorem dX11_restore_9 : decode cX11_restore 9 = .ok (.iconst (-1), 1) := by decide +kernel
theorem dX11_restore_10 : decode cX11_restore 10 = .ok (.ireturn, 1) := by decide +kernel
theorem dX11_restore_11 : decode cX11_restore 11 = .ok (.aload_n 0, 1) := by decide +kernel
theorem dX11_restore_12 : decode cX11_restore 12 = .ok (.getfield 43, 3) := by decide +kernel
theorem dX11_restore_15 : decode cX11_restore 15 = .ok (.iload_n 1, 1) := by decide +kernel
theorem dX11_restore_16 : decode cX11_restore 16 = .ok (.baload, 1) := by decide +kernel
theorem dX11_restore_17 : decode cX11_restore 17 = .ok (.ifCond .ne 6, 3) := by decide +kernel
theorem dX11_restore_20 : decode cX11_restore 20 = .ok (.bipush (-3), 2) := by decide +kernel
theorem dX11_restore_22 : decode cX11_restore 22 = .ok (.ireturn, 1) := by decide +kernel
theorem dX11_restore_23 : decode cX11_restore 23 = .ok (.aload_n 0, 1) := by decide +kernel
theorem dX11_restore_24 : decode cX11_restore 24 = .ok (.aload_n 0, 1) := by decide +kernel
theorem dX11_restore_25 : decode cX11_restore 25 = .ok (.getfield 47, 3) := by decide +kernel
theorem dX11_restore_28 : decode cX11_restore 28 = .ok (.bipush 25, 2) := by decide +kernel
theorem dX11_restore_30 : decode cX11_restore 30 = .ok (.iload_n 1, 1) := by decide +kernel
theorem dX11_restore_31 : decode cX11_restore 31 = .ok (.imul, 1) := by decide +kernel
theorem dX11_restore_32 : decode cX11_restore 32 = .ok (.invokevirtual 207, 3) := by decide +kernel
theorem dX11_restore_35 : decode cX11_restore 35 = .ok (.aload_n 0, 1) := by decide +kernel
theorem dX11_restore_36 : decode cX11_restore 36 = .ok (.aload_n 0, 1) := by decide +kernel
theorem dX11_restore_37 : decode cX11_restore 37 = .ok (.getfield 50, 3) := by decide +kernel
theorem dX11_restore_40 : decode cX11_restore 40 = .ok (.iload_n 1, 1) := by decide +kernel
theorem dX11_restore_41 : decode cX11_restore 41 = .ok (.iaload, 1) := by decide +kernel
theorem dX11_restore_42 : decode cX11_restore 42 = .ok (.putfield 117, 3) := by decide +kernel
theorem dX11_restore_45 : decode cX11_restore 45 = .ok (.aload_n 0, 1) := by decide +kernel
theorem dX11_restore_46 : decode cX11_restore 46 = .ok (.aload_n 0, 1) := by decide +kernel
theorem dX11_restore_47 : decode cX11_restore 47 = .ok (.getfield 53, 3) := by decide +kernel
theorem dX11_restore_50 : decode cX11_restore 50 = .ok (.iload_n 1, 1) := by decide +kernel
theorem dX11_restore_51 : decode cX11_restore 51 = .ok (.iaload, 1) := by decide +kernel
theorem dX11_restore_52 : decode cX11_restore 52 = .ok (.putfield 123, 3) := by decide +kernel
theorem dX11_restore_55 : decode cX11_restore 55 = .ok (.aload_n 0, 1) := by decide +kernel
theorem dX11_restore_56 : decode cX11_restore 56 = .ok (.iconst 0, 1) := by decide +kernel
theorem dX11_restore_57 : decode cX11_restore 57 = .ok (.putfield 135, 3) := by decide +kernel
theorem dX11_restore_60 : decode cX11_restore 60 = .ok (.aload_n 0, 1) := by decide +kernel
theorem dX11_restore_61 : decode cX11_restore 61 = .ok (.getfield 129, 3) := by decide +kernel
theorem dX11_restore_64 : decode cX11_restore 64 = .ok (.ireturn, 1) := by decide +kernel
theorem dX11_keepHeights_0 : decode cX11_keepHeights 0 = .ok (.iconst 0, 1) := by decide +kernel
theorem dX11_keepHeights_1 : decode cX11_keepHeights 1 = .ok (.istore_n 1, 1) := by decide +kernel
theorem dX11_keepHeights_2 : decode cX11_keepHeights 2 = .ok (.iload_n 1, 1) := by decide +kernel
theorem dX11_keepHeights_3 : decode cX11_keepHeights 3 = .ok (.bipush 8, 2) := by decide +kernel
theorem dX11_keepHeights_5 : decode cX11_keepHeights 5 = .ok (.if_icmp .ge 21, 3) := by decide +kernel
theorem dX11_keepHeights_8 : decode cX11_keepHeights 8 = .ok (.aload_n 0, 1) := by decide +kernel
theorem dX11_keepHeights_9 : decode cX11_keepHeights 9 = .ok (.getfield 56, 3) := by decide +kernel
theorem dX11_keepHeights_12 : decode cX11_keepHeights 12 = .ok (.iload_n 1, 1) := by decide +kernel
theorem dX11_keepHeights_13 : decode cX11_keepHeights 13 = .ok (.aload_n 0, 1) := by decide +kernel
theorem dX11_keepHeights_14 : decode cX11_keepHeights 14 = .ok (.getfield 28, 3) := by decide +kernel
theorem dX11_keepHeights_17 : decode cX11_keepHeights 17 = .ok (.iload_n 1, 1) := by decide +kernel
theorem dX11_keepHeights_18 : decode cX11_keepHeights 18 = .ok (.iaload, 1) := by decide +kernel
theorem dX11_keepHeights_19 : decode cX11_keepHeights 19 = .ok (.iastore, 1) := by decide +kernel
theorem dX11_keepHeights_20 : decode cX11_keepHeights 20 = .ok (.iinc 1 1, 3) := by decide +kernel
theorem dX11_keepHeights_23 : decode cX11_keepHeights 23 = .ok (.goto (-21), 3) := by decide +kernel
theorem dX11_keepHeights_26 : decode cX11_keepHeights 26 = .ok (.return_, 1) := by decide +kernel
theorem dX11_putHeights_0 : decode cX11_putHeights 0 = .ok (.iconst 0, 1) := by decide +kernel
theorem dX11_putHeights_1 : decode cX11_putHeights 1 = .ok (.istore_n 1, 1) := by decide +kernel
theorem dX11_putHeights_2 : decode cX11_putHeights 2 = .ok (.iload_n 1, 1) := by decide +kernel
theorem dX11_putHeights_3 : decode cX11_putHeights 3 = .ok (.bipush 8, 2) := by decide +kernel
theorem dX11_putHeights_5 : decode cX11_putHeights 5 = .ok (.if_icmp .ge 21, 3) := by decide +kernel
theorem dX11_putHeights_8 : decode cX11_putHeights 8 = .ok (.aload_n 0, 1) := by decide +kernel
theorem dX11_putHeights_9 : decode cX11_putHeights 9 = .ok (.getfield 28, 3) := by decide +kernel
theorem dX11_putHeights_12 : decode cX11_putHeights 12 = .ok (.iload_n 1, 1) := by decide +kernel
theorem dX11_putHeights_13 : decode cX11_putHeights 13 = .ok (.aload_n 0, 1) := by decide +kernel
theorem dX11_putHeights_14 : decode cX11_putHeights 14 = .ok (.getfield 56, 3) := by decide +kernel
theorem dX11_putHeights_17 : decode cX11_putHeights 17 = .ok (.iload_n 1, 1) := by decide +kernel
theorem dX11_putHeights_18 : decode cX11_putHeights 18 = .ok (.iaload, 1) := by decide +kernel
theorem dX11_putHeights_19 : decode cX11_putHeights 19 = .ok (.iastore, 1) := by decide +kernel
theorem dX11_putHeights_20 : decode cX11_putHeights 20 = .ok (.iinc 1 1, 3) := by decide +kernel
theorem dX11_putHeights_23 : decode cX11_putHeights 23 = .ok (.goto (-21), 3) := by decide +kernel
theorem dX11_putHeights_26 : decode cX11_putHeights 26 = .ok (.return_, 1) := by decide +kernel
set_option maxRecDepth 20000 in
theorem ggX11_goAct_X11_goalsAsNow : GoodIn wsX11_goAct wsX11_goalsAsNow := goodIn_r _ [9, 10, 3, 11, 44, 45, 46, 47, 48, 49, 50, 51, 52, 53, 54, 55, 56, 57, 58, 59, 60, 61, 62, 63, 64, 65, 66, 67, 68, 69, 70, 71, 72, 73, 74, 75, 76, 77, 78, 79, 80, 81, 82] (by decide +kernel) (by decide +kernel)
set_option maxRecDepth 20000 in
theorem gX11_goAct_X11_goalsAsNow : GoodIn wsX11_goAct (wsV RX11 188 RX11 yX11_goalsAsNow wsX11_goalsAsNow) := goodIn_app (goodIn_of _ (by decide +kernel)) ggX11_goAct_X11_goalsAsNow
set_option maxRecDepth 20000 in
theorem ggX11_goAct_X11_canBe : GoodIn wsX11_goAct wsX11_canBe := goodIn_r _ [15, 10, 3, 11, 16, 17, 18, 19, 8, 20, 21, 22, 23, 24, 25, 26, 27, 28, 44, 45, 46, 47, 48, 49, 50, 51, 52, 53, 54, 55, 56, 57, 58, 59, 60, 61, 62, 63, 64, 65, 66, 67, 68, 69, 70, 71, 72, 73, 74, 75, 76, 77, 78, 79, 80, 81, 82] (by decide +kernel) (by decide +kernel)
set_option maxRecDepth 20000 in
theorem gX11_goAct_X11_canBe : GoodIn wsX11_goAct (wsV RX11 172 RX11 yX11_canBe wsX11_canBe) := goodIn_app (goodIn_of _ (by decide +kernel)) ggX11_goAct_X11_canBe
set_option maxRecDepth 20000 in
theorem ggX11_goAct_X11_beats : GoodIn wsX11_goAct wsX11_beats := goodIn_r _ [32, 10, 11, 3, 33, 34, 8, 35, 44, 45, 46, 47, 48, 49, 50, 51, 52, 53, 54, 55, 56, 57, 58, 59, 60, 61, 62, 63, 64, 65, 66, 67, 68, 69, 70, 71, 72, 73, 74, 75, 76, 77, 78, 79, 80, 81, 82] (by decide +kernel) (by decide +kernel)
set_option maxRecDepth 20000 in
theorem gX11_goAct_X11_beats : GoodIn wsX11_goAct (wsV RX11 176 RX11 yX11_beats wsX11_beats) := goodIn_app (goodIn_of _ (by decide +kernel)) ggX11_goAct_X11_beats
set_option maxRecDepth 20000 in
theorem ggX11_goAct_X11_effort : GoodIn wsX11_goAct wsX11_effort := goodIn_r _ [39, 10, 11, 3, 17, 18, 19, 8, 20, 21, 22, 23, 33, 34, 35, 44, 45, 46, 47, 48, 49, 50, 51, 52, 53, 54, 55, 56, 57, 58, 59, 60, 61, 62, 63, 64, 65, 66, 67, 68, 69, 70, 71, 72, 73, 74, 75, 76, 77, 78, 79, 80, 81, 82] (by decide +kernel) (by decide +kernel)
set_option maxRecDepth 20000 in
theorem gX11_goAct_X11_effort : GoodIn wsX11_goAct (wsV RX11 216 RX11 yX11_effort wsX11_effort) := goodIn_app (goodIn_of _ (by decide +kernel)) ggX11_goAct_X11_effort
set_option maxRecDepth 20000 in
theorem ggX11_goAct_X11_goes : GoodIn wsX11_goAct wsX11_goes := goodIn_r _ [43, 10, 11, 3, 44, 45, 46, 47, 48, 49, 50, 51, 52, 53, 54, 55, 56, 57, 58, 59, 60, 61, 62, 63, 64, 65, 66, 67, 68, 69, 70, 71, 72, 73, 74, 75, 76, 77, 78, 79, 80, 81, 82] (by decide +kernel) (by decide +kernel)
set_option maxRecDepth 20000 in
theorem gX11_goAct_X11_goes : GoodIn wsX11_goAct (wsV RX11 182 RX11 yX11_goes wsX11_goes) := goodIn_app (goodIn_of _ (by decide +kernel)) ggX11_goAct_X11_goes
theorem dX11_goAct_0 : decode cX11_goAct 0 = .ok (.aload_n 0, 1) := by decide +kernel
theorem dX11_goAct_1 : decode cX11_goAct 1 = .ok (.iconst 0, 1) := by decide +kernel
theorem dX11_goAct_2 : decode cX11_goAct 2 = .ok (.putfield 210, 3) := by decide +kernel
theorem dX11_goAct_5 : decode cX11_goAct 5 = .ok (.aload_n 0, 1) := by decide +kernel
theorem dX11_goAct_6 : decode cX11_goAct 6 = .ok (.iconst 0, 1) := by decide +kernel
theorem dX11_goAct_7 : decode cX11_goAct 7 = .ok (.putfield 213, 3) := by decide +kernel
theorem dX11_goAct_10 : decode cX11_goAct 10 = .ok (.iconst 0, 1) := by decide +kernel
theorem dX11_goAct_11 : decode cX11_goAct 11 = .ok (.istore_n 3, 1) := by decide +kernel
theorem dX11_goAct_12 : decode cX11_goAct 12 = .ok (.iload_n 3, 1) := by decide +kernel
theorem dX11_goAct_13 : decode cX11_goAct 13 = .ok (.iload_n 2, 1) := by decide +kernel
theorem dX11_goAct_14 : decode cX11_goAct 14 = .ok (.if_icmp .ge 79, 3) := by decide +kernel
theorem dX11_goAct_17 : decode cX11_goAct 17 = .ok (.aload_n 0, 1) := by decide +kernel
theorem dX11_goAct_18 : decode cX11_goAct 18 = .ok (.invokevirtual 188, 3) := by decide +kernel
theorem dX11_goAct_21 : decode cX11_goAct 21 = .ok (.aload_n 0, 1) := by decide +kernel
theorem dX11_goAct_22 : decode cX11_goAct 22 = .ok (.getfield 37, 3) := by decide +kernel
theorem dX11_goAct_25 : decode cX11_goAct 25 = .ok (.aload_n 0, 1) := by decide +kernel
theorem dX11_goAct_26 : decode cX11_goAct 26 = .ok (.getfield 16, 3) := by decide +kernel
theorem dX11_goAct_29 : decode cX11_goAct 29 = .ok (.iload_n 1, 1) := by decide +kernel
theorem dX11_goAct_30 : decode cX11_goAct 30 = .ok (.iconst 2, 1) := by decide +kernel
theorem dX11_goAct_31 : decode cX11_goAct 31 = .ok (.iload_n 3, 1) := by decide +kernel
theorem dX11_goAct_32 : decode cX11_goAct 32 = .ok (.imul, 1) := by decide +kernel
theorem dX11_goAct_33 : decode cX11_goAct 33 = .ok (.iadd, 1) := by decide +kernel
theorem dX11_goAct_34 : decode cX11_goAct 34 = .ok (.iaload, 1) := by decide +kernel
theorem dX11_goAct_35 : decode cX11_goAct 35 = .ok (.aload_n 0, 1) := by decide +kernel
theorem dX11_goAct_36 : decode cX11_goAct 36 = .ok (.getfield 16, 3) := by decide +kernel
theorem dX11_goAct_39 : decode cX11_goAct 39 = .ok (.iload_n 1, 1) := by decide +kernel
theorem dX11_goAct_40 : decode cX11_goAct 40 = .ok (.iconst 2, 1) := by decide +kernel
theorem dX11_goAct_41 : decode cX11_goAct 41 = .ok (.iload_n 3, 1) := by decide +kernel
theorem dX11_goAct_42 : decode cX11_goAct 42 = .ok (.imul, 1) := by decide +kernel
theorem dX11_goAct_43 : decode cX11_goAct 43 = .ok (.iadd, 1) := by decide +kernel
theorem dX11_goAct_44 : decode cX11_goAct 44 = .ok (.iconst 1, 1) := by decide +kernel
theorem dX11_goAct_45 : decode cX11_goAct 45 = .ok (.iadd, 1) := by decide +kernel
theorem dX11_goAct_46 : decode cX11_goAct 46 = .ok (.iaload, 1) := by decide +kernel
theorem dX11_goAct_47 : decode cX11_goAct 47 = .ok (.iastore, 1) := by decide +kernel
theorem dX11_goAct_48 : decode cX11_goAct 48 = .ok (.aload_n 0, 1) := by decide +kernel
theorem dX11_goAct_49 : decode cX11_goAct 49 = .ok (.invokevirtual 172, 3) := by decide +kernel
theorem dX11_goAct_52 : decode cX11_goAct 52 = .ok (.ifCond .ne 5, 3) := by decide +kernel
theorem dX11_goAct_55 : decode cX11_goAct 55 = .ok (.iload_n 3, 1) := by decide +kernel
theorem dX11_goAct_56 : decode cX11_goAct 56 = .ok (.ireturn, 1) := by decide +kernel
theorem dX11_goAct_57 : decode cX11_goAct 57 = .ok (.aload_n 0, 1) := by decide +kernel
theorem dX11_goAct_58 : decode cX11_goAct 58 = .ok (.dup, 1) := by decide +kernel
theorem dX11_goAct_59 : decode cX11_goAct 59 = .ok (.getfield 210, 3) := by decide +kernel
theorem dX11_goAct_62 : decode cX11_goAct 62 = .ok (.aload_n 0, 1) := by decide +kernel
theorem dX11_goAct_63 : decode cX11_goAct 63 = .ok (.invokevirtual 176, 3) := by decide +kernel
theorem dX11_goAct_66 : decode cX11_goAct 66 = .ok (.iadd, 1) := by decide +kernel
theorem dX11_goAct_67 : decode cX11_goAct 67 = .ok (.putfield 210, 3) := by decide +kernel
theorem dX11_goAct_70 : decode cX11_goAct 70 = .ok (.aload_n 0, 1) := by decide +kernel
theorem dX11_goAct_71 : decode cX11_goAct 71 = .ok (.dup, 1) := by decide +kernel
theorem dX11_goAct_72 : decode cX11_goAct 72 = .ok (.getfield 213, 3) := by decide +kernel
theorem dX11_goAct_75 : decode cX11_goAct 75 = .ok (.aload_n 0, 1) := by decide +kernel
theorem dX11_goAct_76 : decode cX11_goAct 76 = .ok (.invokevirtual 216, 3) := by decide +kernel
theorem dX11_goAct_79 : decode cX11_goAct 79 = .ok (.iadd, 1) := by decide +kernel
theorem dX11_goAct_80 : decode cX11_goAct 80 = .ok (.putfield 213, 3) := by decide +kernel
theorem dX11_goAct_83 : decode cX11_goAct 83 = .ok (.aload_n 0, 1) := by decide +kernel
theorem dX11_goAct_84 : decode cX11_goAct 84 = .ok (.invokevirtual 182, 3) := by decide +kernel
theorem dX11_goAct_87 : decode cX11_goAct 87 = .ok (.iinc 3 1, 3) := by decide +kernel
theorem dX11_goAct_90 : decode cX11_goAct 90 = .ok (.goto (-78), 3) := by decide +kernel
theorem dX11_goAct_93 : decode cX11_goAct 93 = .ok (.bipush (-9), 2) := by decide +kernel
theorem dX11_goAct_95 : decode cX11_goAct 95 = .ok (.ireturn, 1) := by decide +kernel
set_option maxRecDepth 20000 in
theorem ggX11_act_X11_isSheet : GoodIn wsX11_act wsX11_isSheet := goodIn_r _ [6, 7, 8, 5, 9] (by decide +kernel) (by decide +kernel)
set_option maxRecDepth 20000 in
theorem gX11_act_X11_isSheet : GoodIn wsX11_act (va_wsS RX11 93 yX11_isSheet wsX11_isSheet) := goodIn_app (goodIn_of _ (by decide +kernel)) ggX11_act_X11_isSheet
set_option maxRecDepth 20000 in
theorem ggX11_act_X11_isSort : GoodIn wsX11_act wsX11_isSort := goodIn_r _ [12, 7, 8, 5, 9] (by decide +kernel) (by decide +kernel)
set_option maxRecDepth 20000 in
theorem gX11_act_X11_isSort : GoodIn wsX11_act (va_wsS RX11 97 yX11_isSort wsX11_isSort) := goodIn_app (goodIn_of _ (by decide +kernel)) ggX11_act_X11_isSort
set_option maxRecDepth 20000 in
theorem ggX11_act_X11_within : GoodIn wsX11_act wsX11_within := goodIn_r _ [9] (by decide +kernel) (by decide +kernel)
set_option maxRecDepth 20000 in
theorem gX11_act_X11_within : GoodIn wsX11_act (va_wsS RX11 83 yX11_within wsX11_within) := goodIn_app (goodIn_of _ (by decide +kernel)) ggX11_act_X11_within
set_option maxRecDepth 20000 in
theorem ggX11_act_X11_against : GoodIn wsX11_act wsX11_against := goodIn_r _ [16, 17, 18, 101, 102, 103, 104, 105, 106, 107, 108, 109, 110, 111, 112, 113, 114, 115, 116, 117, 118, 119, 120, 121, 122, 123, 124, 125, 126, 127, 128, 129, 130, 131, 132, 133, 134, 135, 136, 137, 138, 139] (by decide +kernel) (by decide +kernel)
set_option maxRecDepth 20000 in
theorem gX11_act_X11_against : GoodIn wsX11_act (wsV RX11 100 RX11 yX11_against wsX11_against) := goodIn_app (goodIn_of _ (by decide +kernel)) ggX11_act_X11_against
set_option maxRecDepth 20000 in
theorem ggX11_act_X11_fails : GoodIn wsX11_act wsX11_fails := goodIn_r _ [22, 1, 101, 102, 103, 104, 105, 106, 107, 108, 109, 110, 111, 112, 113, 114, 115, 116, 117, 118, 119, 120, 121, 122, 123, 124, 125, 126, 127, 128, 129, 130, 131, 132, 133, 134, 135, 136, 137, 138, 139] (by decide +kernel) (by decide +kernel)
set_option maxRecDepth 20000 in
theorem gX11_act_X11_fails : GoodIn wsX11_act (wsV RX11 104 RX11 yX11_fails wsX11_fails) := goodIn_app (goodIn_of _ (by decide +kernel)) ggX11_act_X11_fails
set_option maxRecDepth 20000 in
theorem ggX11_act_X11_refusesPairs : GoodIn wsX11_act wsX11_refusesPairs := goodIn_r _ [26, 27, 28, 29, 30, 5, 31, 2, 32, 33, 34, 7, 8, 9, 101, 102, 103, 104, 105, 106, 107, 108, 109, 110, 111, 112, 113, 114, 115, 116, 117, 118, 119, 120, 121, 122, 123, 124, 125, 126, 127, 128, 129, 130, 131, 132, 133, 134, 135, 136, 137, 138, 139] (by decide +kernel) (by decide +kernel)
set_option maxRecDepth 20000 in
theorem gX11_act_X11_refusesPairs : GoodIn wsX11_act (wsV RX11 194 RX11 yX11_refusesPairs wsX11_refusesPairs) := goodIn_app (goodIn_of _ (by decide +kernel)) ggX11_act_X11_refusesPairs
set_option maxRecDepth 20000 in
theorem ggX11_act_X11_keepHeights : GoodIn wsX11_act wsX11_keepHeights := goodIn_r _ [38, 39, 40, 101, 102, 103, 104, 105, 106, 107, 108, 109, 110, 111, 112, 113, 114, 115, 116, 117, 118, 119, 120, 121, 122, 123, 124, 125, 126, 127, 128, 129, 130, 131, 132, 133, 134, 135, 136, 137, 138, 139] (by decide +kernel) (by decide +kernel)
set_option maxRecDepth 20000 in
theorem gX11_act_X11_keepHeights : GoodIn wsX11_act (wsV RX11 219 RX11 yX11_keepHeights wsX11_keepHeights) := goodIn_app (goodIn_of _ (by decide +kernel)) ggX11_act_X11_keepHeights
set_option maxRecDepth 20000 in
theorem ggX11_act_X11_goAct : GoodIn wsX11_act wsX11_goAct := goodIn_r _ [44, 45, 46, 47, 27, 48, 49, 50, 5, 51, 2, 40, 52, 53, 54, 55, 56, 57, 58, 59, 60, 61, 62, 63, 64, 65, 66, 67, 68, 69, 70, 71, 72, 73, 74, 75, 76, 77, 78, 79, 80, 81, 82, 83, 101, 102, 103, 104, 105, 106, 107, 108, 109, 110, 111, 112, 113, 114, 115, 116, 117, 118, 119, 120, 121, 122, 123, 124, 125, 126, 127, 128, 129, 130, 131, 132, 133, 134, 135, 136, 137, 138, 139] (by decide +kernel) (by decide +kernel)
set_option maxRecDepth 20000 in
theorem gX11_act_X11_goAct : GoodIn wsX11_act (wsV RX11 222 RX11 yX11_goAct wsX11_goAct) := goodIn_app (goodIn_of _ (by decide +kernel)) ggX11_act_X11_goAct
set_option maxRecDepth 20000 in
theorem ggX11_act_X11_tellAct : GoodIn wsX11_act wsX11_tellAct := goodIn_r _ [87, 40, 45, 46, 28, 29, 30, 5, 31, 2, 88, 89, 90, 91, 92, 93, 94, 95, 96, 68, 101, 102, 103, 104, 105, 106, 107, 108, 109, 110, 111, 112, 113, 114, 115, 116, 117, 118, 119, 120, 121, 122, 123, 124, 125, 126, 127, 128, 129, 130, 131, 132, 133, 134, 135, 136, 137, 138, 139] (by decide +kernel) (by decide +kernel)
set_option maxRecDepth 20000 in
theorem gX11_act_X11_tellAct : GoodIn wsX11_act (wsV RX11 225 RX11 yX11_tellAct wsX11_tellAct) := goodIn_app (goodIn_of _ (by decide +kernel)) ggX11_act_X11_tellAct
set_option maxRecDepth 20000 in
theorem ggX11_act_X11_putHeights : GoodIn wsX11_act wsX11_putHeights := goodIn_r _ [100, 40, 39, 101, 102, 103, 104, 105, 106, 107, 108, 109, 110, 111, 112, 113, 114, 115, 116, 117, 118, 119, 120, 121, 122, 123, 124, 125, 126, 127, 128, 129, 130, 131, 132, 133, 134, 135, 136, 137, 138, 139] (by decide +kernel) (by decide +kernel)
set_option maxRecDepth 20000 in
theorem gX11_act_X11_putHeights : GoodIn wsX11_act (wsV RX11 228 RX11 yX11_putHeights wsX11_putHeights) := goodIn_app (goodIn_of _ (by decide +kernel)) ggX11_act_X11_putHeights
theorem dX11_act_0 : decode cX11_act 0 = .ok (.aload_n 0, 1) := by decide +kernel
theorem dX11_act_1 : decode cX11_act 1 = .ok (.iconst 0, 1) := by decide +kernel
theorem dX11_act_2 : decode cX11_act 2 = .ok (.putfield 77, 3) := by decide +kernel
theorem dX11_act_5 : decode cX11_act 5 = .ok (.iload_n 1, 1) := by decide +kernel
theorem dX11_act_6 : decode cX11_act 6 = .ok (.invokestatic 93, 3) := by decide +kernel
theorem dX11_act_9 : decode cX11_act 9 = .ok (.ifCond .ne 5, 3) := by decide +kernel
theorem dX11_act_12 : decode cX11_act 12 = .ok (.iconst (-1), 1) := by decide +kernel
theorem dX11_act_13 : decode cX11_act 13 = .ok (.ireturn, 1) := by decide +kernel
theorem dX11_act_14 : decode cX11_act 14 = .ok (.iload_n 2, 1) := by decide +kernel
theorem dX11_act_15 : decode cX11_act 15 = .ok (.invokestatic 97, 3) := by decide +kernel
theorem dX11_act_18 : decode cX11_act 18 = .ok (.ifCond .eq 36, 3) := by decide +kernel
theorem dX11_act_21 : decode cX11_act 21 = .ok (.iload 4, 2) := by decide +kernel
theorem dX11_act_23 : decode cX11_act 23 = .ok (.iconst 0, 1) := by decide +kernel
theorem dX11_act_24 : decode cX11_act 24 = .ok (.bipush 20, 2) := by decide +kernel
theorem dX11_act_26 : decode cX11_act 26 = .ok (.invokestatic 83, 3) := by decide +kernel
theorem dX11_act_29 : decode cX11_act 29 = .ok (.ifCond .eq 25, 3) := by decide +kernel
theorem dX11_act_32 : decode cX11_act 32 = .ok (.iload 5, 2) := by decide +kernel
theorem dX11_act_34 : decode cX11_act 34 = .ok (.iconst 0, 1) := by decide +kernel
theorem dX11_act_35 : decode cX11_act 35 = .ok (.iconst 3, 1) := by decide +kernel
theorem dX11_act_36 : decode cX11_act 36 = .ok (.invokestatic 83, 3) := by decide +kernel
theorem dX11_act_39 : decode cX11_act 39 = .ok (.ifCond .ne 18, 3) := by decide +kernel
theorem dX11_act_42 : decode cX11_act 42 = .ok (.iload 5, 2) := by decide +kernel
theorem dX11_act_44 : decode cX11_act 44 = .ok (.bipush 10, 2) := by decide +kernel
theorem dX11_act_46 : decode cX11_act 46 = .ok (.bipush 17, 2) := by decide +kernel
theorem dX11_act_48 : decode cX11_act 48 = .ok (.invokestatic 83, 3) := by decide +kernel
theorem dX11_act_51 : decode cX11_act 51 = .ok (.ifCond .ne 6, 3) := by decide +kernel
theorem dX11_act_54 : decode cX11_act 54 = .ok (.bipush (-2), 2) := by decide +kernel
theorem dX11_act_56 : decode cX11_act 56 = .ok (.ireturn, 1) := by decide +kernel
theorem dX11_act_57 : decode cX11_act 57 = .ok (.aload_n 0, 1) := by decide +kernel
theorem dX11_act_58 : decode cX11_act 58 = .ok (.iload_n 1, 1) := by decide +kernel
theorem dX11_act_59 : decode cX11_act 59 = .ok (.iload_n 2, 1) := by decide +kernel
theorem dX11_act_60 : decode cX11_act 60 = .ok (.iload_n 3, 1) := by decide +kernel
theorem dX11_act_61 : decode cX11_act 61 = .ok (.iconst 2, 1) := by decide +kernel
theorem dX11_act_62 : decode cX11_act 62 = .ok (.iload 4, 2) := by decide +kernel
theorem dX11_act_64 : decode cX11_act 64 = .ok (.imul, 1) := by decide +kernel
theorem dX11_act_65 : decode cX11_act 65 = .ok (.invokevirtual 100, 3) := by decide +kernel
theorem dX11_act_68 : decode cX11_act 68 = .ok (.istore 6, 2) := by decide +kernel
theorem dX11_act_70 : decode cX11_act 70 = .ok (.iload 6, 2) := by decide +kernel
theorem dX11_act_72 : decode cX11_act 72 = .ok (.ifCond .eq 10, 3) := by decide +kernel
theorem dX11_act_75 : decode cX11_act 75 = .ok (.aload_n 0, 1) := by decide +kernel
theorem dX11_act_76 : decode cX11_act 76 = .ok (.iload 6, 2) := by decide +kernel
theorem dX11_act_78 : decode cX11_act 78 = .ok (.invokevirtual 104, 3) := by decide +kernel
theorem dX11_act_81 : decode cX11_act 81 = .ok (.ireturn, 1) := by decide +kernel
theorem dX11_act_82 : decode cX11_act 82 = .ok (.aload_n 0, 1) := by decide +kernel
theorem dX11_act_83 : decode cX11_act 83 = .ok (.getfield 87, 3) := by decide +kernel
theorem dX11_act_86 : decode cX11_act 86 = .ok (.ifCond .ne 6, 3) := by decide +kernel
theorem dX11_act_89 : decode cX11_act 89 = .ok (.bipush (-3), 2) := by decide +kernel
theorem dX11_act_91 : decode cX11_act 91 = .ok (.ireturn, 1) := by decide +kernel
theorem dX11_act_92 : decode cX11_act 92 = .ok (.bipush 60, 2) := by decide +kernel
theorem dX11_act_94 : decode cX11_act 94 = .ok (.iload_n 1, 1) := by decide +kernel
theorem dX11_act_95 : decode cX11_act 95 = .ok (.imul, 1) := by decide +kernel
theorem dX11_act_96 : decode cX11_act 96 = .ok (.iload_n 3, 1) := by decide +kernel
theorem dX11_act_97 : decode cX11_act 97 = .ok (.iadd, 1) := by decide +kernel
theorem dX11_act_98 : decode cX11_act 98 = .ok (.istore 7, 2) := by decide +kernel
theorem dX11_act_100 : decode cX11_act 100 = .ok (.aload_n 0, 1) := by decide +kernel
theorem dX11_act_101 : decode cX11_act 101 = .ok (.iload 7, 2) := by decide +kernel
theorem dX11_act_103 : decode cX11_act 103 = .ok (.iload 4, 2) := by decide +kernel
theorem dX11_act_105 : decode cX11_act 105 = .ok (.invokevirtual 194, 3) := by decide +kernel
theorem dX11_act_108 : decode cX11_act 108 = .ok (.istore 8, 2) := by decide +kernel
theorem dX11_act_110 : decode cX11_act 110 = .ok (.iload 8, 2) := by decide +kernel
theorem dX11_act_112 : decode cX11_act 112 = .ok (.ifCond .eq 6, 3) := by decide +kernel
theorem dX11_act_115 : decode cX11_act 115 = .ok (.iload 8, 2) := by decide +kernel
theorem dX11_act_117 : decode cX11_act 117 = .ok (.ireturn, 1) := by decide +kernel
theorem dX11_act_118 : decode cX11_act 118 = .ok (.aload_n 0, 1) := by decide +kernel
theorem dX11_act_119 : decode cX11_act 119 = .ok (.invokevirtual 219, 3) := by decide +kernel
theorem dX11_act_122 : decode cX11_act 122 = .ok (.aload_n 0, 1) := by decide +kernel
theorem dX11_act_123 : decode cX11_act 123 = .ok (.iload 7, 2) := by decide +kernel
theorem dX11_act_125 : decode cX11_act 125 = .ok (.iload 4, 2) := by decide +kernel
