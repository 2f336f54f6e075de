theorem dX8_fewestBehind_2 : decode cX8_fewestBehind 2 = .ok (.istore_n 3, 1) := by decide +kernel
theorem dX8_fewestBehind_3 : decode cX8_fewestBehind 3 = .ok (.iconst 1, 1) := by decide +kernel
theorem dX8_fewestBehind_4 : decode cX8_fewestBehind 4 = .ok (.istore 4, 2) := by decide +kernel
theorem dX8_fewestBehind_6 : decode cX8_fewestBehind 6 = .ok (.iload 4, 2) := by decide +kernel
theorem dX8_fewestBehind_8 : decode cX8_fewestBehind 8 = .ok (.iload_n 2, 1) := by decide +kernel
theorem dX8_fewestBehind_9 : decode cX8_fewestBehind 9 = .ok (.if_icmp .gt 69, 3) := by decide +kernel
theorem dX8_fewestBehind_12 : decode cX8_fewestBehind 12 = .ok (.aload_n 0, 1) := by decide +kernel
theorem dX8_fewestBehind_13 : decode cX8_fewestBehind 13 = .ok (.getfield 11, 3) := by decide +kernel
theorem dX8_fewestBehind_16 : decode cX8_fewestBehind 16 = .ok (.iload_n 1, 1) := by decide +kernel
theorem dX8_fewestBehind_17 : decode cX8_fewestBehind 17 = .ok (.iaload, 1) := by decide +kernel
theorem dX8_fewestBehind_18 : decode cX8_fewestBehind 18 = .ok (.iload 4, 2) := by decide +kernel
theorem dX8_fewestBehind_20 : decode cX8_fewestBehind 20 = .ok (.iushr, 1) := by decide +kernel
theorem dX8_fewestBehind_21 : decode cX8_fewestBehind 21 = .ok (.iconst 1, 1) := by decide +kernel
theorem dX8_fewestBehind_22 : decode cX8_fewestBehind 22 = .ok (.iand, 1) := by decide +kernel
theorem dX8_fewestBehind_23 : decode cX8_fewestBehind 23 = .ok (.iconst 1, 1) := by decide +kernel
theorem dX8_fewestBehind_24 : decode cX8_fewestBehind 24 = .ok (.if_icmp .ne 48, 3) := by decide +kernel
theorem dX8_fewestBehind_27 : decode cX8_fewestBehind 27 = .ok (.aload_n 0, 1) := by decide +kernel
theorem dX8_fewestBehind_28 : decode cX8_fewestBehind 28 = .ok (.getfield 15, 3) := by decide +kernel
theorem dX8_fewestBehind_31 : decode cX8_fewestBehind 31 = .ok (.iload_n 1, 1) := by decide +kernel
theorem dX8_fewestBehind_32 : decode cX8_fewestBehind 32 = .ok (.iload 4, 2) := by decide +kernel
theorem dX8_fewestBehind_34 : decode cX8_fewestBehind 34 = .ok (.ior, 1) := by decide +kernel
theorem dX8_fewestBehind_35 : decode cX8_fewestBehind 35 = .ok (.iaload, 1) := by decide +kernel
theorem dX8_fewestBehind_36 : decode cX8_fewestBehind 36 = .ok (.bipush (-9), 2) := by decide +kernel
theorem dX8_fewestBehind_38 : decode cX8_fewestBehind 38 = .ok (.if_icmp .eq 34, 3) := by decide +kernel
theorem dX8_fewestBehind_41 : decode cX8_fewestBehind 41 = .ok (.aload_n 0, 1) := by decide +kernel
theorem dX8_fewestBehind_42 : decode cX8_fewestBehind 42 = .ok (.getfield 15, 3) := by decide +kernel
theorem dX8_fewestBehind_45 : decode cX8_fewestBehind 45 = .ok (.iload_n 1, 1) := by decide +kernel
theorem dX8_fewestBehind_46 : decode cX8_fewestBehind 46 = .ok (.iload 4, 2) := by decide +kernel
theorem dX8_fewestBehind_48 : decode cX8_fewestBehind 48 = .ok (.ior, 1) := by decide +kernel
theorem dX8_fewestBehind_49 : decode cX8_fewestBehind 49 = .ok (.iaload, 1) := by decide +kernel
theorem dX8_fewestBehind_50 : decode cX8_fewestBehind 50 = .ok (.iconst 1, 1) := by decide +kernel
theorem dX8_fewestBehind_51 : decode cX8_fewestBehind 51 = .ok (.iadd, 1) := by decide +kernel
theorem dX8_fewestBehind_52 : decode cX8_fewestBehind 52 = .ok (.istore 5, 2) := by decide +kernel
theorem dX8_fewestBehind_54 : decode cX8_fewestBehind 54 = .ok (.iload_n 3, 1) := by decide +kernel
theorem dX8_fewestBehind_55 : decode cX8_fewestBehind 55 = .ok (.bipush (-9), 2) := by decide +kernel
theorem dX8_fewestBehind_57 : decode cX8_fewestBehind 57 = .ok (.if_icmp .ne 8, 3) := by decide +kernel
theorem dX8_fewestBehind_60 : decode cX8_fewestBehind 60 = .ok (.iload 5, 2) := by decide +kernel
theorem dX8_fewestBehind_62 : decode cX8_fewestBehind 62 = .ok (.goto 9, 3) := by decide +kernel
theorem dX8_fewestBehind_65 : decode cX8_fewestBehind 65 = .ok (.iload_n 3, 1) := by decide +kernel
theorem dX8_fewestBehind_66 : decode cX8_fewestBehind 66 = .ok (.iload 5, 2) := by decide +kernel
theorem dX8_fewestBehind_68 : decode cX8_fewestBehind 68 = .ok (.invokestatic 83, 3) := by decide +kernel
theorem dX8_fewestBehind_71 : decode cX8_fewestBehind 71 = .ok (.istore_n 3, 1) := by decide +kernel
theorem dX8_fewestBehind_72 : decode cX8_fewestBehind 72 = .ok (.iinc 4 1, 3) := by decide +kernel
theorem dX8_fewestBehind_75 : decode cX8_fewestBehind 75 = .ok (.goto (-69), 3) := by decide +kernel
theorem dX8_fewestBehind_78 : decode cX8_fewestBehind 78 = .ok (.iload_n 3, 1) := by decide +kernel
theorem dX8_fewestBehind_79 : decode cX8_fewestBehind 79 = .ok (.ireturn, 1) := by decide +kernel
set_option maxRecDepth 20000 in
theorem ggX8_chooseRow_X8_readRow : GoodIn wsX8_chooseRow wsX8_readRow := goodIn_r _ [6, 7, 1, 8, 9, 10, 11, 12, 18, 19, 20, 21, 22, 23, 24] (by decide +kernel) (by decide +kernel)
set_option maxRecDepth 20000 in
theorem gX8_chooseRow_X8_readRow : GoodIn wsX8_chooseRow (wsV RX8 88 RX8 yX8_readRow wsX8_readRow) := goodIn_app (goodIn_of _ (by decide +kernel)) ggX8_chooseRow_X8_readRow
set_option maxRecDepth 20000 in
theorem ggX8_chooseRow_X8_rowCanBe : GoodIn wsX8_chooseRow wsX8_rowCanBe := goodIn_r _ [16, 1, 17, 7, 18, 19, 20, 21, 22, 23, 24] (by decide +kernel) (by decide +kernel)
set_option maxRecDepth 20000 in
theorem gX8_chooseRow_X8_rowCanBe : GoodIn wsX8_chooseRow (wsV RX8 92 RX8 yX8_rowCanBe wsX8_rowCanBe) := goodIn_app (goodIn_of _ (by decide +kernel)) ggX8_chooseRow_X8_rowCanBe
theorem dX8_chooseRow_0 : decode cX8_chooseRow 0 = .ok (.iconst 1, 1) := by decide +kernel
theorem dX8_chooseRow_1 : decode cX8_chooseRow 1 = .ok (.istore_n 2, 1) := by decide +kernel
theorem dX8_chooseRow_2 : decode cX8_chooseRow 2 = .ok (.iconst 0, 1) := by decide +kernel
theorem dX8_chooseRow_3 : decode cX8_chooseRow 3 = .ok (.istore_n 3, 1) := by decide +kernel
theorem dX8_chooseRow_4 : decode cX8_chooseRow 4 = .ok (.iload_n 3, 1) := by decide +kernel
theorem dX8_chooseRow_5 : decode cX8_chooseRow 5 = .ok (.iload_n 1, 1) := by decide +kernel
theorem dX8_chooseRow_6 : decode cX8_chooseRow 6 = .ok (.if_icmp .ge 16, 3) := by decide +kernel
theorem dX8_chooseRow_9 : decode cX8_chooseRow 9 = .ok (.iload_n 2, 1) := by decide +kernel
theorem dX8_chooseRow_10 : decode cX8_chooseRow 10 = .ok (.aload_n 0, 1) := by decide +kernel
theorem dX8_chooseRow_11 : decode cX8_chooseRow 11 = .ok (.getfield 44, 3) := by decide +kernel
theorem dX8_chooseRow_14 : decode cX8_chooseRow 14 = .ok (.imul, 1) := by decide +kernel
theorem dX8_chooseRow_15 : decode cX8_chooseRow 15 = .ok (.istore_n 2, 1) := by decide +kernel
theorem dX8_chooseRow_16 : decode cX8_chooseRow 16 = .ok (.iinc 3 1, 3) := by decide +kernel
theorem dX8_chooseRow_19 : decode cX8_chooseRow 19 = .ok (.goto (-15), 3) := by decide +kernel
theorem dX8_chooseRow_22 : decode cX8_chooseRow 22 = .ok (.iconst 0, 1) := by decide +kernel
theorem dX8_chooseRow_23 : decode cX8_chooseRow 23 = .ok (.istore_n 3, 1) := by decide +kernel
theorem dX8_chooseRow_24 : decode cX8_chooseRow 24 = .ok (.iload_n 3, 1) := by decide +kernel
theorem dX8_chooseRow_25 : decode cX8_chooseRow 25 = .ok (.iload_n 2, 1) := by decide +kernel
theorem dX8_chooseRow_26 : decode cX8_chooseRow 26 = .ok (.if_icmp .ge 24, 3) := by decide +kernel
theorem dX8_chooseRow_29 : decode cX8_chooseRow 29 = .ok (.aload_n 0, 1) := by decide +kernel
theorem dX8_chooseRow_30 : decode cX8_chooseRow 30 = .ok (.iload_n 3, 1) := by decide +kernel
theorem dX8_chooseRow_31 : decode cX8_chooseRow 31 = .ok (.iload_n 1, 1) := by decide +kernel
theorem dX8_chooseRow_32 : decode cX8_chooseRow 32 = .ok (.invokevirtual 88, 3) := by decide +kernel
theorem dX8_chooseRow_35 : decode cX8_chooseRow 35 = .ok (.aload_n 0, 1) := by decide +kernel
theorem dX8_chooseRow_36 : decode cX8_chooseRow 36 = .ok (.invokevirtual 92, 3) := by decide +kernel
theorem dX8_chooseRow_39 : decode cX8_chooseRow 39 = .ok (.ifCond .eq 5, 3) := by decide +kernel
theorem dX8_chooseRow_42 : decode cX8_chooseRow 42 = .ok (.iconst 1, 1) := by decide +kernel
theorem dX8_chooseRow_43 : decode cX8_chooseRow 43 = .ok (.ireturn, 1) := by decide +kernel
theorem dX8_chooseRow_44 : decode cX8_chooseRow 44 = .ok (.iinc 3 1, 3) := by decide +kernel
theorem dX8_chooseRow_47 : decode cX8_chooseRow 47 = .ok (.goto (-23), 3) := by decide +kernel
theorem dX8_chooseRow_50 : decode cX8_chooseRow 50 = .ok (.iconst 0, 1) := by decide +kernel
theorem dX8_chooseRow_51 : decode cX8_chooseRow 51 = .ok (.ireturn, 1) := by decide +kernel
theorem dX8_readRow_0 : decode cX8_readRow 0 = .ok (.iconst 0, 1) := by decide +kernel
theorem dX8_readRow_1 : decode cX8_readRow 1 = .ok (.istore_n 3, 1) := by decide +kernel
theorem dX8_readRow_2 : decode cX8_readRow 2 = .ok (.iload_n 3, 1) := by decide +kernel
theorem dX8_readRow_3 : decode cX8_readRow 3 = .ok (.iconst 5, 1) := by decide +kernel
theorem dX8_readRow_4 : decode cX8_readRow 4 = .ok (.if_icmp .ge 16, 3) := by decide +kernel
theorem dX8_readRow_7 : decode cX8_readRow 7 = .ok (.aload_n 0, 1) := by decide +kernel
theorem dX8_readRow_8 : decode cX8_readRow 8 = .ok (.getfield 27, 3) := by decide +kernel
theorem dX8_readRow_11 : decode cX8_readRow 11 = .ok (.iload_n 3, 1) := by decide +kernel
theorem dX8_readRow_12 : decode cX8_readRow 12 = .ok (.iconst 0, 1) := by decide +kernel
theorem dX8_readRow_13 : decode cX8_readRow 13 = .ok (.iastore, 1) := by decide +kernel
theorem dX8_readRow_14 : decode cX8_readRow 14 = .ok (.iinc 3 1, 3) := by decide +kernel
theorem dX8_readRow_17 : decode cX8_readRow 17 = .ok (.goto (-15), 3) := by decide +kernel
theorem dX8_readRow_20 : decode cX8_readRow 20 = .ok (.aload_n 0, 1) := by decide +kernel
theorem dX8_readRow_21 : decode cX8_readRow 21 = .ok (.getfield 44, 3) := by decide +kernel
theorem dX8_readRow_24 : decode cX8_readRow 24 = .ok (.iconst 1, 1) := by decide +kernel
theorem dX8_readRow_25 : decode cX8_readRow 25 = .ok (.invokestatic 96, 3) := by decide +kernel
theorem dX8_readRow_28 : decode cX8_readRow 28 = .ok (.istore_n 3, 1) := by decide +kernel
theorem dX8_readRow_29 : decode cX8_readRow 29 = .ok (.iload_n 1, 1) := by decide +kernel
theorem dX8_readRow_30 : decode cX8_readRow 30 = .ok (.istore 4, 2) := by decide +kernel
theorem dX8_readRow_32 : decode cX8_readRow 32 = .ok (.iload_n 2, 1) := by decide +kernel
theorem dX8_readRow_33 : decode cX8_readRow 33 = .ok (.iconst 1, 1) := by decide +kernel
theorem dX8_readRow_34 : decode cX8_readRow 34 = .ok (.isub, 1) := by decide +kernel
theorem dX8_readRow_35 : decode cX8_readRow 35 = .ok (.istore 5, 2) := by decide +kernel
theorem dX8_readRow_37 : decode cX8_readRow 37 = .ok (.iload 5, 2) := by decide +kernel
theorem dX8_readRow_39 : decode cX8_readRow 39 = .ok (.ifCond .lt 45, 3) := by decide +kernel
theorem dX8_readRow_42 : decode cX8_readRow 42 = .ok (.aload_n 0, 1) := by decide +kernel
theorem dX8_readRow_43 : decode cX8_readRow 43 = .ok (.getfield 24, 3) := by decide +kernel
theorem dX8_readRow_46 : decode cX8_readRow 46 = .ok (.iload 5, 2) := by decide +kernel
theorem dX8_readRow_48 : decode cX8_readRow 48 = .ok (.iload 4, 2) := by decide +kernel
theorem dX8_readRow_50 : decode cX8_readRow 50 = .ok (.iload_n 3, 1) := by decide +kernel
theorem dX8_readRow_51 : decode cX8_readRow 51 = .ok (.irem, 1) := by decide +kernel
theorem dX8_readRow_52 : decode cX8_readRow 52 = .ok (.iastore, 1) := by decide +kernel
theorem dX8_readRow_53 : decode cX8_readRow 53 = .ok (.aload_n 0, 1) := by decide +kernel
theorem dX8_readRow_54 : decode cX8_readRow 54 = .ok (.getfield 27, 3) := by decide +kernel
theorem dX8_readRow_57 : decode cX8_readRow 57 = .ok (.aload_n 0, 1) := by decide +kernel
theorem dX8_readRow_58 : decode cX8_readRow 58 = .ok (.getfield 24, 3) := by decide +kernel
theorem dX8_readRow_61 : decode cX8_readRow 61 = .ok (.iload 5, 2) := by decide +kernel
theorem dX8_readRow_63 : decode cX8_readRow 63 = .ok (.iaload, 1) := by decide +kernel
theorem dX8_readRow_64 : decode cX8_readRow 64 = .ok (.dup2, 1) := by decide +kernel
theorem dX8_readRow_65 : decode cX8_readRow 65 = .ok (.iaload, 1) := by decide +kernel
theorem dX8_readRow_66 : decode cX8_readRow 66 = .ok (.iconst 1, 1) := by decide +kernel
theorem dX8_readRow_67 : decode cX8_readRow 67 = .ok (.iload 5, 2) := by decide +kernel
theorem dX8_readRow_69 : decode cX8_readRow 69 = .ok (.ishl, 1) := by decide +kernel
theorem dX8_readRow_70 : decode cX8_readRow 70 = .ok (.ior, 1) := by decide +kernel
theorem dX8_readRow_71 : decode cX8_readRow 71 = .ok (.iastore, 1) := by decide +kernel
theorem dX8_readRow_72 : decode cX8_readRow 72 = .ok (.iload 4, 2) := by decide +kernel
theorem dX8_readRow_74 : decode cX8_readRow 74 = .ok (.iload_n 3, 1) := by decide +kernel
theorem dX8_readRow_75 : decode cX8_readRow 75 = .ok (.idiv, 1) := by decide +kernel
theorem dX8_readRow_76 : decode cX8_readRow 76 = .ok (.istore 4, 2) := by decide +kernel
theorem dX8_readRow_78 : decode cX8_readRow 78 = .ok (.iinc 5 (-1), 3) := by decide +kernel
theorem dX8_readRow_81 : decode cX8_readRow 81 = .ok (.goto (-44), 3) := by decide +kernel
theorem dX8_readRow_84 : decode cX8_readRow 84 = .ok (.return_, 1) := by decide +kernel
theorem dX8_rowCanBe_0 : decode cX8_rowCanBe 0 = .ok (.iconst 0, 1) := by decide +kernel
theorem dX8_rowCanBe_1 : decode cX8_rowCanBe 1 = .ok (.istore_n 1, 1) := by decide +kernel
theorem dX8_rowCanBe_2 : decode cX8_rowCanBe 2 = .ok (.iconst 0, 1) := by decide +kernel
theorem dX8_rowCanBe_3 : decode cX8_rowCanBe 3 = .ok (.istore_n 2, 1) := by decide +kernel
theorem dX8_rowCanBe_4 : decode cX8_rowCanBe 4 = .ok (.iload_n 2, 1) := by decide +kernel
theorem dX8_rowCanBe_5 : decode cX8_rowCanBe 5 = .ok (.aload_n 0, 1) := by decide +kernel
theorem dX8_rowCanBe_6 : decode cX8_rowCanBe 6 = .ok (.getfield 44, 3) := by decide +kernel
theorem dX8_rowCanBe_9 : decode cX8_rowCanBe 9 = .ok (.if_icmp .ge 38, 3) := by decide +kernel
theorem dX8_rowCanBe_12 : decode cX8_rowCanBe 12 = .ok (.aload_n 0, 1) := by decide +kernel
theorem dX8_rowCanBe_13 : decode cX8_rowCanBe 13 = .ok (.getfield 11, 3) := by decide +kernel
theorem dX8_rowCanBe_16 : decode cX8_rowCanBe 16 = .ok (.iload_n 1, 1) := by decide +kernel
theorem dX8_rowCanBe_17 : decode cX8_rowCanBe 17 = .ok (.iaload, 1) := by decide +kernel
theorem dX8_rowCanBe_18 : decode cX8_rowCanBe 18 = .ok (.aload_n 0, 1) := by decide +kernel
theorem dX8_rowCanBe_19 : decode cX8_rowCanBe 19 = .ok (.getfield 27, 3) := by decide +kernel
theorem dX8_rowCanBe_22 : decode cX8_rowCanBe 22 = .ok (.iload_n 2, 1) := by decide +kernel
theorem dX8_rowCanBe_23 : decode cX8_rowCanBe 23 = .ok (.iaload, 1) := by decide +kernel
theorem dX8_rowCanBe_24 : decode cX8_rowCanBe 24 = .ok (.iushr, 1) := by decide +kernel
theorem dX8_rowCanBe_25 : decode cX8_rowCanBe 25 = .ok (.iconst 1, 1) := by decide +kernel
theorem dX8_rowCanBe_26 : decode cX8_rowCanBe 26 = .ok (.iand, 1) := by decide +kernel
theorem dX8_rowCanBe_27 : decode cX8_rowCanBe 27 = .ok (.ifCond .ne 5, 3) := by decide +kernel
theorem dX8_rowCanBe_30 : decode cX8_rowCanBe 30 = .ok (.iconst 0, 1) := by decide +kernel
theorem dX8_rowCanBe_31 : decode cX8_rowCanBe 31 = .ok (.ireturn, 1) := by decide +kernel
theorem dX8_rowCanBe_32 : decode cX8_rowCanBe 32 = .ok (.iload_n 1, 1) := by decide +kernel
theorem dX8_rowCanBe_33 : decode cX8_rowCanBe 33 = .ok (.aload_n 0, 1) := by decide +kernel
theorem dX8_rowCanBe_34 : decode cX8_rowCanBe 34 = .ok (.getfield 27, 3) := by decide +kernel
theorem dX8_rowCanBe_37 : decode cX8_rowCanBe 37 = .ok (.iload_n 2, 1) := by decide +kernel
theorem dX8_rowCanBe_38 : decode cX8_rowCanBe 38 = .ok (.iaload, 1) := by decide +kernel
theorem dX8_rowCanBe_39 : decode cX8_rowCanBe 39 = .ok (.ior, 1) := by decide +kernel
theorem dX8_rowCanBe_40 : decode cX8_rowCanBe 40 = .ok (.istore_n 1, 1) := by decide +kernel
theorem dX8_rowCanBe_41 : decode cX8_rowCanBe 41 = .ok (.iinc 2 1, 3) := by decide +kernel
theorem dX8_rowCanBe_44 : decode cX8_rowCanBe 44 = .ok (.goto (-40), 3) := by decide +kernel
theorem dX8_rowCanBe_47 : decode cX8_rowCanBe 47 = .ok (.iconst 1, 1) := by decide +kernel
theorem dX8_rowCanBe_48 : decode cX8_rowCanBe 48 = .ok (.ireturn, 1) := by decide +kernel
set_option maxRecDepth 20000 in
theorem ggX9_firstFault_X9_goesOn : GoodIn wsX9_firstFault wsX9_goesOn := goodIn_r _ [4, 5, 6, 7, 8, 9, 3, 10] (by decide +kernel) (by decide +kernel)
set_option maxRecDepth 20000 in
theorem gX9_firstFault_X9_goesOn : GoodIn wsX9_firstFault (va_wsS RX9 9 yX9_goesOn wsX9_goesOn) := goodIn_app (goodIn_of _ (by decide +kernel)) ggX9_firstFault_X9_goesOn
theorem dX9_firstFault_0 : decode cX9_firstFault 0 = .ok (.iconst 0, 1) := by decide +kernel
theorem dX9_firstFault_1 : decode cX9_firstFault 1 = .ok (.istore_n 3, 1) := by decide +kernel
theorem dX9_firstFault_2 : decode cX9_firstFault 2 = .ok (.iload_n 3, 1) := by decide +kernel
theorem dX9_firstFault_3 : decode cX9_firstFault 3 = .ok (.iload_n 2, 1) := by decide +kernel
theorem dX9_firstFault_4 : decode cX9_firstFault 4 = .ok (.if_icmp .ge 23, 3) := by decide +kernel
theorem dX9_firstFault_7 : decode cX9_firstFault 7 = .ok (.iload_n 3, 1) := by decide +kernel
theorem dX9_firstFault_8 : decode cX9_firstFault 8 = .ok (.aload_n 0, 1) := by decide +kernel
theorem dX9_firstFault_9 : decode cX9_firstFault 9 = .ok (.iload_n 1, 1) := by decide +kernel
theorem dX9_firstFault_10 : decode cX9_firstFault 10 = .ok (.iload_n 3, 1) := by decide +kernel
theorem dX9_firstFault_11 : decode cX9_firstFault 11 = .ok (.iadd, 1) := by decide +kernel
theorem dX9_firstFault_12 : decode cX9_firstFault 12 = .ok (.iaload, 1) := by decide +kernel
theorem dX9_firstFault_13 : decode cX9_firstFault 13 = .ok (.invokestatic 9, 3) := by decide +kernel
theorem dX9_firstFault_16 : decode cX9_firstFault 16 = .ok (.ifCond .ne 5, 3) := by decide +kernel
theorem dX9_firstFault_19 : decode cX9_firstFault 19 = .ok (.iload_n 3, 1) := by decide +kernel
theorem dX9_firstFault_20 : decode cX9_firstFault 20 = .ok (.ireturn, 1) := by decide +kernel
theorem dX9_firstFault_21 : decode cX9_firstFault 21 = .ok (.iinc 3 1, 3) := by decide +kernel
theorem dX9_firstFault_24 : decode cX9_firstFault 24 = .ok (.goto (-22), 3) := by decide +kernel
theorem dX9_firstFault_27 : decode cX9_firstFault 27 = .ok (.iload_n 2, 1) := by decide +kernel
theorem dX9_firstFault_28 : decode cX9_firstFault 28 = .ok (.bipush 16, 2) := by decide +kernel
theorem dX9_firstFault_30 : decode cX9_firstFault 30 = .ok (.if_icmp .lt 16, 3) := by decide +kernel
theorem dX9_firstFault_33 : decode cX9_firstFault 33 = .ok (.iload_n 2, 1) := by decide +kernel
theorem dX9_firstFault_34 : decode cX9_firstFault 34 = .ok (.iconst 4, 1) := by decide +kernel
theorem dX9_firstFault_35 : decode cX9_firstFault 35 = .ok (.isub, 1) := by decide +kernel
theorem dX9_firstFault_36 : decode cX9_firstFault 36 = .ok (.bipush 6, 2) := by decide +kernel
theorem dX9_firstFault_38 : decode cX9_firstFault 38 = .ok (.irem, 1) := by decide +kernel
theorem dX9_firstFault_39 : decode cX9_firstFault 39 = .ok (.ifCond .ne 7, 3) := by decide +kernel
theorem dX9_firstFault_42 : decode cX9_firstFault 42 = .ok (.iconst 1, 1) := by decide +kernel
theorem dX9_firstFault_43 : decode cX9_firstFault 43 = .ok (.goto 4, 3) := by decide +kernel
theorem dX9_firstFault_46 : decode cX9_firstFault 46 = .ok (.iconst 0, 1) := by decide +kernel
theorem dX9_firstFault_47 : decode cX9_firstFault 47 = .ok (.istore_n 3, 1) := by decide +kernel
theorem dX9_firstFault_48 : decode cX9_firstFault 48 = .ok (.iload_n 3, 1) := by decide +kernel
theorem dX9_firstFault_49 : decode cX9_firstFault 49 = .ok (.ifCond .eq 8, 3) := by decide +kernel
theorem dX9_firstFault_52 : decode cX9_firstFault 52 = .ok (.bipush (-9), 2) := by decide +kernel
theorem dX9_firstFault_54 : decode cX9_firstFault 54 = .ok (.goto 4, 3) := by decide +kernel
theorem dX9_firstFault_57 : decode cX9_firstFault 57 = .ok (.iload_n 2, 1) := by decide +kernel
theorem dX9_firstFault_58 : decode cX9_firstFault 58 = .ok (.ireturn, 1) := by decide +kernel
set_option maxRecDepth 20000 in
theorem ggX9_goesOn_X10_within : GoodIn wsX9_goesOn wsX10_within := goodIn_r _ [3] (by decide +kernel) (by decide +kernel)
set_option maxRecDepth 20000 in
theorem gX9_goesOn_X10_within_n15 : GoodIn wsX9_goesOn (wsX10_within) := ggX9_goesOn_X10_within
set_option maxRecDepth 20000 in
theorem ggX9_goesOn_X9_ofBattenGoesOn : GoodIn wsX9_goesOn wsX9_ofBattenGoesOn := goodIn_r _ [7, 1, 2, 3] (by decide +kernel) (by decide +kernel)
set_option maxRecDepth 20000 in
theorem gX9_goesOn_X9_ofBattenGoesOn : GoodIn wsX9_goesOn (va_wsS RX9 19 yX9_ofBattenGoesOn wsX9_ofBattenGoesOn) := goodIn_app (goodIn_of _ (by decide +kernel)) ggX9_goesOn_X9_ofBattenGoesOn
theorem dX9_goesOn_0 : decode cX9_goesOn 0 = .ok (.iload_n 0, 1) := by decide +kernel
theorem dX9_goesOn_1 : decode cX9_goesOn 1 = .ok (.bipush 52, 2) := by decide +kernel
theorem dX9_goesOn_3 : decode cX9_goesOn 3 = .ok (.if_icmp .lt 5, 3) := by decide +kernel
theorem dX9_goesOn_6 : decode cX9_goesOn 6 = .ok (.iconst 0, 1) := by decide +kernel
theorem dX9_goesOn_7 : decode cX9_goesOn 7 = .ok (.ireturn, 1) := by decide +kernel
theorem dX9_goesOn_8 : decode cX9_goesOn 8 = .ok (.iload_n 0, 1) := by decide +kernel
theorem dX9_goesOn_9 : decode cX9_goesOn 9 = .ok (.tableswitch 70 0 3 #[31, 43, 52, 61], 31) := by decide +kernel
theorem dX9_goesOn_40 : decode cX9_goesOn 40 = .ok (.iload_n 1, 1) := by decide +kernel
theorem dX9_goesOn_41 : decode cX9_goesOn 41 = .ok (.bipush 102, 2) := by decide +kernel
theorem dX9_goesOn_43 : decode cX9_goesOn 43 = .ok (.if_icmp .ne 7, 3) := by decide +kernel
theorem dX9_goesOn_46 : decode cX9_goesOn 46 = .ok (.iconst 1, 1) := by decide +kernel
theorem dX9_goesOn_47 : decode cX9_goesOn 47 = .ok (.goto 4, 3) := by decide +kernel
theorem dX9_goesOn_50 : decode cX9_goesOn 50 = .ok (.iconst 0, 1) := by decide +kernel
theorem dX9_goesOn_51 : decode cX9_goesOn 51 = .ok (.ireturn, 1) := by decide +kernel
theorem dX9_goesOn_52 : decode cX9_goesOn 52 = .ok (.iload_n 1, 1) := by decide +kernel
theorem dX9_goesOn_53 : decode cX9_goesOn 53 = .ok (.bipush 49, 2) := by decide +kernel
theorem dX9_goesOn_55 : decode cX9_goesOn 55 = .ok (.bipush 54, 2) := by decide +kernel
theorem dX9_goesOn_57 : decode cX9_goesOn 57 = .ok (.invokestatic 15, 3) := by decide +kernel
theorem dX9_goesOn_60 : decode cX9_goesOn 60 = .ok (.ireturn, 1) := by decide +kernel
theorem dX9_goesOn_61 : decode cX9_goesOn 61 = .ok (.iload_n 1, 1) := by decide +kernel
theorem dX9_goesOn_62 : decode cX9_goesOn 62 = .ok (.bipush 49, 2) := by decide +kernel
theorem dX9_goesOn_64 : decode cX9_goesOn 64 = .ok (.bipush 57, 2) := by decide +kernel
theorem dX9_goesOn_66 : decode cX9_goesOn 66 = .ok (.invokestatic 15, 3) := by decide +kernel
theorem dX9_goesOn_69 : decode cX9_goesOn 69 = .ok (.ireturn, 1) := by decide +kernel
theorem dX9_goesOn_70 : decode cX9_goesOn 70 = .ok (.iload_n 1, 1) := by decide +kernel
theorem dX9_goesOn_71 : decode cX9_goesOn 71 = .ok (.bipush 48, 2) := by decide +kernel
theorem dX9_goesOn_73 : decode cX9_goesOn 73 = .ok (.bipush 57, 2) := by decide +kernel
theorem dX9_goesOn_75 : decode cX9_goesOn 75 = .ok (.invokestatic 15, 3) := by decide +kernel
theorem dX9_goesOn_78 : decode cX9_goesOn 78 = .ok (.ireturn, 1) := by decide +kernel
theorem dX9_goesOn_79 : decode cX9_goesOn 79 = .ok (.iload_n 0, 1) := by decide +kernel
theorem dX9_goesOn_80 : decode cX9_goesOn 80 = .ok (.iconst 4, 1) := by decide +kernel
theorem dX9_goesOn_81 : decode cX9_goesOn 81 = .ok (.isub, 1) := by decide +kernel
theorem dX9_goesOn_82 : decode cX9_goesOn 82 = .ok (.bipush 6, 2) := by decide +kernel
theorem dX9_goesOn_84 : decode cX9_goesOn 84 = .ok (.irem, 1) := by decide +kernel
theorem dX9_goesOn_85 : decode cX9_goesOn 85 = .ok (.iload_n 1, 1) := by decide +kernel
theorem dX9_goesOn_86 : decode cX9_goesOn 86 = .ok (.invokestatic 19, 3) := by decide +kernel
theorem dX9_goesOn_89 : decode cX9_goesOn 89 = .ok (.ireturn, 1) := by decide +kernel
set_option maxRecDepth 20000 in
theorem ggX9_ofBattenGoesOn_X10_within : GoodIn wsX9_ofBattenGoesOn wsX10_within := goodIn_r _ [3] (by decide +kernel) (by decide +kernel)
set_option maxRecDepth 20000 in
theorem gX9_ofBattenGoesOn_X10_within_n15 : GoodIn wsX9_ofBattenGoesOn (wsX10_within) := ggX9_ofBattenGoesOn_X10_within
theorem dX9_ofBattenGoesOn_0 : decode cX9_ofBattenGoesOn 0 = .ok (.iload_n 0, 1) := by decide +kernel
theorem dX9_ofBattenGoesOn_1 : decode cX9_ofBattenGoesOn 1 = .ok (.lookupswitch 80 #[(0, 35), (1, 47), (5, 71)], 35) := by decide +kernel
theorem dX9_ofBattenGoesOn_36 : decode cX9_ofBattenGoesOn 36 = .ok (.iload_n 1, 1) := by decide +kernel
theorem dX9_ofBattenGoesOn_37 : decode cX9_ofBattenGoesOn 37 = .ok (.bipush 59, 2) := by decide +kernel
theorem dX9_ofBattenGoesOn_39 : decode cX9_ofBattenGoesOn 39 = .ok (.if_icmp .ne 7, 3) := by decide +kernel
theorem dX9_ofBattenGoesOn_42 : decode cX9_ofBattenGoesOn 42 = .ok (.iconst 1, 1) := by decide +kernel
theorem dX9_ofBattenGoesOn_43 : decode cX9_ofBattenGoesOn 43 = .ok (.goto 4, 3) := by decide +kernel
theorem dX9_ofBattenGoesOn_46 : decode cX9_ofBattenGoesOn 46 = .ok (.iconst 0, 1) := by decide +kernel
theorem dX9_ofBattenGoesOn_47 : decode cX9_ofBattenGoesOn 47 = .ok (.ireturn, 1) := by decide +kernel
theorem dX9_ofBattenGoesOn_48 : decode cX9_ofBattenGoesOn 48 = .ok (.iload_n 1, 1) := by decide +kernel
theorem dX9_ofBattenGoesOn_49 : decode cX9_ofBattenGoesOn 49 = .ok (.bipush 108, 2) := by decide +kernel
theorem dX9_ofBattenGoesOn_51 : decode cX9_ofBattenGoesOn 51 = .ok (.if_icmp .eq 15, 3) := by decide +kernel
theorem dX9_ofBattenGoesOn_54 : decode cX9_ofBattenGoesOn 54 = .ok (.iload_n 1, 1) := by decide +kernel
theorem dX9_ofBattenGoesOn_55 : decode cX9_ofBattenGoesOn 55 = .ok (.bipush 97, 2) := by decide +kernel
theorem dX9_ofBattenGoesOn_57 : decode cX9_ofBattenGoesOn 57 = .ok (.if_icmp .eq 9, 3) := by decide +kernel
theorem dX9_ofBattenGoesOn_60 : decode cX9_ofBattenGoesOn 60 = .ok (.iload_n 1, 1) := by decide +kernel
theorem dX9_ofBattenGoesOn_61 : decode cX9_ofBattenGoesOn 61 = .ok (.bipush 119, 2) := by decide +kernel
theorem dX9_ofBattenGoesOn_63 : decode cX9_ofBattenGoesOn 63 = .ok (.if_icmp .ne 7, 3) := by decide +kernel
theorem dX9_ofBattenGoesOn_66 : decode cX9_ofBattenGoesOn 66 = .ok (.iconst 1, 1) := by decide +kernel
theorem dX9_ofBattenGoesOn_67 : decode cX9_ofBattenGoesOn 67 = .ok (.goto 4, 3) := by decide +kernel
theorem dX9_ofBattenGoesOn_70 : decode cX9_ofBattenGoesOn 70 = .ok (.iconst 0, 1) := by decide +kernel
theorem dX9_ofBattenGoesOn_71 : decode cX9_ofBattenGoesOn 71 = .ok (.ireturn, 1) := by decide +kernel
theorem dX9_ofBattenGoesOn_72 : decode cX9_ofBattenGoesOn 72 = .ok (.iload_n 1, 1) := by decide +kernel
theorem dX9_ofBattenGoesOn_73 : decode cX9_ofBattenGoesOn 73 = .ok (.bipush 48, 2) := by decide +kernel
theorem dX9_ofBattenGoesOn_75 : decode cX9_ofBattenGoesOn 75 = .ok (.bipush 51, 2) := by decide +kernel
theorem dX9_ofBattenGoesOn_77 : decode cX9_ofBattenGoesOn 77 = .ok (.invokestatic 15, 3) := by decide +kernel
theorem dX9_ofBattenGoesOn_80 : decode cX9_ofBattenGoesOn 80 = .ok (.ireturn, 1) := by decide +kernel
theorem dX9_ofBattenGoesOn_81 : decode cX9_ofBattenGoesOn 81 = .ok (.iload_n 1, 1) := by decide +kernel
theorem dX9_ofBattenGoesOn_82 : decode cX9_ofBattenGoesOn 82 = .ok (.bipush 48, 2) := by decide +kernel
theorem dX9_ofBattenGoesOn_84 : decode cX9_ofBattenGoesOn 84 = .ok (.bipush 57, 2) := by decide +kernel
theorem dX9_ofBattenGoesOn_86 : decode cX9_ofBattenGoesOn 86 = .ok (.invokestatic 15, 3) := by decide +kernel
theorem dX9_ofBattenGoesOn_89 : decode cX9_ofBattenGoesOn 89 = .ok (.ireturn, 1) := by decide +kernel
theorem dX9_kindOf_0 : decode cX9_kindOf 0 = .ok (.iload_n 0, 1) := by decide +kernel
theorem dX9_kindOf_1 : decode cX9_kindOf 1 = .ok (.bipush 108, 2) := by decide +kernel
theorem dX9_kindOf_3 : decode cX9_kindOf 3 = .ok (.if_icmp .ne 7, 3) := by decide +kernel
theorem dX9_kindOf_6 : decode cX9_kindOf 6 = .ok (.iconst 0, 1) := by decide +kernel
theorem dX9_kindOf_7 : decode cX9_kindOf 7 = .ok (.goto 14, 3) := by decide +kernel
theorem dX9_kindOf_10 : decode cX9_kindOf 10 = .ok (.iload_n 0, 1) := by decide +kernel
theorem dX9_kindOf_11 : decode cX9_kindOf 11 = .ok (.bipush 97, 2) := by decide +kernel
theorem dX9_kindOf_13 : decode cX9_kindOf 13 = .ok (.if_icmp .ne 7, 3) := by decide +kernel
theorem dX9_kindOf_16 : decode cX9_kindOf 16 = .ok (.iconst 1, 1) := by decide +kernel
theorem dX9_kindOf_17 : decode cX9_kindOf 17 = .ok (.goto 4, 3) := by decide +kernel
theorem dX9_kindOf_20 : decode cX9_kindOf 20 = .ok (.iconst 2, 1) := by decide +kernel
theorem dX9_kindOf_21 : decode cX9_kindOf 21 = .ok (.ireturn, 1) := by decide +kernel
set_option maxRecDepth 20000 in
theorem ggX10_init_X7_init : GoodIn wsX10_init wsX7_init := goodIn_r _ [43, 44, 2, 3, 45, 46, 110, 111, 112, 113] (by decide +kernel) (by decide +kernel)
set_option maxRecDepth 20000 in
theorem gX10_init_X7_init_n17 : GoodIn wsX10_init (wsX7_init) := ggX10_init_X7_init
set_option maxRecDepth 20000 in
theorem ggX10_init_X6_init : GoodIn wsX10_init wsX6_init := goodIn_r _ [48, 49, 2, 3, 45, 50, 51, 52, 114, 115, 116, 117, 118, 119] (by decide +kernel) (by decide +kernel)
set_option maxRecDepth 20000 in
theorem gX10_init_X6_init_n24 : GoodIn wsX10_init (wsX6_init) := ggX10_init_X6_init
set_option maxRecDepth 20000 in
theorem ggX10_init_X1_init : GoodIn wsX10_init wsX1_init := goodIn_r _ [54, 55, 2, 3, 45, 56, 57, 58, 10, 11, 59, 47, 48, 49, 50, 51, 52, 120, 121, 122, 123, 114, 115, 116, 117, 118, 119] (by decide +kernel) (by decide +kernel)
set_option maxRecDepth 20000 in
theorem gX10_init_X1_init_n31 : GoodIn wsX10_init (wsX1_init) := ggX10_init_X1_init
set_option maxRecDepth 20000 in
theorem ggX10_init_X3_init : GoodIn wsX10_init wsX3_init := goodIn_r _ [62, 63, 2, 3, 64, 65, 10, 11, 47, 48, 49, 45, 50, 51, 52, 124, 125, 126, 114, 115, 116, 117, 118, 119] (by decide +kernel) (by decide +kernel)
set_option maxRecDepth 20000 in
theorem gX10_init_X3_init : GoodIn wsX10_init (wsX3_init) := ggX10_init_X3_init
set_option maxRecDepth 20000 in
theorem ggX10_init_X5_init : GoodIn wsX10_init wsX5_init := goodIn_r _ [67, 68, 2, 3, 45, 69, 70, 71, 127, 128, 129, 130] (by decide +kernel) (by decide +kernel)
set_option maxRecDepth 20000 in
theorem gX10_init_X5_init_n45 : GoodIn wsX10_init (wsX5_init) := ggX10_init_X5_init
set_option maxRecDepth 20000 in
theorem ggX10_init_X2_init : GoodIn wsX10_init wsX2_init := goodIn_r _ [73, 74, 2, 3, 45, 75, 76, 131, 132, 133] (by decide +kernel) (by decide +kernel)
set_option maxRecDepth 20000 in
theorem gX10_init_X2_init_n52 : GoodIn wsX10_init (wsX2_init) := ggX10_init_X2_init
set_option maxRecDepth 20000 in
theorem ggX10_init_X0_init : GoodIn wsX10_init wsX0_init := goodIn_r _ [78, 79, 2, 3, 45, 80, 81, 134, 135, 136, 137, 138] (by decide +kernel) (by decide +kernel)
set_option maxRecDepth 20000 in
theorem gX10_init_X0_init_n59 : GoodIn wsX10_init (wsX0_init) := ggX10_init_X0_init
set_option maxRecDepth 20000 in
theorem ggX10_init_X4_init : GoodIn wsX10_init wsX4_init := goodIn_r _ [83, 84, 2, 3, 45, 85, 86, 87, 88, 139, 140, 141, 142, 143, 144] (by decide +kernel) (by decide +kernel)
set_option maxRecDepth 20000 in
theorem gX10_init_X4_init_n66 : GoodIn wsX10_init (wsX4_init) := ggX10_init_X4_init
set_option maxRecDepth 20000 in
theorem ggX10_init_X8_init : GoodIn wsX10_init wsX8_init := goodIn_r _ [90, 91, 2, 3, 45, 92, 93, 94, 95, 96, 97, 145, 146, 147, 148, 149, 150, 151] (by decide +kernel) (by decide +kernel)
set_option maxRecDepth 20000 in
theorem gX10_init_X8_init_n73 : GoodIn wsX10_init (wsX8_init) := ggX10_init_X8_init
theorem dX10_init_0 : decode cX10_init 0 = .ok (.aload_n 0, 1) := by decide +kernel
theorem dX10_init_1 : decode cX10_init 1 = .ok (.invokespecial 3, 3) := by decide +kernel
theorem dX10_init_4 : decode cX10_init 4 = .ok (.aload_n 0, 1) := by decide +kernel
theorem dX10_init_5 : decode cX10_init 5 = .ok (.iconst 4, 1) := by decide +kernel
theorem dX10_init_6 : decode cX10_init 6 = .ok (.anewarray 11, 3) := by decide +kernel
theorem dX10_init_9 : decode cX10_init 9 = .ok (.putfield 13, 3) := by decide +kernel
theorem dX10_init_12 : decode cX10_init 12 = .ok (.iconst 0, 1) := by decide +kernel
theorem dX10_init_13 : decode cX10_init 13 = .ok (.istore_n 1, 1) := by decide +kernel
theorem dX10_init_14 : decode cX10_init 14 = .ok (.iload_n 1, 1) := by decide +kernel
theorem dX10_init_15 : decode cX10_init 15 = .ok (.iconst 4, 1) := by decide +kernel
theorem dX10_init_16 : decode cX10_init 16 = .ok (.if_icmp .ge 22, 3) := by decide +kernel
theorem dX10_init_19 : decode cX10_init 19 = .ok (.aload_n 0, 1) := by decide +kernel
theorem dX10_init_20 : decode cX10_init 20 = .ok (.getfield 13, 3) := by decide +kernel
theorem dX10_init_23 : decode cX10_init 23 = .ok (.iload_n 1, 1) := by decide +kernel
theorem dX10_init_24 : decode cX10_init 24 = .ok (.new 11, 3) := by decide +kernel
theorem dX10_init_27 : decode cX10_init 27 = .ok (.dup, 1) := by decide +kernel
theorem dX10_init_28 : decode cX10_init 28 = .ok (.invokespecial 17, 3) := by decide +kernel
theorem dX10_init_31 : decode cX10_init 31 = .ok (.aastore, 1) := by decide +kernel
theorem dX10_init_32 : decode cX10_init 32 = .ok (.iinc 1 1, 3) := by decide +kernel
theorem dX10_init_35 : decode cX10_init 35 = .ok (.goto (-21), 3) := by decide +kernel
theorem dX10_init_38 : decode cX10_init 38 = .ok (.aload_n 0, 1) := by decide +kernel
theorem dX10_init_39 : decode cX10_init 39 = .ok (.iconst 2, 1) := by decide +kernel
theorem dX10_init_40 : decode cX10_init 40 = .ok (.anewarray 18, 3) := by decide +kernel
theorem dX10_init_43 : decode cX10_init 43 = .ok (.putfield 20, 3) := by decide +kernel
theorem dX10_init_46 : decode cX10_init 46 = .ok (.iconst 0, 1) := by decide +kernel
theorem dX10_init_47 : decode cX10_init 47 = .ok (.istore_n 1, 1) := by decide +kernel
theorem dX10_init_48 : decode cX10_init 48 = .ok (.iload_n 1, 1) := by decide +kernel
theorem dX10_init_49 : decode cX10_init 49 = .ok (.iconst 2, 1) := by decide +kernel
theorem dX10_init_50 : decode cX10_init 50 = .ok (.if_icmp .ge 22, 3) := by decide +kernel
theorem dX10_init_53 : decode cX10_init 53 = .ok (.aload_n 0, 1) := by decide +kernel
theorem dX10_init_54 : decode cX10_init 54 = .ok (.getfield 20, 3) := by decide +kernel
theorem dX10_init_57 : decode cX10_init 57 = .ok (.iload_n 1, 1) := by decide +kernel
theorem dX10_init_58 : decode cX10_init 58 = .ok (.new 18, 3) := by decide +kernel
theorem dX10_init_61 : decode cX10_init 61 = .ok (.dup, 1) := by decide +kernel
theorem dX10_init_62 : decode cX10_init 62 = .ok (.invokespecial 24, 3) := by decide +kernel
theorem dX10_init_65 : decode cX10_init 65 = .ok (.aastore, 1) := by decide +kernel
theorem dX10_init_66 : decode cX10_init 66 = .ok (.iinc 1 1, 3) := by decide +kernel
theorem dX10_init_69 : decode cX10_init 69 = .ok (.goto (-21), 3) := by decide +kernel
theorem dX10_init_72 : decode cX10_init 72 = .ok (.aload_n 0, 1) := by decide +kernel
theorem dX10_init_73 : decode cX10_init 73 = .ok (.iconst 2, 1) := by decide +kernel
theorem dX10_init_74 : decode cX10_init 74 = .ok (.newarray .boolean, 2) := by decide +kernel
theorem dX10_init_76 : decode cX10_init 76 = .ok (.putfield 25, 3) := by decide +kernel
theorem dX10_init_79 : decode cX10_init 79 = .ok (.aload_n 0, 1) := by decide +kernel
theorem dX10_init_80 : decode cX10_init 80 = .ok (.new 29, 3) := by decide +kernel
theorem dX10_init_83 : decode cX10_init 83 = .ok (.dup, 1) := by decide +kernel
theorem dX10_init_84 : decode cX10_init 84 = .ok (.invokespecial 31, 3) := by decide +kernel
theorem dX10_init_87 : decode cX10_init 87 = .ok (.putfield 32, 3) := by decide +kernel
theorem dX10_init_90 : decode cX10_init 90 = .ok (.aload_n 0, 1) := by decide +kernel
theorem dX10_init_91 : decode cX10_init 91 = .ok (.new 36, 3) := by decide +kernel
theorem dX10_init_94 : decode cX10_init 94 = .ok (.dup, 1) := by decide +kernel
theorem dX10_init_95 : decode cX10_init 95 = .ok (.invokespecial 38, 3) := by decide +kernel
theorem dX10_init_98 : decode cX10_init 98 = .ok (.putfield 39, 3) := by decide +kernel
theorem dX10_init_101 : decode cX10_init 101 = .ok (.aload_n 0, 1) := by decide +kernel
theorem dX10_init_102 : decode cX10_init 102 = .ok (.new 43, 3) := by decide +kernel
theorem dX10_init_105 : decode cX10_init 105 = .ok (.dup, 1) := by decide +kernel
theorem dX10_init_106 : decode cX10_init 106 = .ok (.invokespecial 45, 3) := by decide +kernel
theorem dX10_init_109 : decode cX10_init 109 = .ok (.putfield 46, 3) := by decide +kernel
theorem dX10_init_112 : decode cX10_init 112 = .ok (.aload_n 0, 1) := by decide +kernel
theorem dX10_init_113 : decode cX10_init 113 = .ok (.new 50, 3) := by decide +kernel
theorem dX10_init_116 : decode cX10_init 116 = .ok (.dup, 1) := by decide +kernel
theorem dX10_init_117 : decode cX10_init 117 = .ok (.invokespecial 52, 3) := by decide +kernel
theorem dX10_init_120 : decode cX10_init 120 = .ok (.putfield 53, 3) := by decide +kernel
theorem dX10_init_123 : decode cX10_init 123 = .ok (.aload_n 0, 1) := by decide +kernel
theorem dX10_init_124 : decode cX10_init 124 = .ok (.new 57, 3) := by decide +kernel
theorem dX10_init_127 : decode cX10_init 127 = .ok (.dup, 1) := by decide +kernel
theorem dX10_init_128 : decode cX10_init 128 = .ok (.invokespecial 59, 3) := by decide +kernel
theorem dX10_init_131 : decode cX10_init 131 = .ok (.putfield 60, 3) := by decide +kernel
theorem dX10_init_134 : decode cX10_init 134 = .ok (.aload_n 0, 1) := by decide +kernel
theorem dX10_init_135 : decode cX10_init 135 = .ok (.new 64, 3) := by decide +kernel
theorem dX10_init_138 : decode cX10_init 138 = .ok (.dup, 1) := by decide +kernel
theorem dX10_init_139 : decode cX10_init 139 = .ok (.invokespecial 66, 3) := by decide +kernel
theorem dX10_init_142 : decode cX10_init 142 = .ok (.putfield 67, 3) := by decide +kernel
theorem dX10_init_145 : decode cX10_init 145 = .ok (.aload_n 0, 1) := by decide +kernel
theorem dX10_init_146 : decode cX10_init 146 = .ok (.new 71, 3) := by decide +kernel
theorem dX10_init_149 : decode cX10_init 149 = .ok (.dup, 1) := by decide +kernel
theorem dX10_init_150 : decode cX10_init 150 = .ok (.invokespecial 73, 3) := by decide +kernel
theorem dX10_init_153 : decode cX10_init 153 = .ok (.putfield 74, 3) := by decide +kernel
theorem dX10_init_156 : decode cX10_init 156 = .ok (.return_, 1) := by decide +kernel
set_option maxRecDepth 20000 in
theorem ggX10_loft_X10_isSheet : GoodIn wsX10_loft wsX10_isSheet := goodIn_r _ [13, 14, 15, 12, 16] (by decide +kernel) (by decide +kernel)
set_option maxRecDepth 20000 in
theorem gX10_loft_X10_isSheet : GoodIn wsX10_loft (va_wsS RX10 82 yX10_isSheet wsX10_isSheet) := goodIn_app (goodIn_of _ (by decide +kernel)) ggX10_loft_X10_isSheet
set_option maxRecDepth 20000 in
theorem ggX10_loft_X10_isLane : GoodIn wsX10_loft wsX10_isLane := goodIn_r _ [19, 14, 15, 12, 16] (by decide +kernel) (by decide +kernel)
set_option maxRecDepth 20000 in
theorem gX10_loft_X10_isLane : GoodIn wsX10_loft (va_wsS RX10 86 yX10_isLane wsX10_isLane) := goodIn_app (goodIn_of _ (by decide +kernel)) ggX10_loft_X10_isLane
set_option maxRecDepth 20000 in
theorem ggX10_loft_X7_faultOf : GoodIn wsX10_loft wsX7_faultOf := goodIn_r _ [24, 25, 26, 27, 28, 29, 23, 30, 31, 82, 83, 84, 85] (by decide +kernel) (by decide +kernel)
set_option maxRecDepth 20000 in
theorem gX10_loft_X7_faultOf : GoodIn wsX10_loft (wsV RX10 89 RX7 yX7_faultOf wsX7_faultOf) := goodIn_app (goodIn_of _ (by decide +kernel)) ggX10_loft_X7_faultOf
set_option maxRecDepth 20000 in
theorem ggX10_loft_X10_faulted : GoodIn wsX10_loft wsX10_faulted := goodIn_r _ [35, 1, 70, 71, 72, 73, 74, 75, 76, 77, 78, 79, 80, 81] (by decide +kernel) (by decide +kernel)
set_option maxRecDepth 20000 in
theorem gX10_loft_X10_faulted : GoodIn wsX10_loft (wsV RX10 93 RX10 yX10_faulted wsX10_faulted) := goodIn_app (goodIn_of _ (by decide +kernel)) ggX10_loft_X10_faulted
set_option maxRecDepth 20000 in
theorem ggX10_loft_X9_firstFault : GoodIn wsX10_loft wsX9_firstFault := goodIn_r _ [39, 40, 41, 38, 42, 15, 12, 16, 43, 44, 45] (by decide +kernel) (by decide +kernel)
set_option maxRecDepth 20000 in
theorem gX10_loft_X9_firstFault : GoodIn wsX10_loft (va_wsS RX10 101 yX9_firstFault wsX9_firstFault) := goodIn_app (goodIn_of _ (by decide +kernel)) ggX10_loft_X9_firstFault
set_option maxRecDepth 20000 in
theorem ggX10_loft_X1_build : GoodIn wsX10_loft wsX1_build := goodIn_r _ [50, 51, 52, 53, 54, 55, 56, 57, 58, 59, 60, 61, 62, 38, 63, 90, 91, 92, 93, 94, 95, 96, 97, 98, 99] (by decide +kernel) (by decide +kernel)
set_option maxRecDepth 20000 in
theorem gX10_loft_X1_build : GoodIn wsX10_loft (wsV RX10 107 RX1 yX1_build wsX1_build) := goodIn_app (goodIn_of _ (by decide +kernel)) ggX10_loft_X1_build
set_option maxRecDepth 20000 in
theorem ggX10_loft_X3_forget : GoodIn wsX10_loft wsX3_forget := goodIn_r _ [68, 69, 100, 101, 102] (by decide +kernel) (by decide +kernel)
set_option maxRecDepth 20000 in
theorem gX10_loft_X3_forget : GoodIn wsX10_loft (wsV RX10 111 RX3 yX3_forget wsX3_forget) := goodIn_app (goodIn_of _ (by decide +kernel)) ggX10_loft_X3_forget
theorem dX10_loft_0 : decode cX10_loft 0 = .ok (.aload_n 0, 1) := by decide +kernel
theorem dX10_loft_1 : decode cX10_loft 1 = .ok (.iconst 0, 1) := by decide +kernel
theorem dX10_loft_2 : decode cX10_loft 2 = .ok (.putfield 78, 3) := by decide +kernel
theorem dX10_loft_5 : decode cX10_loft 5 = .ok (.iload_n 1, 1) := by decide +kernel
theorem dX10_loft_6 : decode cX10_loft 6 = .ok (.invokestatic 82, 3) := by decide +kernel
theorem dX10_loft_9 : decode cX10_loft 9 = .ok (.ifCond .ne 5, 3) := by decide +kernel
theorem dX10_loft_12 : decode cX10_loft 12 = .ok (.iconst (-1), 1) := by decide +kernel
theorem dX10_loft_13 : decode cX10_loft 13 = .ok (.ireturn, 1) := by decide +kernel
theorem dX10_loft_14 : decode cX10_loft 14 = .ok (.iload_n 2, 1) := by decide +kernel
theorem dX10_loft_15 : decode cX10_loft 15 = .ok (.invokestatic 86, 3) := by decide +kernel
theorem dX10_loft_18 : decode cX10_loft 18 = .ok (.ifCond .ne 6, 3) := by decide +kernel
theorem dX10_loft_21 : decode cX10_loft 21 = .ok (.bipush (-2), 2) := by decide +kernel
theorem dX10_loft_23 : decode cX10_loft 23 = .ok (.ireturn, 1) := by decide +kernel
theorem dX10_loft_24 : decode cX10_loft 24 = .ok (.aload_n 0, 1) := by decide +kernel
theorem dX10_loft_25 : decode cX10_loft 25 = .ok (.getfield 13, 3) := by decide +kernel
theorem dX10_loft_28 : decode cX10_loft 28 = .ok (.iload_n 1, 1) := by decide +kernel
theorem dX10_loft_29 : decode cX10_loft 29 = .ok (.aaload, 1) := by decide +kernel
theorem dX10_loft_30 : decode cX10_loft 30 = .ok (.astore 5, 2) := by decide +kernel
theorem dX10_loft_32 : decode cX10_loft 32 = .ok (.aload 5, 2) := by decide +kernel
theorem dX10_loft_34 : decode cX10_loft 34 = .ok (.iload_n 2, 1) := by decide +kernel
theorem dX10_loft_35 : decode cX10_loft 35 = .ok (.iload_n 3, 1) := by decide +kernel
theorem dX10_loft_36 : decode cX10_loft 36 = .ok (.iload 4, 2) := by decide +kernel
theorem dX10_loft_38 : decode cX10_loft 38 = .ok (.invokevirtual 89, 3) := by decide +kernel
theorem dX10_loft_41 : decode cX10_loft 41 = .ok (.istore 6, 2) := by decide +kernel
theorem dX10_loft_43 : decode cX10_loft 43 = .ok (.iload 6, 2) := by decide +kernel
theorem dX10_loft_45 : decode cX10_loft 45 = .ok (.ifCond .eq 10, 3) := by decide +kernel
theorem dX10_loft_48 : decode cX10_loft 48 = .ok (.aload_n 0, 1) := by decide +kernel
theorem dX10_loft_49 : decode cX10_loft 49 = .ok (.iload 6, 2) := by decide +kernel
theorem dX10_loft_51 : decode cX10_loft 51 = .ok (.invokevirtual 93, 3) := by decide +kernel
theorem dX10_loft_54 : decode cX10_loft 54 = .ok (.ireturn, 1) := by decide +kernel
theorem dX10_loft_55 : decode cX10_loft 55 = .ok (.aload 5, 2) := by decide +kernel
theorem dX10_loft_57 : decode cX10_loft 57 = .ok (.getfield 97, 3) := by decide +kernel
theorem dX10_loft_60 : decode cX10_loft 60 = .ok (.iload_n 3, 1) := by decide +kernel
theorem dX10_loft_61 : decode cX10_loft 61 = .ok (.iload 4, 2) := by decide +kernel
theorem dX10_loft_63 : decode cX10_loft 63 = .ok (.invokestatic 101, 3) := by decide +kernel
theorem dX10_loft_66 : decode cX10_loft 66 = .ok (.istore 7, 2) := by decide +kernel
theorem dX10_loft_68 : decode cX10_loft 68 = .ok (.iload 7, 2) := by decide +kernel
theorem dX10_loft_70 : decode cX10_loft 70 = .ok (.bipush (-9), 2) := by decide +kernel
theorem dX10_loft_72 : decode cX10_loft 72 = .ok (.if_icmp .eq 9, 3) := by decide +kernel
theorem dX10_loft_75 : decode cX10_loft 75 = .ok (.bipush (-100), 2) := by decide +kernel
theorem dX10_loft_77 : decode cX10_loft 77 = .ok (.iload 7, 2) := by decide +kernel
theorem dX10_loft_79 : decode cX10_loft 79 = .ok (.isub, 1) := by decide +kernel
theorem dX10_loft_80 : decode cX10_loft 80 = .ok (.ireturn, 1) := by decide +kernel
theorem dX10_loft_81 : decode cX10_loft 81 = .ok (.aload_n 0, 1) := by decide +kernel
theorem dX10_loft_82 : decode cX10_loft 82 = .ok (.getfield 32, 3) := by decide +kernel
theorem dX10_loft_85 : decode cX10_loft 85 = .ok (.aload 5, 2) := by decide +kernel
theorem dX10_loft_87 : decode cX10_loft 87 = .ok (.getfield 97, 3) := by decide +kernel
theorem dX10_loft_90 : decode cX10_loft 90 = .ok (.iload_n 3, 1) := by decide +kernel
theorem dX10_loft_91 : decode cX10_loft 91 = .ok (.iload 4, 2) := by decide +kernel
theorem dX10_loft_93 : decode cX10_loft 93 = .ok (.invokevirtual 107, 3) := by decide +kernel
theorem dX10_loft_96 : decode cX10_loft 96 = .ok (.aload_n 0, 1) := by decide +kernel
theorem dX10_loft_97 : decode cX10_loft 97 = .ok (.getfield 39, 3) := by decide +kernel
theorem dX10_loft_100 : decode cX10_loft 100 = .ok (.invokevirtual 111, 3) := by decide +kernel
theorem dX10_loft_103 : decode cX10_loft 103 = .ok (.aload_n 0, 1) := by decide +kernel
theorem dX10_loft_104 : decode cX10_loft 104 = .ok (.getfield 46, 3) := by decide +kernel
theorem dX10_loft_107 : decode cX10_loft 107 = .ok (.iconst 0, 1) := by decide +kernel
theorem dX10_loft_108 : decode cX10_loft 108 = .ok (.putfield 114, 3) := by decide +kernel
theorem dX10_loft_111 : decode cX10_loft 111 = .ok (.iconst 0, 1) := by decide +kernel
theorem dX10_loft_112 : decode cX10_loft 112 = .ok (.istore 8, 2) := by decide +kernel
theorem dX10_loft_114 : decode cX10_loft 114 = .ok (.iload 8, 2) := by decide +kernel
theorem dX10_loft_116 : decode cX10_loft 116 = .ok (.iconst 2, 1) := by decide +kernel
theorem dX10_loft_117 : decode cX10_loft 117 = .ok (.if_icmp .ge 17, 3) := by decide +kernel
theorem dX10_loft_120 : decode cX10_loft 120 = .ok (.aload_n 0, 1) := by decide +kernel
theorem dX10_loft_121 : decode cX10_loft 121 = .ok (.getfield 25, 3) := by decide +kernel
theorem dX10_loft_124 : decode cX10_loft 124 = .ok (.iload 8, 2) := by decide +kernel
theorem dX10_loft_126 : decode cX10_loft 126 = .ok (.iconst 0, 1) := by decide +kernel
theorem dX10_loft_127 : decode cX10_loft 127 = .ok (.bastore, 1) := by decide +kernel
theorem dX10_loft_128 : decode cX10_loft 128 = .ok (.iinc 8 1, 3) := by decide +kernel
theorem dX10_loft_131 : decode cX10_loft 131 = .ok (.goto (-17), 3) := by decide +kernel
theorem dX10_loft_134 : decode cX10_loft 134 = .ok (.aload_n 0, 1) := by decide +kernel
theorem dX10_loft_135 : decode cX10_loft 135 = .ok (.getfield 32, 3) := by decide +kernel
theorem dX10_loft_138 : decode cX10_loft 138 = .ok (.getfield 117, 3) := by decide +kernel
theorem dX10_loft_141 : decode cX10_loft 141 = .ok (.ireturn, 1) := by decide +kernel
set_option maxRecDepth 20000 in
theorem ggX10_ofBatten_X1_has : GoodIn wsX10_ofBatten wsX1_has := goodIn_r _ [12, 13, 50, 51, 52, 53] (by decide +kernel) (by decide +kernel)
set_option maxRecDepth 20000 in
theorem gX10_ofBatten_X1_has : GoodIn wsX10_ofBatten (wsV RX10 118 RX1 yX1_has wsX1_has) := goodIn_app (goodIn_of _ (by decide +kernel)) ggX10_ofBatten_X1_has
set_option maxRecDepth 20000 in
theorem ggX10_ofBatten_X1_pull : GoodIn wsX10_ofBatten wsX1_pull := goodIn_r _ [17, 18, 19, 20, 21, 22, 23, 24, 25, 26, 27, 28, 29, 30, 31, 50, 51, 52, 53, 54, 55, 56, 57, 58, 59] (by decide +kernel) (by decide +kernel)
set_option maxRecDepth 20000 in
theorem gX10_ofBatten_X1_pull : GoodIn wsX10_ofBatten (wsV RX10 140 RX1 yX1_pull wsX1_pull) := goodIn_app (goodIn_of _ (by decide +kernel)) ggX10_ofBatten_X1_pull
set_option maxRecDepth 20000 in
theorem ggX10_ofBatten_X1_edge : GoodIn wsX10_ofBatten wsX1_edge := goodIn_r _ [35, 36, 37, 30, 27, 31, 50, 51, 52, 53] (by decide +kernel) (by decide +kernel)
set_option maxRecDepth 20000 in
theorem gX10_ofBatten_X1_edge : GoodIn wsX10_ofBatten (wsV RX10 143 RX1 yX1_edge wsX1_edge) := goodIn_app (goodIn_of _ (by decide +kernel)) ggX10_ofBatten_X1_edge
theorem dX10_ofBatten_0 : decode cX10_ofBatten 0 = .ok (.aload_n 0, 1) := by decide +kernel
theorem dX10_ofBatten_1 : decode cX10_ofBatten 1 = .ok (.getfield 32, 3) := by decide +kernel
theorem dX10_ofBatten_4 : decode cX10_ofBatten 4 = .ok (.iload_n 1, 1) := by decide +kernel
theorem dX10_ofBatten_5 : decode cX10_ofBatten 5 = .ok (.invokevirtual 118, 3) := by decide +kernel
theorem dX10_ofBatten_8 : decode cX10_ofBatten 8 = .ok (.ifCond .ne 5, 3) := by decide +kernel
theorem dX10_ofBatten_11 : decode cX10_ofBatten 11 = .ok (.iconst (-1), 1) := by decide +kernel
theorem dX10_ofBatten_12 : decode cX10_ofBatten 12 = .ok (.ireturn, 1) := by decide +kernel
theorem dX10_ofBatten_13 : decode cX10_ofBatten 13 = .ok (.iload_n 2, 1) := by decide +kernel
theorem dX10_ofBatten_14 : decode cX10_ofBatten 14 = .ok (.tableswitch 131 0 6 #[42, 52, 65, 78, 91, 101, 110], 42) := by decide +kernel
theorem dX10_ofBatten_56 : decode cX10_ofBatten 56 = .ok (.aload_n 0, 1) := by decide +kernel
theorem dX10_ofBatten_57 : decode cX10_ofBatten 57 = .ok (.getfield 32, 3) := by decide +kernel
theorem dX10_ofBatten_60 : decode cX10_ofBatten 60 = .ok (.getfield 121, 3) := by decide +kernel
theorem dX10_ofBatten_63 : decode cX10_ofBatten 63 = .ok (.iload_n 1, 1) := by decide +kernel
theorem dX10_ofBatten_64 : decode cX10_ofBatten 64 = .ok (.iaload, 1) := by decide +kernel
theorem dX10_ofBatten_65 : decode cX10_ofBatten 65 = .ok (.ireturn, 1) := by decide +kernel
theorem dX10_ofBatten_66 : decode cX10_ofBatten 66 = .ok (.aload_n 0, 1) := by decide +kernel
theorem dX10_ofBatten_67 : decode cX10_ofBatten 67 = .ok (.getfield 32, 3) := by decide +kernel
theorem dX10_ofBatten_70 : decode cX10_ofBatten 70 = .ok (.getfield 124, 3) := by decide +kernel
theorem dX10_ofBatten_73 : decode cX10_ofBatten 73 = .ok (.getfield 128, 3) := by decide +kernel
theorem dX10_ofBatten_76 : decode cX10_ofBatten 76 = .ok (.iload_n 1, 1) := by decide +kernel
theorem dX10_ofBatten_77 : decode cX10_ofBatten 77 = .ok (.iaload, 1) := by decide +kernel
theorem dX10_ofBatten_78 : decode cX10_ofBatten 78 = .ok (.ireturn, 1) := by decide +kernel
theorem dX10_ofBatten_79 : decode cX10_ofBatten 79 = .ok (.aload_n 0, 1) := by decide +kernel
theorem dX10_ofBatten_80 : decode cX10_ofBatten 80 = .ok (.getfield 32, 3) := by decide +kernel
theorem dX10_ofBatten_83 : decode cX10_ofBatten 83 = .ok (.getfield 124, 3) := by decide +kernel
theorem dX10_ofBatten_86 : decode cX10_ofBatten 86 = .ok (.getfield 131, 3) := by decide +kernel
theorem dX10_ofBatten_89 : decode cX10_ofBatten 89 = .ok (.iload_n 1, 1) := by decide +kernel
theorem dX10_ofBatten_90 : decode cX10_ofBatten 90 = .ok (.iaload, 1) := by decide +kernel
theorem dX10_ofBatten_91 : decode cX10_ofBatten 91 = .ok (.ireturn, 1) := by decide +kernel
theorem dX10_ofBatten_92 : decode cX10_ofBatten 92 = .ok (.aload_n 0, 1) := by decide +kernel
theorem dX10_ofBatten_93 : decode cX10_ofBatten 93 = .ok (.getfield 32, 3) := by decide +kernel
theorem dX10_ofBatten_96 : decode cX10_ofBatten 96 = .ok (.getfield 124, 3) := by decide +kernel
theorem dX10_ofBatten_99 : decode cX10_ofBatten 99 = .ok (.getfield 134, 3) := by decide +kernel
theorem dX10_ofBatten_102 : decode cX10_ofBatten 102 = .ok (.iload_n 1, 1) := by decide +kernel
theorem dX10_ofBatten_103 : decode cX10_ofBatten 103 = .ok (.iaload, 1) := by decide +kernel
theorem dX10_ofBatten_104 : decode cX10_ofBatten 104 = .ok (.ireturn, 1) := by decide +kernel
theorem dX10_ofBatten_105 : decode cX10_ofBatten 105 = .ok (.aload_n 0, 1) := by decide +kernel
theorem dX10_ofBatten_106 : decode cX10_ofBatten 106 = .ok (.getfield 32, 3) := by decide +kernel
theorem dX10_ofBatten_109 : decode cX10_ofBatten 109 = .ok (.getfield 137, 3) := by decide +kernel
theorem dX10_ofBatten_112 : decode cX10_ofBatten 112 = .ok (.iload_n 1, 1) := by decide +kernel
theorem dX10_ofBatten_113 : decode cX10_ofBatten 113 = .ok (.iaload, 1) := by decide +kernel
theorem dX10_ofBatten_114 : decode cX10_ofBatten 114 = .ok (.ireturn, 1) := by decide +kernel
theorem dX10_ofBatten_115 : decode cX10_ofBatten 115 = .ok (.aload_n 0, 1) := by decide +kernel
theorem dX10_ofBatten_116 : decode cX10_ofBatten 116 = .ok (.getfield 32, 3) := by decide +kernel
theorem dX10_ofBatten_119 : decode cX10_ofBatten 119 = .ok (.iload_n 1, 1) := by decide +kernel
theorem dX10_ofBatten_120 : decode cX10_ofBatten 120 = .ok (.invokevirtual 140, 3) := by decide +kernel
theorem dX10_ofBatten_123 : decode cX10_ofBatten 123 = .ok (.ireturn, 1) := by decide +kernel
theorem dX10_ofBatten_124 : decode cX10_ofBatten 124 = .ok (.aload_n 0, 1) := by decide +kernel
theorem dX10_ofBatten_125 : decode cX10_ofBatten 125 = .ok (.getfield 32, 3) := by decide +kernel
theorem dX10_ofBatten_128 : decode cX10_ofBatten 128 = .ok (.iload_n 1, 1) := by decide +kernel
theorem dX10_ofBatten_129 : decode cX10_ofBatten 129 = .ok (.aload_n 0, 1) := by decide +kernel
theorem dX10_ofBatten_130 : decode cX10_ofBatten 130 = .ok (.getfield 32, 3) := by decide +kernel
theorem dX10_ofBatten_133 : decode cX10_ofBatten 133 = .ok (.getfield 124, 3) := by decide +kernel
theorem dX10_ofBatten_136 : decode cX10_ofBatten 136 = .ok (.getfield 134, 3) := by decide +kernel
theorem dX10_ofBatten_139 : decode cX10_ofBatten 139 = .ok (.iload_n 1, 1) := by decide +kernel
theorem dX10_ofBatten_140 : decode cX10_ofBatten 140 = .ok (.iaload, 1) := by decide +kernel
theorem dX10_ofBatten_141 : decode cX10_ofBatten 141 = .ok (.invokevirtual 143, 3) := by decide +kernel
theorem dX10_ofBatten_144 : decode cX10_ofBatten 144 = .ok (.ireturn, 1) := by decide +kernel
theorem dX10_ofBatten_145 : decode cX10_ofBatten 145 = .ok (.bipush (-2), 2) := by decide +kernel
theorem dX10_ofBatten_147 : decode cX10_ofBatten 147 = .ok (.ireturn, 1) := by decide +kernel
set_option maxRecDepth 20000 in
theorem ggX10_seen_X1_seenAt : GoodIn wsX10_seen wsX1_seenAt := goodIn_r _ [9, 10, 11, 12, 13, 14, 15, 8, 16, 17, 18, 19, 20, 21, 34, 35, 36, 37, 38, 39, 40, 41, 42, 43] (by decide +kernel) (by decide +kernel)
set_option maxRecDepth 20000 in
theorem gX10_seen_X1_seenAt : GoodIn wsX10_seen (wsV RX10 147 RX1 yX1_seenAt wsX1_seenAt) := goodIn_app (goodIn_of _ (by decide +kernel)) ggX10_seen_X1_seenAt
theorem dX10_seen_0 : decode cX10_seen 0 = .ok (.aload_n 0, 1) := by decide +kernel
theorem dX10_seen_1 : decode cX10_seen 1 = .ok (.getfield 32, 3) := by decide +kernel
theorem dX10_seen_4 : decode cX10_seen 4 = .ok (.getfield 117, 3) := by decide +kernel
theorem dX10_seen_7 : decode cX10_seen 7 = .ok (.ifCond .ne 8, 3) := by decide +kernel
theorem dX10_seen_10 : decode cX10_seen 10 = .ok (.bipush (-3), 2) := by decide +kernel
theorem dX10_seen_12 : decode cX10_seen 12 = .ok (.goto 20, 3) := by decide +kernel
theorem dX10_seen_15 : decode cX10_seen 15 = .ok (.aload_n 0, 1) := by decide +kernel
theorem dX10_seen_16 : decode cX10_seen 16 = .ok (.getfield 32, 3) := by decide +kernel
theorem dX10_seen_19 : decode cX10_seen 19 = .ok (.aload_n 0, 1) := by decide +kernel
theorem dX10_seen_20 : decode cX10_seen 20 = .ok (.getfield 32, 3) := by decide +kernel
theorem dX10_seen_23 : decode cX10_seen 23 = .ok (.getfield 124, 3) := by decide +kernel
theorem dX10_seen_26 : decode cX10_seen 26 = .ok (.getfield 134, 3) := by decide +kernel
theorem dX10_seen_29 : decode cX10_seen 29 = .ok (.invokevirtual 147, 3) := by decide +kernel
theorem dX10_seen_32 : decode cX10_seen 32 = .ok (.ireturn, 1) := by decide +kernel
set_option maxRecDepth 20000 in
theorem ggX10_hides_X1_has : GoodIn wsX10_hides wsX1_has := goodIn_r _ [6, 7, 36, 37, 38, 39] (by decide +kernel) (by decide +kernel)
set_option maxRecDepth 20000 in
theorem gX10_hides_X1_has : GoodIn wsX10_hides (wsV RX10 118 RX1 yX1_has wsX1_has) := goodIn_app (goodIn_of _ (by decide +kernel)) ggX10_hides_X1_has
set_option maxRecDepth 20000 in
theorem ggX10_hides_X1_hiderOf : GoodIn wsX10_hides wsX1_hiderOf := goodIn_r _ [11, 12, 13, 14, 15, 16, 17, 5, 18, 19, 20, 21, 22, 23, 36, 37, 38, 39, 40, 41, 42, 43, 44, 45] (by decide +kernel) (by decide +kernel)
set_option maxRecDepth 20000 in
theorem gX10_hides_X1_hiderOf : GoodIn wsX10_hides (wsV RX10 151 RX1 yX1_hiderOf wsX1_hiderOf) := goodIn_app (goodIn_of _ (by decide +kernel)) ggX10_hides_X1_hiderOf
theorem dX10_hides_0 : decode cX10_hides 0 = .ok (.aload_n 0, 1) := by decide +kernel
theorem dX10_hides_1 : decode cX10_hides 1 = .ok (.getfield 32, 3) := by decide +kernel
theorem dX10_hides_4 : decode cX10_hides 4 = .ok (.iload_n 1, 1) := by decide +kernel
theorem dX10_hides_5 : decode cX10_hides 5 = .ok (.invokevirtual 118, 3) := by decide +kernel
theorem dX10_hides_8 : decode cX10_hides 8 = .ok (.ifCond .eq 14, 3) := by decide +kernel
theorem dX10_hides_11 : decode cX10_hides 11 = .ok (.aload_n 0, 1) := by decide +kernel
theorem dX10_hides_12 : decode cX10_hides 12 = .ok (.getfield 32, 3) := by decide +kernel
theorem dX10_hides_15 : decode cX10_hides 15 = .ok (.iload_n 1, 1) := by decide +kernel
theorem dX10_hides_16 : decode cX10_hides 16 = .ok (.invokevirtual 151, 3) := by decide +kernel
theorem dX10_hides_19 : decode cX10_hides 19 = .ok (.goto 4, 3) := by decide +kernel
theorem dX10_hides_22 : decode cX10_hides 22 = .ok (.iconst (-1), 1) := by decide +kernel
theorem dX10_hides_23 : decode cX10_hides 23 = .ok (.ireturn, 1) := by decide +kernel
set_option maxRecDepth 20000 in
theorem ggX10_hire_X10_within : GoodIn wsX10_hire wsX10_within := goodIn_r _ [8] (by decide +kernel) (by decide +kernel)
set_option maxRecDepth 20000 in
theorem gX10_hire_X10_within : GoodIn wsX10_hire (va_wsS RX10 154 yX10_within wsX10_within) := goodIn_app (goodIn_of _ (by decide +kernel)) ggX10_hire_X10_within
theorem dX10_hire_0 : decode cX10_hire 0 = .ok (.iload_n 1, 1) := by decide +kernel
theorem dX10_hire_1 : decode cX10_hire 1 = .ok (.iconst 1, 1) := by decide +kernel
theorem dX10_hire_2 : decode cX10_hire 2 = .ok (.bipush 6, 2) := by decide +kernel
theorem dX10_hire_4 : decode cX10_hire 4 = .ok (.invokestatic 154, 3) := by decide +kernel
theorem dX10_hire_7 : decode cX10_hire 7 = .ok (.ifCond .ne 6, 3) := by decide +kernel
theorem dX10_hire_10 : decode cX10_hire 10 = .ok (.bipush (-2), 2) := by decide +kernel
theorem dX10_hire_12 : decode cX10_hire 12 = .ok (.ireturn, 1) := by decide +kernel
theorem dX10_hire_13 : decode cX10_hire 13 = .ok (.aload_n 0, 1) := by decide +kernel
theorem dX10_hire_14 : decode cX10_hire 14 = .ok (.getfield 32, 3) := by decide +kernel
theorem dX10_hire_17 : decode cX10_hire 17 = .ok (.getfield 117, 3) := by decide +kernel
theorem dX10_hire_20 : decode cX10_hire 20 = .ok (.ifCond .ne 6, 3) := by decide +kernel
theorem dX10_hire_23 : decode cX10_hire 23 = .ok (.bipush (-3), 2) := by decide +kernel
theorem dX10_hire_25 : decode cX10_hire 25 = .ok (.ireturn, 1) := by decide +kernel
theorem dX10_hire_26 : decode cX10_hire 26 = .ok (.aload_n 0, 1) := by decide +kernel
theorem dX10_hire_27 : decode cX10_hire 27 = .ok (.getfield 32, 3) := by decide +kernel
theorem dX10_hire_30 : decode cX10_hire 30 = .ok (.getfield 124, 3) := by decide +kernel
theorem dX10_hire_33 : decode cX10_hire 33 = .ok (.getfield 158, 3) := by decide +kernel
theorem dX10_hire_36 : decode cX10_hire 36 = .ok (.istore_n 2, 1) := by decide +kernel
theorem dX10_hire_37 : decode cX10_hire 37 = .ok (.aload_n 0, 1) := by decide +kernel
theorem dX10_hire_38 : decode cX10_hire 38 = .ok (.getfield 32, 3) := by decide +kernel
theorem dX10_hire_41 : decode cX10_hire 41 = .ok (.getfield 124, 3) := by decide +kernel
theorem dX10_hire_44 : decode cX10_hire 44 = .ok (.iload_n 1, 1) := by decide +kernel
theorem dX10_hire_45 : decode cX10_hire 45 = .ok (.putfield 158, 3) := by decide +kernel
theorem dX10_hire_48 : decode cX10_hire 48 = .ok (.iload_n 2, 1) := by decide +kernel
theorem dX10_hire_49 : decode cX10_hire 49 = .ok (.ireturn, 1) := by decide +kernel
set_option maxRecDepth 20000 in
theorem ggX10_trim_X10_within : GoodIn wsX10_trim wsX10_within := goodIn_r _ [8] (by decide +kernel) (by decide +kernel)
set_option maxRecDepth 20000 in
theorem gX10_trim_X10_within : GoodIn wsX10_trim (va_wsS RX10 154 yX10_within wsX10_within) := goodIn_app (goodIn_of _ (by decide +kernel)) ggX10_trim_X10_within
theorem dX10_trim_0 : decode cX10_trim 0 = .ok (.iload_n 1, 1) := by decide +kernel
theorem dX10_trim_1 : decode cX10_trim 1 = .ok (.iconst 1, 1) := by decide +kernel
theorem dX10_trim_2 : decode cX10_trim 2 = .ok (.bipush 9, 2) := by decide +kernel
theorem dX10_trim_4 : decode cX10_trim 4 = .ok (.invokestatic 154, 3) := by decide +kernel
theorem dX10_trim_7 : decode cX10_trim 7 = .ok (.ifCond .ne 6, 3) := by decide +kernel
theorem dX10_trim_10 : decode cX10_trim 10 = .ok (.bipush (-2), 2) := by decide +kernel
theorem dX10_trim_12 : decode cX10_trim 12 = .ok (.ireturn, 1) := by decide +kernel
theorem dX10_trim_13 : decode cX10_trim 13 = .ok (.aload_n 0, 1) := by decide +kernel
theorem dX10_trim_14 : decode cX10_trim 14 = .ok (.getfield 32, 3) := by decide +kernel
theorem dX10_trim_17 : decode cX10_trim 17 = .ok (.getfield 117, 3) := by decide +kernel
theorem dX10_trim_20 : decode cX10_trim 20 = .ok (.ifCond .ne 6, 3) := by decide +kernel
theorem dX10_trim_23 : decode cX10_trim 23 = .ok (.bipush (-3), 2) := by decide +kernel
theorem dX10_trim_25 : decode cX10_trim 25 = .ok (.ireturn, 1) := by decide +kernel
theorem dX10_trim_26 : decode cX10_trim 26 = .ok (.aload_n 0, 1) := by decide +kernel
theorem dX10_trim_27 : decode cX10_trim 27 = .ok (.getfield 32, 3) := by decide +kernel
theorem dX10_trim_30 : decode cX10_trim 30 = .ok (.getfield 124, 3) := by decide +kernel
theorem dX10_trim_33 : decode cX10_trim 33 = .ok (.getfield 161, 3) := by decide +kernel
theorem dX10_trim_36 : decode cX10_trim 36 = .ok (.istore_n 2, 1) := by decide +kernel
theorem dX10_trim_37 : decode cX10_trim 37 = .ok (.aload_n 0, 1) := by decide +kernel
theorem dX10_trim_38 : decode cX10_trim 38 = .ok (.getfield 32, 3) := by decide +kernel
theorem dX10_trim_41 : decode cX10_trim 41 = .ok (.getfield 124, 3) := by decide +kernel
theorem dX10_trim_44 : decode cX10_trim 44 = .ok (.iload_n 1, 1) := by decide +kernel
theorem dX10_trim_45 : decode cX10_trim 45 = .ok (.putfield 161, 3) := by decide +kernel
theorem dX10_trim_48 : decode cX10_trim 48 = .ok (.iload_n 2, 1) := by decide +kernel
theorem dX10_trim_49 : decode cX10_trim 49 = .ok (.ireturn, 1) := by decide +kernel
set_option maxRecDepth 20000 in
theorem ggX10_fly_X1_has : GoodIn wsX10_fly wsX1_has := goodIn_r _ [8, 9, 109, 110, 111, 112] (by decide +kernel) (by decide +kernel)
set_option maxRecDepth 20000 in
theorem gX10_fly_X1_has : GoodIn wsX10_fly (wsV RX10 118 RX1 yX1_has wsX1_has) := goodIn_app (goodIn_of _ (by decide +kernel)) ggX10_fly_X1_has
set_option maxRecDepth 20000 in
theorem ggX10_fly_X10_isHeight : GoodIn wsX10_fly wsX10_isHeight := goodIn_r _ [13, 14, 15, 12, 16] (by decide +kernel) (by decide +kernel)
set_option maxRecDepth 20000 in
theorem gX10_fly_X10_isHeight : GoodIn wsX10_fly (va_wsS RX10 164 yX10_isHeight wsX10_isHeight) := goodIn_app (goodIn_of _ (by decide +kernel)) ggX10_fly_X10_isHeight
set_option maxRecDepth 20000 in
theorem ggX10_fly_X2_add : GoodIn wsX10_fly wsX2_add := goodIn_r _ [21, 22, 23, 24, 106, 107, 108] (by decide +kernel) (by decide +kernel)
set_option maxRecDepth 20000 in
theorem gX10_fly_X2_add : GoodIn wsX10_fly (wsV RX10 168 RX2 yX2_add wsX2_add) := goodIn_app (goodIn_of _ (by decide +kernel)) ggX10_fly_X2_add
set_option maxRecDepth 20000 in
theorem ggX10_fly_X10_doMoves : GoodIn wsX10_fly wsX10_doMoves := goodIn_r _ [28, 29, 30, 1, 31, 32, 33, 34, 35, 36, 2, 3, 37, 38, 39, 40, 41, 42, 43, 7, 44, 9, 45, 46, 47, 48, 49, 50, 51, 52, 53, 12, 54, 55, 56, 57, 58, 59, 60, 61, 62, 63, 64, 65, 66, 67, 68, 69, 70, 71, 72, 73, 74, 75, 76, 77, 78, 79, 80, 81, 82, 83, 84, 85, 86, 87, 88, 89, 90, 91, 92, 93, 94, 95, 96, 97, 98, 99, 100, 101, 102, 103, 104, 105, 113, 114, 115, 116, 117, 109, 110, 111, 112, 118, 119, 120, 121, 122, 123, 106, 107, 108, 124, 125, 126] (by decide +kernel) (by decide +kernel)
set_option maxRecDepth 20000 in
theorem gX10_fly_X10_doMoves : GoodIn wsX10_fly (wsV RX10 172 RX10 yX10_doMoves wsX10_doMoves) := goodIn_app (goodIn_of _ (by decide +kernel)) ggX10_fly_X10_doMoves
theorem dX10_fly_0 : decode cX10_fly 0 = .ok (.aload_n 0, 1) := by decide +kernel
theorem dX10_fly_1 : decode cX10_fly 1 = .ok (.getfield 32, 3) := by decide +kernel
theorem dX10_fly_4 : decode cX10_fly 4 = .ok (.iload_n 1, 1) := by decide +kernel
theorem dX10_fly_5 : decode cX10_fly 5 = .ok (.invokevirtual 118, 3) := by decide +kernel
theorem dX10_fly_8 : decode cX10_fly 8 = .ok (.ifCond .ne 5, 3) := by decide +kernel
theorem dX10_fly_11 : decode cX10_fly 11 = .ok (.iconst (-1), 1) := by decide +kernel
theorem dX10_fly_12 : decode cX10_fly 12 = .ok (.ireturn, 1) := by decide +kernel
theorem dX10_fly_13 : decode cX10_fly 13 = .ok (.iload_n 2, 1) := by decide +kernel
theorem dX10_fly_14 : decode cX10_fly 14 = .ok (.invokestatic 164, 3) := by decide +kernel
theorem dX10_fly_17 : decode cX10_fly 17 = .ok (.ifCond .ne 6, 3) := by decide +kernel
theorem dX10_fly_20 : decode cX10_fly 20 = .ok (.bipush (-2), 2) := by decide +kernel
theorem dX10_fly_22 : decode cX10_fly 22 = .ok (.ireturn, 1) := by decide +kernel
theorem dX10_fly_23 : decode cX10_fly 23 = .ok (.aload_n 0, 1) := by decide +kernel
theorem dX10_fly_24 : decode cX10_fly 24 = .ok (.getfield 53, 3) := by decide +kernel
theorem dX10_fly_27 : decode cX10_fly 27 = .ok (.iconst 0, 1) := by decide +kernel
theorem dX10_fly_28 : decode cX10_fly 28 = .ok (.putfield 167, 3) := by decide +kernel
theorem dX10_fly_31 : decode cX10_fly 31 = .ok (.aload_n 0, 1) := by decide +kernel
theorem dX10_fly_32 : decode cX10_fly 32 = .ok (.getfield 53, 3) := by decide +kernel
theorem dX10_fly_35 : decode cX10_fly 35 = .ok (.iload_n 1, 1) := by decide +kernel
theorem dX10_fly_36 : decode cX10_fly 36 = .ok (.iload_n 2, 1) := by decide +kernel
theorem dX10_fly_37 : decode cX10_fly 37 = .ok (.invokevirtual 168, 3) := by decide +kernel
theorem dX10_fly_40 : decode cX10_fly 40 = .ok (.aload_n 0, 1) := by decide +kernel
theorem dX10_fly_41 : decode cX10_fly 41 = .ok (.invokevirtual 172, 3) := by decide +kernel
theorem dX10_fly_44 : decode cX10_fly 44 = .ok (.ireturn, 1) := by decide +kernel
set_option maxRecDepth 20000 in
theorem ggX10_cue_X10_isSheet : GoodIn wsX10_cue wsX10_isSheet := goodIn_r _ [7, 8, 9, 6, 10] (by decide +kernel) (by decide +kernel)
set_option maxRecDepth 20000 in
theorem gX10_cue_X10_isSheet : GoodIn wsX10_cue (va_wsS RX10 82 yX10_isSheet wsX10_isSheet) := goodIn_app (goodIn_of _ (by decide +kernel)) ggX10_cue_X10_isSheet
set_option maxRecDepth 20000 in
theorem ggX10_cue_X10_isLane : GoodIn wsX10_cue wsX10_isLane := goodIn_r _ [13, 8, 9, 6, 10] (by decide +kernel) (by decide +kernel)
set_option maxRecDepth 20000 in
theorem gX10_cue_X10_isLane : GoodIn wsX10_cue (va_wsS RX10 86 yX10_isLane wsX10_isLane) := goodIn_app (goodIn_of _ (by decide +kernel)) ggX10_cue_X10_isLane
set_option maxRecDepth 20000 in
theorem ggX10_cue_X10_within : GoodIn wsX10_cue wsX10_within := goodIn_r _ [10] (by decide +kernel) (by decide +kernel)
set_option maxRecDepth 20000 in
theorem gX10_cue_X10_within : GoodIn wsX10_cue (va_wsS RX10 154 yX10_within wsX10_within) := goodIn_app (goodIn_of _ (by decide +kernel)) ggX10_cue_X10_within
set_option maxRecDepth 20000 in
theorem ggX10_cue_X10_takeMoves : GoodIn wsX10_cue wsX10_takeMoves := goodIn_r _ [17, 18, 19, 3, 20, 21, 22, 23, 24, 25, 26, 27, 28, 29, 30, 31, 32, 33, 34, 35, 36, 6, 37, 1, 38, 39, 40, 41, 42, 43, 44, 45, 46, 8, 9, 10, 47, 48, 49, 50, 51, 52, 53, 54, 128, 129, 130, 131, 132, 133, 134, 135, 136, 137, 138, 139, 140, 141, 142, 143, 144, 145, 146, 147, 148, 149, 150] (by decide +kernel) (by decide +kernel)
set_option maxRecDepth 20000 in
theorem gX10_cue_X10_takeMoves : GoodIn wsX10_cue (wsV RX10 176 RX10 yX10_takeMoves wsX10_takeMoves) := goodIn_app (goodIn_of _ (by decide +kernel)) ggX10_cue_X10_takeMoves
set_option maxRecDepth 20000 in
theorem ggX10_cue_X2_repeatBatten : GoodIn wsX10_cue wsX2_repeatBatten := goodIn_r _ [58, 52, 53, 144, 145, 146] (by decide +kernel) (by decide +kernel)
set_option maxRecDepth 20000 in
theorem gX10_cue_X2_repeatBatten : GoodIn wsX10_cue (wsV RX10 180 RX2 yX2_repeatBatten wsX2_repeatBatten) := goodIn_app (goodIn_of _ (by decide +kernel)) ggX10_cue_X2_repeatBatten
set_option maxRecDepth 20000 in
theorem ggX10_cue_X10_doMoves : GoodIn wsX10_cue wsX10_doMoves := goodIn_r _ [62, 63, 64, 18, 65, 66, 67, 68, 69, 70, 3, 20, 71, 72, 73, 74, 75, 76, 77, 41, 78, 43, 79, 80, 81, 82, 83, 84, 85, 86, 87, 6, 88, 89, 90, 91, 92, 93, 94, 95, 96, 97, 98, 99, 100, 101, 102, 103, 104, 105, 106, 107, 108, 109, 110, 111, 112, 113, 114, 115, 116, 117, 118, 119, 120, 121, 122, 123, 124, 125, 126, 127, 128, 129, 130, 131, 132, 133, 134, 135, 136, 137, 138, 139, 151, 152, 153, 154, 155, 140, 141, 142, 143, 156, 157, 158, 159, 160, 161, 144, 145, 146, 162, 163, 164] (by decide +kernel) (by decide +kernel)
set_option maxRecDepth 20000 in
theorem gX10_cue_X10_doMoves : GoodIn wsX10_cue (wsV RX10 172 RX10 yX10_doMoves wsX10_doMoves) := goodIn_app (goodIn_of _ (by decide +kernel)) ggX10_cue_X10_doMoves
theorem dX10_cue_0 : decode cX10_cue 0 = .ok (.aload_n 0, 1) := by decide +kernel
theorem dX10_cue_1 : decode cX10_cue 1 = .ok (.iconst 0, 1) := by decide +kernel
theorem dX10_cue_2 : decode cX10_cue 2 = .ok (.putfield 78, 3) := by decide +kernel
theorem dX10_cue_5 : decode cX10_cue 5 = .ok (.iload_n 1, 1) := by decide +kernel
theorem dX10_cue_6 : decode cX10_cue 6 = .ok (.invokestatic 82, 3) := by decide +kernel
theorem dX10_cue_9 : decode cX10_cue 9 = .ok (.ifCond .ne 5, 3) := by decide +kernel
theorem dX10_cue_12 : decode cX10_cue 12 = .ok (.iconst (-1), 1) := by decide +kernel
theorem dX10_cue_13 : decode cX10_cue 13 = .ok (.ireturn, 1) := by decide +kernel
theorem dX10_cue_14 : decode cX10_cue 14 = .ok (.iload_n 2, 1) := by decide +kernel
theorem dX10_cue_15 : decode cX10_cue 15 = .ok (.invokestatic 86, 3) := by decide +kernel
theorem dX10_cue_18 : decode cX10_cue 18 = .ok (.ifCond .eq 14, 3) := by decide +kernel
theorem dX10_cue_21 : decode cX10_cue 21 = .ok (.iload 4, 2) := by decide +kernel
theorem dX10_cue_23 : decode cX10_cue 23 = .ok (.iconst 0, 1) := by decide +kernel
theorem dX10_cue_24 : decode cX10_cue 24 = .ok (.bipush 8, 2) := by decide +kernel
theorem dX10_cue_26 : decode cX10_cue 26 = .ok (.invokestatic 154, 3) := by decide +kernel
theorem dX10_cue_29 : decode cX10_cue 29 = .ok (.ifCond .ne 6, 3) := by decide +kernel
theorem dX10_cue_32 : decode cX10_cue 32 = .ok (.bipush (-2), 2) := by decide +kernel
theorem dX10_cue_34 : decode cX10_cue 34 = .ok (.ireturn, 1) := by decide +kernel
theorem dX10_cue_35 : decode cX10_cue 35 = .ok (.aload_n 0, 1) := by decide +kernel
theorem dX10_cue_36 : decode cX10_cue 36 = .ok (.aload_n 0, 1) := by decide +kernel
theorem dX10_cue_37 : decode cX10_cue 37 = .ok (.getfield 13, 3) := by decide +kernel
theorem dX10_cue_40 : decode cX10_cue 40 = .ok (.iload_n 1, 1) := by decide +kernel
theorem dX10_cue_41 : decode cX10_cue 41 = .ok (.aaload, 1) := by decide +kernel
theorem dX10_cue_42 : decode cX10_cue 42 = .ok (.iload_n 2, 1) := by decide +kernel
theorem dX10_cue_43 : decode cX10_cue 43 = .ok (.iload_n 3, 1) := by decide +kernel
theorem dX10_cue_44 : decode cX10_cue 44 = .ok (.iload 4, 2) := by decide +kernel
theorem dX10_cue_46 : decode cX10_cue 46 = .ok (.invokevirtual 176, 3) := by decide +kernel
theorem dX10_cue_49 : decode cX10_cue 49 = .ok (.istore 5, 2) := by decide +kernel
theorem dX10_cue_51 : decode cX10_cue 51 = .ok (.iload 5, 2) := by decide +kernel
theorem dX10_cue_53 : decode cX10_cue 53 = .ok (.ifCond .eq 6, 3) := by decide +kernel
theorem dX10_cue_56 : decode cX10_cue 56 = .ok (.iload 5, 2) := by decide +kernel
theorem dX10_cue_58 : decode cX10_cue 58 = .ok (.ireturn, 1) := by decide +kernel
theorem dX10_cue_59 : decode cX10_cue 59 = .ok (.aload_n 0, 1) := by decide +kernel
theorem dX10_cue_60 : decode cX10_cue 60 = .ok (.getfield 53, 3) := by decide +kernel
theorem dX10_cue_63 : decode cX10_cue 63 = .ok (.invokevirtual 180, 3) := by decide +kernel
theorem dX10_cue_66 : decode cX10_cue 66 = .ok (.ifCond .eq 8, 3) := by decide +kernel
theorem dX10_cue_69 : decode cX10_cue 69 = .ok (.bipush (-3), 2) := by decide +kernel
theorem dX10_cue_71 : decode cX10_cue 71 = .ok (.goto 7, 3) := by decide +kernel
theorem dX10_cue_74 : decode cX10_cue 74 = .ok (.aload_n 0, 1) := by decide +kernel
theorem dX10_cue_75 : decode cX10_cue 75 = .ok (.invokevirtual 172, 3) := by decide +kernel
theorem dX10_cue_78 : decode cX10_cue 78 = .ok (.ireturn, 1) := by decide +kernel
set_option maxRecDepth 20000 in
theorem ggX10_hang_X1_has : GoodIn wsX10_hang wsX1_has := goodIn_r _ [10, 11, 65, 66, 67, 68] (by decide +kernel) (by decide +kernel)
set_option maxRecDepth 20000 in
theorem gX10_hang_X1_has : GoodIn wsX10_hang (wsV RX10 118 RX1 yX1_has wsX1_has) := goodIn_app (goodIn_of _ (by decide +kernel)) ggX10_hang_X1_has
set_option maxRecDepth 20000 in
theorem ggX10_hang_X10_isDigit : GoodIn wsX10_hang wsX10_isDigit := goodIn_r _ [15, 16, 17, 14, 18] (by decide +kernel) (by decide +kernel)
set_option maxRecDepth 20000 in
theorem gX10_hang_X10_isDigit : GoodIn wsX10_hang (va_wsS RX10 184 yX10_isDigit wsX10_isDigit) := goodIn_app (goodIn_of _ (by decide +kernel)) ggX10_hang_X10_isDigit
set_option maxRecDepth 20000 in
theorem ggX10_hang_X3_remember : GoodIn wsX10_hang wsX3_remember := goodIn_r _ [23, 24, 25, 26, 27, 28, 29, 30, 31, 32, 33, 34, 35, 36, 37, 38, 39, 40, 41, 42, 43, 75, 76, 77, 69, 70, 71, 72, 73, 74] (by decide +kernel) (by decide +kernel)
set_option maxRecDepth 20000 in
theorem gX10_hang_X3_remember : GoodIn wsX10_hang (wsV RX10 187 RX3 yX3_remember wsX3_remember) := goodIn_app (goodIn_of _ (by decide +kernel)) ggX10_hang_X3_remember
set_option maxRecDepth 20000 in
theorem ggX10_hang_X1_runsAway : GoodIn wsX10_hang wsX1_runsAway := goodIn_r _ [47, 48, 49, 50, 51, 52, 65, 66, 67, 68, 69, 70, 71, 72, 73, 74] (by decide +kernel) (by decide +kernel)
set_option maxRecDepth 20000 in
theorem gX10_hang_X1_runsAway : GoodIn wsX10_hang (wsV RX10 191 RX1 yX1_runsAway wsX1_runsAway) := goodIn_app (goodIn_of _ (by decide +kernel)) ggX10_hang_X1_runsAway
theorem dX10_hang_0 : decode cX10_hang 0 = .ok (.aload_n 0, 1) := by decide +kernel
theorem dX10_hang_1 : decode cX10_hang 1 = .ok (.getfield 32, 3) := by decide +kernel
theorem dX10_hang_4 : decode cX10_hang 4 = .ok (.iload_n 1, 1) := by decide +kernel
theorem dX10_hang_5 : decode cX10_hang 5 = .ok (.invokevirtual 118, 3) := by decide +kernel
theorem dX10_hang_8 : decode cX10_hang 8 = .ok (.ifCond .ne 5, 3) := by decide +kernel
theorem dX10_hang_11 : decode cX10_hang 11 = .ok (.iconst (-1), 1) := by decide +kernel
theorem dX10_hang_12 : decode cX10_hang 12 = .ok (.ireturn, 1) := by decide +kernel
theorem dX10_hang_13 : decode cX10_hang 13 = .ok (.iload_n 2, 1) := by decide +kernel
theorem dX10_hang_14 : decode cX10_hang 14 = .ok (.invokestatic 184, 3) := by decide +kernel
theorem dX10_hang_17 : decode cX10_hang 17 = .ok (.ifCond .ne 6, 3) := by decide +kernel
theorem dX10_hang_20 : decode cX10_hang 20 = .ok (.bipush (-2), 2) := by decide +kernel
theorem dX10_hang_22 : decode cX10_hang 22 = .ok (.ireturn, 1) := by decide +kernel
theorem dX10_hang_23 : decode cX10_hang 23 = .ok (.aload_n 0, 1) := by decide +kernel
theorem dX10_hang_24 : decode cX10_hang 24 = .ok (.getfield 32, 3) := by decide +kernel
theorem dX10_hang_27 : decode cX10_hang 27 = .ok (.getfield 124, 3) := by decide +kernel
theorem dX10_hang_30 : decode cX10_hang 30 = .ok (.getfield 134, 3) := by decide +kernel
theorem dX10_hang_33 : decode cX10_hang 33 = .ok (.iload_n 1, 1) := by decide +kernel
theorem dX10_hang_34 : decode cX10_hang 34 = .ok (.iaload, 1) := by decide +kernel
theorem dX10_hang_35 : decode cX10_hang 35 = .ok (.ifCond .eq 6, 3) := by decide +kernel
theorem dX10_hang_38 : decode cX10_hang 38 = .ok (.bipush (-3), 2) := by decide +kernel
theorem dX10_hang_40 : decode cX10_hang 40 = .ok (.ireturn, 1) := by decide +kernel
theorem dX10_hang_41 : decode cX10_hang 41 = .ok (.aload_n 0, 1) := by decide +kernel
theorem dX10_hang_42 : decode cX10_hang 42 = .ok (.getfield 39, 3) := by decide +kernel
theorem dX10_hang_45 : decode cX10_hang 45 = .ok (.aload_n 0, 1) := by decide +kernel
theorem dX10_hang_46 : decode cX10_hang 46 = .ok (.getfield 32, 3) := by decide +kernel
theorem dX10_hang_49 : decode cX10_hang 49 = .ok (.getfield 124, 3) := by decide +kernel
theorem dX10_hang_52 : decode cX10_hang 52 = .ok (.invokevirtual 187, 3) := by decide +kernel
theorem dX10_hang_55 : decode cX10_hang 55 = .ok (.aload_n 0, 1) := by decide +kernel
theorem dX10_hang_56 : decode cX10_hang 56 = .ok (.getfield 32, 3) := by decide +kernel
theorem dX10_hang_59 : decode cX10_hang 59 = .ok (.getfield 124, 3) := by decide +kernel
theorem dX10_hang_62 : decode cX10_hang 62 = .ok (.getfield 128, 3) := by decide +kernel
theorem dX10_hang_65 : decode cX10_hang 65 = .ok (.iload_n 1, 1) := by decide +kernel
theorem dX10_hang_66 : decode cX10_hang 66 = .ok (.iload_n 2, 1) := by decide +kernel
theorem dX10_hang_67 : decode cX10_hang 67 = .ok (.iastore, 1) := by decide +kernel
theorem dX10_hang_68 : decode cX10_hang 68 = .ok (.aload_n 0, 1) := by decide +kernel
theorem dX10_hang_69 : decode cX10_hang 69 = .ok (.getfield 32, 3) := by decide +kernel
theorem dX10_hang_72 : decode cX10_hang 72 = .ok (.iload_n 1, 1) := by decide +kernel
theorem dX10_hang_73 : decode cX10_hang 73 = .ok (.invokevirtual 191, 3) := by decide +kernel
theorem dX10_hang_76 : decode cX10_hang 76 = .ok (.ireturn, 1) := by decide +kernel
set_option maxRecDepth 20000 in
theorem ggX10_brick_X1_has : GoodIn wsX10_brick wsX1_has := goodIn_r _ [11, 12, 66, 67, 68, 69] (by decide +kernel) (by decide +kernel)
set_option maxRecDepth 20000 in
theorem gX10_brick_X1_has : GoodIn wsX10_brick (wsV RX10 118 RX1 yX1_has wsX1_has) := goodIn_app (goodIn_of _ (by decide +kernel)) ggX10_brick_X1_has
set_option maxRecDepth 20000 in
theorem ggX10_brick_X10_isDigit : GoodIn wsX10_brick wsX10_isDigit := goodIn_r _ [16, 17, 18, 15, 19] (by decide +kernel) (by decide +kernel)
set_option maxRecDepth 20000 in
theorem gX10_brick_X10_isDigit : GoodIn wsX10_brick (va_wsS RX10 184 yX10_isDigit wsX10_isDigit) := goodIn_app (goodIn_of _ (by decide +kernel)) ggX10_brick_X10_isDigit
set_option maxRecDepth 20000 in
theorem ggX10_brick_X3_remember : GoodIn wsX10_brick wsX3_remember := goodIn_r _ [24, 25, 26, 27, 28, 29, 30, 31, 32, 33, 34, 35, 36, 37, 38, 39, 40, 41, 42, 43, 44, 76, 77, 78, 70, 71, 72, 73, 74, 75] (by decide +kernel) (by decide +kernel)
set_option maxRecDepth 20000 in
theorem gX10_brick_X3_remember : GoodIn wsX10_brick (wsV RX10 187 RX3 yX3_remember wsX3_remember) := goodIn_app (goodIn_of _ (by decide +kernel)) ggX10_brick_X3_remember
set_option maxRecDepth 20000 in
theorem ggX10_brick_X1_runsAway : GoodIn wsX10_brick wsX1_runsAway := goodIn_r _ [48, 49, 50, 51, 52, 53, 66, 67, 68, 69, 70, 71, 72, 73, 74, 75] (by decide +kernel) (by decide +kernel)
set_option maxRecDepth 20000 in
theorem gX10_brick_X1_runsAway : GoodIn wsX10_brick (wsV RX10 191 RX1 yX1_runsAway wsX1_runsAway) := goodIn_app (goodIn_of _ (by decide +kernel)) ggX10_brick_X1_runsAway
theorem dX10_brick_0 : decode cX10_brick 0 = .ok (.aload_n 0, 1) := by decide +kernel
theorem dX10_brick_1 : decode cX10_brick 1 = .ok (.getfield 32, 3) := by decide +kernel
theorem dX10_brick_4 : decode cX10_brick 4 = .ok (.iload_n 1, 1) := by decide +kernel
theorem dX10_brick_5 : decode cX10_brick 5 = .ok (.invokevirtual 118, 3) := by decide +kernel
theorem dX10_brick_8 : decode cX10_brick 8 = .ok (.ifCond .ne 5, 3) := by decide +kernel
theorem dX10_brick_11 : decode cX10_brick 11 = .ok (.iconst (-1), 1) := by decide +kernel
theorem dX10_brick_12 : decode cX10_brick 12 = .ok (.ireturn, 1) := by decide +kernel
theorem dX10_brick_13 : decode cX10_brick 13 = .ok (.iload_n 2, 1) := by decide +kernel
theorem dX10_brick_14 : decode cX10_brick 14 = .ok (.invokestatic 184, 3) := by decide +kernel
theorem dX10_brick_17 : decode cX10_brick 17 = .ok (.ifCond .ne 6, 3) := by decide +kernel
theorem dX10_brick_20 : decode cX10_brick 20 = .ok (.bipush (-2), 2) := by decide +kernel
theorem dX10_brick_22 : decode cX10_brick 22 = .ok (.ireturn, 1) := by decide +kernel
theorem dX10_brick_23 : decode cX10_brick 23 = .ok (.iload_n 2, 1) := by decide +kernel
theorem dX10_brick_24 : decode cX10_brick 24 = .ok (.aload_n 0, 1) := by decide +kernel
theorem dX10_brick_25 : decode cX10_brick 25 = .ok (.getfield 32, 3) := by decide +kernel
theorem dX10_brick_28 : decode cX10_brick 28 = .ok (.getfield 124, 3) := by decide +kernel
theorem dX10_brick_31 : decode cX10_brick 31 = .ok (.getfield 131, 3) := by decide +kernel
theorem dX10_brick_34 : decode cX10_brick 34 = .ok (.iload_n 1, 1) := by decide +kernel
theorem dX10_brick_35 : decode cX10_brick 35 = .ok (.iaload, 1) := by decide +kernel
theorem dX10_brick_36 : decode cX10_brick 36 = .ok (.isub, 1) := by decide +kernel
theorem dX10_brick_37 : decode cX10_brick 37 = .ok (.istore_n 3, 1) := by decide +kernel
theorem dX10_brick_38 : decode cX10_brick 38 = .ok (.aload_n 0, 1) := by decide +kernel
theorem dX10_brick_39 : decode cX10_brick 39 = .ok (.getfield 32, 3) := by decide +kernel
theorem dX10_brick_42 : decode cX10_brick 42 = .ok (.getfield 124, 3) := by decide +kernel
theorem dX10_brick_45 : decode cX10_brick 45 = .ok (.getfield 134, 3) := by decide +kernel
theorem dX10_brick_48 : decode cX10_brick 48 = .ok (.iload_n 1, 1) := by decide +kernel
theorem dX10_brick_49 : decode cX10_brick 49 = .ok (.iaload, 1) := by decide +kernel
theorem dX10_brick_50 : decode cX10_brick 50 = .ok (.ifCond .ne 17, 3) := by decide +kernel
theorem dX10_brick_53 : decode cX10_brick 53 = .ok (.iload_n 3, 1) := by decide +kernel
theorem dX10_brick_54 : decode cX10_brick 54 = .ok (.aload_n 0, 1) := by decide +kernel
theorem dX10_brick_55 : decode cX10_brick 55 = .ok (.getfield 32, 3) := by decide +kernel
theorem dX10_brick_58 : decode cX10_brick 58 = .ok (.getfield 124, 3) := by decide +kernel
theorem dX10_brick_61 : decode cX10_brick 61 = .ok (.getfield 194, 3) := by decide +kernel
theorem dX10_brick_64 : decode cX10_brick 64 = .ok (.if_icmp .le 6, 3) := by decide +kernel
theorem dX10_brick_67 : decode cX10_brick 67 = .ok (.bipush (-3), 2) := by decide +kernel
theorem dX10_brick_69 : decode cX10_brick 69 = .ok (.ireturn, 1) := by decide +kernel
theorem dX10_brick_70 : decode cX10_brick 70 = .ok (.aload_n 0, 1) := by decide +kernel
