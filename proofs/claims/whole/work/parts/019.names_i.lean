theorem dX11_act_127 : decode cX11_act 127 = .ok (.invokevirtual 222, 3) := by decide +kernel
theorem dX11_act_130 : decode cX11_act 130 = .ok (.istore 9, 2) := by decide +kernel
theorem dX11_act_132 : decode cX11_act 132 = .ok (.aload_n 0, 1) := by decide +kernel
theorem dX11_act_133 : decode cX11_act 133 = .ok (.iload 5, 2) := by decide +kernel
theorem dX11_act_135 : decode cX11_act 135 = .ok (.invokevirtual 225, 3) := by decide +kernel
theorem dX11_act_138 : decode cX11_act 138 = .ok (.istore 10, 2) := by decide +kernel
theorem dX11_act_140 : decode cX11_act 140 = .ok (.aload_n 0, 1) := by decide +kernel
theorem dX11_act_141 : decode cX11_act 141 = .ok (.invokevirtual 228, 3) := by decide +kernel
theorem dX11_act_144 : decode cX11_act 144 = .ok (.iload 5, 2) := by decide +kernel
theorem dX11_act_146 : decode cX11_act 146 = .ok (.iconst 1, 1) := by decide +kernel
theorem dX11_act_147 : decode cX11_act 147 = .ok (.if_icmp .ne 8, 3) := by decide +kernel
theorem dX11_act_150 : decode cX11_act 150 = .ok (.iload 9, 2) := by decide +kernel
theorem dX11_act_152 : decode cX11_act 152 = .ok (.goto 20, 3) := by decide +kernel
theorem dX11_act_155 : decode cX11_act 155 = .ok (.iload 9, 2) := by decide +kernel
theorem dX11_act_157 : decode cX11_act 157 = .ok (.bipush (-9), 2) := by decide +kernel
theorem dX11_act_159 : decode cX11_act 159 = .ok (.if_icmp .ne 8, 3) := by decide +kernel
theorem dX11_act_162 : decode cX11_act 162 = .ok (.iload 10, 2) := by decide +kernel
theorem dX11_act_164 : decode cX11_act 164 = .ok (.goto 8, 3) := by decide +kernel
theorem dX11_act_167 : decode cX11_act 167 = .ok (.bipush (-100), 2) := by decide +kernel
theorem dX11_act_169 : decode cX11_act 169 = .ok (.iload 9, 2) := by decide +kernel
theorem dX11_act_171 : decode cX11_act 171 = .ok (.isub, 1) := by decide +kernel
theorem dX11_act_172 : decode cX11_act 172 = .ok (.ireturn, 1) := by decide +kernel
set_option maxRecDepth 20000 in
theorem ggX11_tellAct_X11_isBatten : GoodIn wsX11_tellAct wsX11_isBatten := goodIn_r _ [8, 9, 20, 21, 22, 23, 24, 25, 26, 27, 28, 29, 30, 31, 32, 33, 34, 35, 36, 37, 38, 39, 40, 41, 42, 43, 44, 45, 46, 47, 48, 49, 50, 51, 52, 53, 54, 55, 56, 57, 58] (by decide +kernel) (by decide +kernel)
set_option maxRecDepth 20000 in
theorem gX11_tellAct_X11_isBatten : GoodIn wsX11_tellAct (wsV RX11 152 RX11 yX11_isBatten wsX11_isBatten) := goodIn_app (goodIn_of _ (by decide +kernel)) ggX11_tellAct_X11_isBatten
set_option maxRecDepth 20000 in
theorem ggX11_tellAct_X11_seenNow : GoodIn wsX11_tellAct wsX11_seenNow := goodIn_r _ [13, 14, 9, 15, 16, 17, 7, 18, 1, 19, 20, 21, 22, 23, 24, 25, 26, 27, 28, 29, 30, 31, 32, 33, 34, 35, 36, 37, 38, 39, 40, 41, 42, 43, 44, 45, 46, 47, 48, 49, 50, 51, 52, 53, 54, 55, 56, 57, 58] (by decide +kernel) (by decide +kernel)
set_option maxRecDepth 20000 in
theorem gX11_tellAct_X11_seenNow : GoodIn wsX11_tellAct (wsV RX11 161 RX11 yX11_seenNow wsX11_seenNow) := goodIn_app (goodIn_of _ (by decide +kernel)) ggX11_tellAct_X11_seenNow
theorem dX11_tellAct_0 : decode cX11_tellAct 0 = .ok (.iload_n 1, 1) := by decide +kernel
theorem dX11_tellAct_1 : decode cX11_tellAct 1 = .ok (.bipush 10, 2) := by decide +kernel
theorem dX11_tellAct_3 : decode cX11_tellAct 3 = .ok (.if_icmp .lt 29, 3) := by decide +kernel
theorem dX11_tellAct_6 : decode cX11_tellAct 6 = .ok (.aload_n 0, 1) := by decide +kernel
theorem dX11_tellAct_7 : decode cX11_tellAct 7 = .ok (.iload_n 1, 1) := by decide +kernel
theorem dX11_tellAct_8 : decode cX11_tellAct 8 = .ok (.bipush 10, 2) := by decide +kernel
theorem dX11_tellAct_10 : decode cX11_tellAct 10 = .ok (.isub, 1) := by decide +kernel
theorem dX11_tellAct_11 : decode cX11_tellAct 11 = .ok (.invokevirtual 152, 3) := by decide +kernel
theorem dX11_tellAct_14 : decode cX11_tellAct 14 = .ok (.ifCond .eq 15, 3) := by decide +kernel
theorem dX11_tellAct_17 : decode cX11_tellAct 17 = .ok (.aload_n 0, 1) := by decide +kernel
theorem dX11_tellAct_18 : decode cX11_tellAct 18 = .ok (.getfield 28, 3) := by decide +kernel
theorem dX11_tellAct_21 : decode cX11_tellAct 21 = .ok (.iload_n 1, 1) := by decide +kernel
theorem dX11_tellAct_22 : decode cX11_tellAct 22 = .ok (.bipush 10, 2) := by decide +kernel
theorem dX11_tellAct_24 : decode cX11_tellAct 24 = .ok (.isub, 1) := by decide +kernel
theorem dX11_tellAct_25 : decode cX11_tellAct 25 = .ok (.iaload, 1) := by decide +kernel
theorem dX11_tellAct_26 : decode cX11_tellAct 26 = .ok (.goto 5, 3) := by decide +kernel
theorem dX11_tellAct_29 : decode cX11_tellAct 29 = .ok (.bipush (-9), 2) := by decide +kernel
theorem dX11_tellAct_31 : decode cX11_tellAct 31 = .ok (.ireturn, 1) := by decide +kernel
theorem dX11_tellAct_32 : decode cX11_tellAct 32 = .ok (.iload_n 1, 1) := by decide +kernel
theorem dX11_tellAct_33 : decode cX11_tellAct 33 = .ok (.ifCond .ne 10, 3) := by decide +kernel
theorem dX11_tellAct_36 : decode cX11_tellAct 36 = .ok (.aload_n 0, 1) := by decide +kernel
theorem dX11_tellAct_37 : decode cX11_tellAct 37 = .ok (.getfield 210, 3) := by decide +kernel
theorem dX11_tellAct_40 : decode cX11_tellAct 40 = .ok (.goto 19, 3) := by decide +kernel
theorem dX11_tellAct_43 : decode cX11_tellAct 43 = .ok (.iload_n 1, 1) := by decide +kernel
theorem dX11_tellAct_44 : decode cX11_tellAct 44 = .ok (.iconst 2, 1) := by decide +kernel
theorem dX11_tellAct_45 : decode cX11_tellAct 45 = .ok (.if_icmp .ne 10, 3) := by decide +kernel
theorem dX11_tellAct_48 : decode cX11_tellAct 48 = .ok (.aload_n 0, 1) := by decide +kernel
theorem dX11_tellAct_49 : decode cX11_tellAct 49 = .ok (.getfield 213, 3) := by decide +kernel
theorem dX11_tellAct_52 : decode cX11_tellAct 52 = .ok (.goto 7, 3) := by decide +kernel
theorem dX11_tellAct_55 : decode cX11_tellAct 55 = .ok (.aload_n 0, 1) := by decide +kernel
theorem dX11_tellAct_56 : decode cX11_tellAct 56 = .ok (.invokevirtual 161, 3) := by decide +kernel
theorem dX11_tellAct_59 : decode cX11_tellAct 59 = .ok (.ireturn, 1) := by decide +kernel
set_option maxRecDepth 20000 in
theorem ggX11_crew_X11_isSheet : GoodIn wsX11_crew wsX11_isSheet := goodIn_r _ [7, 8, 9, 6, 10] (by decide +kernel) (by decide +kernel)
set_option maxRecDepth 20000 in
theorem gX11_crew_X11_isSheet : GoodIn wsX11_crew (va_wsS RX11 93 yX11_isSheet wsX11_isSheet) := goodIn_app (goodIn_of _ (by decide +kernel)) ggX11_crew_X11_isSheet
set_option maxRecDepth 20000 in
theorem ggX11_crew_X11_isSort : GoodIn wsX11_crew wsX11_isSort := goodIn_r _ [13, 8, 9, 6, 10] (by decide +kernel) (by decide +kernel)
set_option maxRecDepth 20000 in
theorem gX11_crew_X11_isSort : GoodIn wsX11_crew (va_wsS RX11 97 yX11_isSort wsX11_isSort) := goodIn_app (goodIn_of _ (by decide +kernel)) ggX11_crew_X11_isSort
set_option maxRecDepth 20000 in
theorem ggX11_crew_X11_within : GoodIn wsX11_crew wsX11_within := goodIn_r _ [10] (by decide +kernel) (by decide +kernel)
set_option maxRecDepth 20000 in
theorem gX11_crew_X11_within : GoodIn wsX11_crew (va_wsS RX11 83 yX11_within wsX11_within) := goodIn_app (goodIn_of _ (by decide +kernel)) ggX11_crew_X11_within
set_option maxRecDepth 20000 in
theorem ggX11_crew_X11_against : GoodIn wsX11_crew wsX11_against := goodIn_r _ [17, 18, 19, 88, 89, 90, 91, 92, 93, 94, 95, 96, 97, 98, 99, 100, 101, 102, 103, 104, 105, 106, 107, 108, 109, 110, 111, 112, 113, 114, 115, 116, 117, 118, 119, 120, 121, 122, 123, 124, 125, 126] (by decide +kernel) (by decide +kernel)
set_option maxRecDepth 20000 in
theorem gX11_crew_X11_against : GoodIn wsX11_crew (wsV RX11 100 RX11 yX11_against wsX11_against) := goodIn_app (goodIn_of _ (by decide +kernel)) ggX11_crew_X11_against
set_option maxRecDepth 20000 in
theorem ggX11_crew_X11_fails : GoodIn wsX11_crew wsX11_fails := goodIn_r _ [23, 1, 88, 89, 90, 91, 92, 93, 94, 95, 96, 97, 98, 99, 100, 101, 102, 103, 104, 105, 106, 107, 108, 109, 110, 111, 112, 113, 114, 115, 116, 117, 118, 119, 120, 121, 122, 123, 124, 125, 126] (by decide +kernel) (by decide +kernel)
set_option maxRecDepth 20000 in
theorem gX11_crew_X11_fails : GoodIn wsX11_crew (wsV RX11 104 RX11 yX11_fails wsX11_fails) := goodIn_app (goodIn_of _ (by decide +kernel)) ggX11_crew_X11_fails
set_option maxRecDepth 20000 in
theorem ggX11_crew_X11_refusesPairs : GoodIn wsX11_crew wsX11_refusesPairs := goodIn_r _ [27, 28, 29, 30, 31, 6, 32, 2, 33, 34, 35, 8, 9, 10, 88, 89, 90, 91, 92, 93, 94, 95, 96, 97, 98, 99, 100, 101, 102, 103, 104, 105, 106, 107, 108, 109, 110, 111, 112, 113, 114, 115, 116, 117, 118, 119, 120, 121, 122, 123, 124, 125, 126] (by decide +kernel) (by decide +kernel)
set_option maxRecDepth 20000 in
theorem gX11_crew_X11_refusesPairs : GoodIn wsX11_crew (wsV RX11 194 RX11 yX11_refusesPairs wsX11_refusesPairs) := goodIn_app (goodIn_of _ (by decide +kernel)) ggX11_crew_X11_refusesPairs
set_option maxRecDepth 20000 in
theorem ggX11_crew_X11_keepHeights : GoodIn wsX11_crew wsX11_keepHeights := goodIn_r _ [39, 40, 41, 88, 89, 90, 91, 92, 93, 94, 95, 96, 97, 98, 99, 100, 101, 102, 103, 104, 105, 106, 107, 108, 109, 110, 111, 112, 113, 114, 115, 116, 117, 118, 119, 120, 121, 122, 123, 124, 125, 126] (by decide +kernel) (by decide +kernel)
set_option maxRecDepth 20000 in
theorem gX11_crew_X11_keepHeights : GoodIn wsX11_crew (wsV RX11 219 RX11 yX11_keepHeights wsX11_keepHeights) := goodIn_app (goodIn_of _ (by decide +kernel)) ggX11_crew_X11_keepHeights
set_option maxRecDepth 20000 in
theorem ggX11_crew_X11_goAct : GoodIn wsX11_crew wsX11_goAct := goodIn_r _ [45, 46, 47, 48, 28, 49, 50, 51, 6, 52, 2, 41, 53, 54, 55, 56, 3, 57, 58, 59, 60, 61, 62, 63, 64, 65, 66, 67, 68, 69, 70, 71, 72, 73, 74, 75, 76, 77, 78, 79, 80, 81, 82, 83, 88, 89, 90, 91, 92, 93, 94, 95, 96, 97, 98, 99, 100, 101, 102, 103, 104, 105, 106, 107, 108, 109, 110, 111, 112, 113, 114, 115, 116, 117, 118, 119, 120, 121, 122, 123, 124, 125, 126] (by decide +kernel) (by decide +kernel)
set_option maxRecDepth 20000 in
theorem gX11_crew_X11_goAct : GoodIn wsX11_crew (wsV RX11 222 RX11 yX11_goAct wsX11_goAct) := goodIn_app (goodIn_of _ (by decide +kernel)) ggX11_crew_X11_goAct
set_option maxRecDepth 20000 in
theorem ggX11_crew_X11_putHeights : GoodIn wsX11_crew wsX11_putHeights := goodIn_r _ [87, 41, 40, 88, 89, 90, 91, 92, 93, 94, 95, 96, 97, 98, 99, 100, 101, 102, 103, 104, 105, 106, 107, 108, 109, 110, 111, 112, 113, 114, 115, 116, 117, 118, 119, 120, 121, 122, 123, 124, 125, 126] (by decide +kernel) (by decide +kernel)
set_option maxRecDepth 20000 in
theorem gX11_crew_X11_putHeights : GoodIn wsX11_crew (wsV RX11 228 RX11 yX11_putHeights wsX11_putHeights) := goodIn_app (goodIn_of _ (by decide +kernel)) ggX11_crew_X11_putHeights
theorem dX11_crew_0 : decode cX11_crew 0 = .ok (.aload_n 0, 1) := by decide +kernel
theorem dX11_crew_1 : decode cX11_crew 1 = .ok (.iconst 0, 1) := by decide +kernel
theorem dX11_crew_2 : decode cX11_crew 2 = .ok (.putfield 77, 3) := by decide +kernel
theorem dX11_crew_5 : decode cX11_crew 5 = .ok (.iload_n 1, 1) := by decide +kernel
theorem dX11_crew_6 : decode cX11_crew 6 = .ok (.invokestatic 93, 3) := by decide +kernel
theorem dX11_crew_9 : decode cX11_crew 9 = .ok (.ifCond .ne 5, 3) := by decide +kernel
theorem dX11_crew_12 : decode cX11_crew 12 = .ok (.iconst (-1), 1) := by decide +kernel
theorem dX11_crew_13 : decode cX11_crew 13 = .ok (.ireturn, 1) := by decide +kernel
theorem dX11_crew_14 : decode cX11_crew 14 = .ok (.iload_n 2, 1) := by decide +kernel
theorem dX11_crew_15 : decode cX11_crew 15 = .ok (.invokestatic 97, 3) := by decide +kernel
theorem dX11_crew_18 : decode cX11_crew 18 = .ok (.ifCond .eq 14, 3) := by decide +kernel
theorem dX11_crew_21 : decode cX11_crew 21 = .ok (.iload 4, 2) := by decide +kernel
theorem dX11_crew_23 : decode cX11_crew 23 = .ok (.iconst 0, 1) := by decide +kernel
theorem dX11_crew_24 : decode cX11_crew 24 = .ok (.bipush 20, 2) := by decide +kernel
theorem dX11_crew_26 : decode cX11_crew 26 = .ok (.invokestatic 83, 3) := by decide +kernel
theorem dX11_crew_29 : decode cX11_crew 29 = .ok (.ifCond .ne 6, 3) := by decide +kernel
theorem dX11_crew_32 : decode cX11_crew 32 = .ok (.bipush (-2), 2) := by decide +kernel
theorem dX11_crew_34 : decode cX11_crew 34 = .ok (.ireturn, 1) := by decide +kernel
theorem dX11_crew_35 : decode cX11_crew 35 = .ok (.aload_n 0, 1) := by decide +kernel
theorem dX11_crew_36 : decode cX11_crew 36 = .ok (.iload_n 1, 1) := by decide +kernel
theorem dX11_crew_37 : decode cX11_crew 37 = .ok (.iload_n 2, 1) := by decide +kernel
theorem dX11_crew_38 : decode cX11_crew 38 = .ok (.iload_n 3, 1) := by decide +kernel
theorem dX11_crew_39 : decode cX11_crew 39 = .ok (.iconst 2, 1) := by decide +kernel
theorem dX11_crew_40 : decode cX11_crew 40 = .ok (.iload 4, 2) := by decide +kernel
theorem dX11_crew_42 : decode cX11_crew 42 = .ok (.imul, 1) := by decide +kernel
theorem dX11_crew_43 : decode cX11_crew 43 = .ok (.invokevirtual 100, 3) := by decide +kernel
theorem dX11_crew_46 : decode cX11_crew 46 = .ok (.istore 5, 2) := by decide +kernel
theorem dX11_crew_48 : decode cX11_crew 48 = .ok (.iload 5, 2) := by decide +kernel
theorem dX11_crew_50 : decode cX11_crew 50 = .ok (.ifCond .eq 10, 3) := by decide +kernel
theorem dX11_crew_53 : decode cX11_crew 53 = .ok (.aload_n 0, 1) := by decide +kernel
theorem dX11_crew_54 : decode cX11_crew 54 = .ok (.iload 5, 2) := by decide +kernel
theorem dX11_crew_56 : decode cX11_crew 56 = .ok (.invokevirtual 104, 3) := by decide +kernel
theorem dX11_crew_59 : decode cX11_crew 59 = .ok (.ireturn, 1) := by decide +kernel
theorem dX11_crew_60 : decode cX11_crew 60 = .ok (.aload_n 0, 1) := by decide +kernel
theorem dX11_crew_61 : decode cX11_crew 61 = .ok (.getfield 87, 3) := by decide +kernel
theorem dX11_crew_64 : decode cX11_crew 64 = .ok (.ifCond .ne 6, 3) := by decide +kernel
theorem dX11_crew_67 : decode cX11_crew 67 = .ok (.bipush (-3), 2) := by decide +kernel
theorem dX11_crew_69 : decode cX11_crew 69 = .ok (.ireturn, 1) := by decide +kernel
theorem dX11_crew_70 : decode cX11_crew 70 = .ok (.bipush 60, 2) := by decide +kernel
theorem dX11_crew_72 : decode cX11_crew 72 = .ok (.iload_n 1, 1) := by decide +kernel
theorem dX11_crew_73 : decode cX11_crew 73 = .ok (.imul, 1) := by decide +kernel
theorem dX11_crew_74 : decode cX11_crew 74 = .ok (.iload_n 3, 1) := by decide +kernel
theorem dX11_crew_75 : decode cX11_crew 75 = .ok (.iadd, 1) := by decide +kernel
theorem dX11_crew_76 : decode cX11_crew 76 = .ok (.istore 6, 2) := by decide +kernel
theorem dX11_crew_78 : decode cX11_crew 78 = .ok (.aload_n 0, 1) := by decide +kernel
theorem dX11_crew_79 : decode cX11_crew 79 = .ok (.iload 6, 2) := by decide +kernel
theorem dX11_crew_81 : decode cX11_crew 81 = .ok (.iload 4, 2) := by decide +kernel
theorem dX11_crew_83 : decode cX11_crew 83 = .ok (.invokevirtual 194, 3) := by decide +kernel
theorem dX11_crew_86 : decode cX11_crew 86 = .ok (.istore 7, 2) := by decide +kernel
theorem dX11_crew_88 : decode cX11_crew 88 = .ok (.iload 7, 2) := by decide +kernel
theorem dX11_crew_90 : decode cX11_crew 90 = .ok (.ifCond .eq 6, 3) := by decide +kernel
theorem dX11_crew_93 : decode cX11_crew 93 = .ok (.iload 7, 2) := by decide +kernel
theorem dX11_crew_95 : decode cX11_crew 95 = .ok (.ireturn, 1) := by decide +kernel
theorem dX11_crew_96 : decode cX11_crew 96 = .ok (.aload_n 0, 1) := by decide +kernel
theorem dX11_crew_97 : decode cX11_crew 97 = .ok (.getfield 117, 3) := by decide +kernel
theorem dX11_crew_100 : decode cX11_crew 100 = .ok (.istore 8, 2) := by decide +kernel
theorem dX11_crew_102 : decode cX11_crew 102 = .ok (.bipush (-9), 2) := by decide +kernel
theorem dX11_crew_104 : decode cX11_crew 104 = .ok (.istore 9, 2) := by decide +kernel
theorem dX11_crew_106 : decode cX11_crew 106 = .ok (.bipush 6, 2) := by decide +kernel
theorem dX11_crew_108 : decode cX11_crew 108 = .ok (.istore 10, 2) := by decide +kernel
theorem dX11_crew_110 : decode cX11_crew 110 = .ok (.iload 10, 2) := by decide +kernel
theorem dX11_crew_112 : decode cX11_crew 112 = .ok (.ifCond .le 45, 3) := by decide +kernel
theorem dX11_crew_115 : decode cX11_crew 115 = .ok (.aload_n 0, 1) := by decide +kernel
theorem dX11_crew_116 : decode cX11_crew 116 = .ok (.iload 10, 2) := by decide +kernel
theorem dX11_crew_118 : decode cX11_crew 118 = .ok (.putfield 117, 3) := by decide +kernel
theorem dX11_crew_121 : decode cX11_crew 121 = .ok (.aload_n 0, 1) := by decide +kernel
theorem dX11_crew_122 : decode cX11_crew 122 = .ok (.invokevirtual 219, 3) := by decide +kernel
theorem dX11_crew_125 : decode cX11_crew 125 = .ok (.aload_n 0, 1) := by decide +kernel
theorem dX11_crew_126 : decode cX11_crew 126 = .ok (.iload 6, 2) := by decide +kernel
theorem dX11_crew_128 : decode cX11_crew 128 = .ok (.iload 4, 2) := by decide +kernel
theorem dX11_crew_130 : decode cX11_crew 130 = .ok (.invokevirtual 222, 3) := by decide +kernel
theorem dX11_crew_133 : decode cX11_crew 133 = .ok (.bipush (-9), 2) := by decide +kernel
theorem dX11_crew_135 : decode cX11_crew 135 = .ok (.if_icmp .ne 8, 3) := by decide +kernel
theorem dX11_crew_138 : decode cX11_crew 138 = .ok (.iload 10, 2) := by decide +kernel
theorem dX11_crew_140 : decode cX11_crew 140 = .ok (.goto 5, 3) := by decide +kernel
theorem dX11_crew_143 : decode cX11_crew 143 = .ok (.iload 9, 2) := by decide +kernel
theorem dX11_crew_145 : decode cX11_crew 145 = .ok (.istore 9, 2) := by decide +kernel
theorem dX11_crew_147 : decode cX11_crew 147 = .ok (.aload_n 0, 1) := by decide +kernel
theorem dX11_crew_148 : decode cX11_crew 148 = .ok (.invokevirtual 228, 3) := by decide +kernel
theorem dX11_crew_151 : decode cX11_crew 151 = .ok (.iinc 10 (-1), 3) := by decide +kernel
theorem dX11_crew_154 : decode cX11_crew 154 = .ok (.goto (-44), 3) := by decide +kernel
theorem dX11_crew_157 : decode cX11_crew 157 = .ok (.aload_n 0, 1) := by decide +kernel
theorem dX11_crew_158 : decode cX11_crew 158 = .ok (.iload 8, 2) := by decide +kernel
theorem dX11_crew_160 : decode cX11_crew 160 = .ok (.putfield 117, 3) := by decide +kernel
theorem dX11_crew_163 : decode cX11_crew 163 = .ok (.iload 9, 2) := by decide +kernel
theorem dX11_crew_165 : decode cX11_crew 165 = .ok (.ireturn, 1) := by decide +kernel
theorem dX11_placeBy_0 : decode cX11_placeBy 0 = .ok (.aload_n 0, 1) := by decide +kernel
theorem dX11_placeBy_1 : decode cX11_placeBy 1 = .ok (.getfield 28, 3) := by decide +kernel
theorem dX11_placeBy_4 : decode cX11_placeBy 4 = .ok (.iload_n 1, 1) := by decide +kernel
theorem dX11_placeBy_5 : decode cX11_placeBy 5 = .ok (.iaload, 1) := by decide +kernel
theorem dX11_placeBy_6 : decode cX11_placeBy 6 = .ok (.ifCond .eq 14, 3) := by decide +kernel
theorem dX11_placeBy_9 : decode cX11_placeBy 9 = .ok (.aload_n 0, 1) := by decide +kernel
theorem dX11_placeBy_10 : decode cX11_placeBy 10 = .ok (.getfield 28, 3) := by decide +kernel
theorem dX11_placeBy_13 : decode cX11_placeBy 13 = .ok (.iload_n 1, 1) := by decide +kernel
theorem dX11_placeBy_14 : decode cX11_placeBy 14 = .ok (.iaload, 1) := by decide +kernel
theorem dX11_placeBy_15 : decode cX11_placeBy 15 = .ok (.bipush 9, 2) := by decide +kernel
theorem dX11_placeBy_17 : decode cX11_placeBy 17 = .ok (.if_icmp .ne 8, 3) := by decide +kernel
theorem dX11_placeBy_20 : decode cX11_placeBy 20 = .ok (.bipush (-9), 2) := by decide +kernel
theorem dX11_placeBy_22 : decode cX11_placeBy 22 = .ok (.goto 9, 3) := by decide +kernel
theorem dX11_placeBy_25 : decode cX11_placeBy 25 = .ok (.aload_n 0, 1) := by decide +kernel
theorem dX11_placeBy_26 : decode cX11_placeBy 26 = .ok (.getfield 28, 3) := by decide +kernel
theorem dX11_placeBy_29 : decode cX11_placeBy 29 = .ok (.iload_n 1, 1) := by decide +kernel
theorem dX11_placeBy_30 : decode cX11_placeBy 30 = .ok (.iaload, 1) := by decide +kernel
theorem dX11_placeBy_31 : decode cX11_placeBy 31 = .ok (.istore_n 3, 1) := by decide +kernel
theorem dX11_placeBy_32 : decode cX11_placeBy 32 = .ok (.iload_n 2, 1) := by decide +kernel
theorem dX11_placeBy_33 : decode cX11_placeBy 33 = .ok (.ifCond .ne 7, 3) := by decide +kernel
theorem dX11_placeBy_36 : decode cX11_placeBy 36 = .ok (.iconst 0, 1) := by decide +kernel
theorem dX11_placeBy_37 : decode cX11_placeBy 37 = .ok (.goto 14, 3) := by decide +kernel
theorem dX11_placeBy_40 : decode cX11_placeBy 40 = .ok (.iload_n 2, 1) := by decide +kernel
theorem dX11_placeBy_41 : decode cX11_placeBy 41 = .ok (.iconst 1, 1) := by decide +kernel
theorem dX11_placeBy_42 : decode cX11_placeBy 42 = .ok (.if_icmp .ne 7, 3) := by decide +kernel
theorem dX11_placeBy_45 : decode cX11_placeBy 45 = .ok (.iload_n 3, 1) := by decide +kernel
theorem dX11_placeBy_46 : decode cX11_placeBy 46 = .ok (.goto 5, 3) := by decide +kernel
theorem dX11_placeBy_49 : decode cX11_placeBy 49 = .ok (.bipush 9, 2) := by decide +kernel
theorem dX11_placeBy_51 : decode cX11_placeBy 51 = .ok (.ireturn, 1) := by decide +kernel
set_option maxRecDepth 20000 in
theorem ggX11_goalsBy_X11_placeBy : GoodIn wsX11_goalsBy wsX11_placeBy := goodIn_r _ [11, 5, 22, 23, 24, 25, 26, 27, 28, 29, 30, 31, 32, 33, 34, 35, 36, 37, 38, 39, 40, 41, 42, 43, 44, 45, 46, 47, 48, 49, 50, 51, 52, 53, 54, 55, 56, 57, 58, 59, 60] (by decide +kernel) (by decide +kernel)
set_option maxRecDepth 20000 in
theorem gX11_goalsBy_X11_placeBy : GoodIn wsX11_goalsBy (wsV RX11 237 RX11 yX11_placeBy wsX11_placeBy) := goodIn_app (goodIn_of _ (by decide +kernel)) ggX11_goalsBy_X11_placeBy
set_option maxRecDepth 20000 in
theorem ggX11_goalsBy_X11_pullOf : GoodIn wsX11_goalsBy wsX11_pullOf := goodIn_r _ [15, 16, 17, 18, 22, 23, 24, 25, 26, 27, 28, 29, 30, 31, 32, 33, 34, 35, 36, 37, 38, 39, 40, 41, 42, 43, 44, 45, 46, 47, 48, 49, 50, 51, 52, 53, 54, 55, 56, 57, 58, 59, 60] (by decide +kernel) (by decide +kernel)
set_option maxRecDepth 20000 in
theorem gX11_goalsBy_X11_pullOf : GoodIn wsX11_goalsBy (wsV RX11 155 RX11 yX11_pullOf wsX11_pullOf) := goodIn_app (goodIn_of _ (by decide +kernel)) ggX11_goalsBy_X11_pullOf
set_option maxRecDepth 20000 in
theorem ggX11_goalsBy_X11_apart : GoodIn wsX11_goalsBy wsX11_apart := goodIn_r _ [21] (by decide +kernel) (by decide +kernel)
set_option maxRecDepth 20000 in
theorem gX11_goalsBy_X11_apart : GoodIn wsX11_goalsBy (va_wsS RX11 168 yX11_apart wsX11_apart) := goodIn_app (goodIn_of _ (by decide +kernel)) ggX11_goalsBy_X11_apart
theorem dX11_goalsBy_0 : decode cX11_goalsBy 0 = .ok (.iload_n 1, 1) := by decide +kernel
theorem dX11_goalsBy_1 : decode cX11_goalsBy 1 = .ok (.istore_n 2, 1) := by decide +kernel
theorem dX11_goalsBy_2 : decode cX11_goalsBy 2 = .ok (.aload_n 0, 1) := by decide +kernel
theorem dX11_goalsBy_3 : decode cX11_goalsBy 3 = .ok (.iconst 0, 1) := by decide +kernel
theorem dX11_goalsBy_4 : decode cX11_goalsBy 4 = .ok (.putfield 231, 3) := by decide +kernel
theorem dX11_goalsBy_7 : decode cX11_goalsBy 7 = .ok (.aload_n 0, 1) := by decide +kernel
theorem dX11_goalsBy_8 : decode cX11_goalsBy 8 = .ok (.iconst 0, 1) := by decide +kernel
theorem dX11_goalsBy_9 : decode cX11_goalsBy 9 = .ok (.putfield 234, 3) := by decide +kernel
theorem dX11_goalsBy_12 : decode cX11_goalsBy 12 = .ok (.aload_n 0, 1) := by decide +kernel
theorem dX11_goalsBy_13 : decode cX11_goalsBy 13 = .ok (.getfield 87, 3) := by decide +kernel
theorem dX11_goalsBy_16 : decode cX11_goalsBy 16 = .ok (.iconst 1, 1) := by decide +kernel
theorem dX11_goalsBy_17 : decode cX11_goalsBy 17 = .ok (.isub, 1) := by decide +kernel
theorem dX11_goalsBy_18 : decode cX11_goalsBy 18 = .ok (.istore_n 3, 1) := by decide +kernel
theorem dX11_goalsBy_19 : decode cX11_goalsBy 19 = .ok (.iload_n 3, 1) := by decide +kernel
theorem dX11_goalsBy_20 : decode cX11_goalsBy 20 = .ok (.ifCond .lt 137, 3) := by decide +kernel
theorem dX11_goalsBy_23 : decode cX11_goalsBy 23 = .ok (.aload_n 0, 1) := by decide +kernel
theorem dX11_goalsBy_24 : decode cX11_goalsBy 24 = .ok (.getfield 37, 3) := by decide +kernel
theorem dX11_goalsBy_27 : decode cX11_goalsBy 27 = .ok (.iload_n 3, 1) := by decide +kernel
theorem dX11_goalsBy_28 : decode cX11_goalsBy 28 = .ok (.aload_n 0, 1) := by decide +kernel
theorem dX11_goalsBy_29 : decode cX11_goalsBy 29 = .ok (.iload_n 3, 1) := by decide +kernel
theorem dX11_goalsBy_30 : decode cX11_goalsBy 30 = .ok (.iload_n 2, 1) := by decide +kernel
theorem dX11_goalsBy_31 : decode cX11_goalsBy 31 = .ok (.iconst 3, 1) := by decide +kernel
theorem dX11_goalsBy_32 : decode cX11_goalsBy 32 = .ok (.irem, 1) := by decide +kernel
theorem dX11_goalsBy_33 : decode cX11_goalsBy 33 = .ok (.invokevirtual 237, 3) := by decide +kernel
theorem dX11_goalsBy_36 : decode cX11_goalsBy 36 = .ok (.iastore, 1) := by decide +kernel
theorem dX11_goalsBy_37 : decode cX11_goalsBy 37 = .ok (.iload_n 2, 1) := by decide +kernel
theorem dX11_goalsBy_38 : decode cX11_goalsBy 38 = .ok (.iconst 3, 1) := by decide +kernel
theorem dX11_goalsBy_39 : decode cX11_goalsBy 39 = .ok (.idiv, 1) := by decide +kernel
theorem dX11_goalsBy_40 : decode cX11_goalsBy 40 = .ok (.istore_n 2, 1) := by decide +kernel
theorem dX11_goalsBy_41 : decode cX11_goalsBy 41 = .ok (.aload_n 0, 1) := by decide +kernel
theorem dX11_goalsBy_42 : decode cX11_goalsBy 42 = .ok (.getfield 37, 3) := by decide +kernel
theorem dX11_goalsBy_45 : decode cX11_goalsBy 45 = .ok (.iload_n 3, 1) := by decide +kernel
theorem dX11_goalsBy_46 : decode cX11_goalsBy 46 = .ok (.iaload, 1) := by decide +kernel
theorem dX11_goalsBy_47 : decode cX11_goalsBy 47 = .ok (.aload_n 0, 1) := by decide +kernel
theorem dX11_goalsBy_48 : decode cX11_goalsBy 48 = .ok (.getfield 28, 3) := by decide +kernel
theorem dX11_goalsBy_51 : decode cX11_goalsBy 51 = .ok (.iload_n 3, 1) := by decide +kernel
theorem dX11_goalsBy_52 : decode cX11_goalsBy 52 = .ok (.iaload, 1) := by decide +kernel
theorem dX11_goalsBy_53 : decode cX11_goalsBy 53 = .ok (.if_icmp .eq 7, 3) := by decide +kernel
theorem dX11_goalsBy_56 : decode cX11_goalsBy 56 = .ok (.iconst 1, 1) := by decide +kernel
theorem dX11_goalsBy_57 : decode cX11_goalsBy 57 = .ok (.goto 4, 3) := by decide +kernel
theorem dX11_goalsBy_60 : decode cX11_goalsBy 60 = .ok (.iconst 0, 1) := by decide +kernel
theorem dX11_goalsBy_61 : decode cX11_goalsBy 61 = .ok (.istore 4, 2) := by decide +kernel
theorem dX11_goalsBy_63 : decode cX11_goalsBy 63 = .ok (.aload_n 0, 1) := by decide +kernel
theorem dX11_goalsBy_64 : decode cX11_goalsBy 64 = .ok (.getfield 37, 3) := by decide +kernel
theorem dX11_goalsBy_67 : decode cX11_goalsBy 67 = .ok (.iload_n 3, 1) := by decide +kernel
theorem dX11_goalsBy_68 : decode cX11_goalsBy 68 = .ok (.iaload, 1) := by decide +kernel
theorem dX11_goalsBy_69 : decode cX11_goalsBy 69 = .ok (.bipush (-9), 2) := by decide +kernel
theorem dX11_goalsBy_71 : decode cX11_goalsBy 71 = .ok (.if_icmp .eq 20, 3) := by decide +kernel
theorem dX11_goalsBy_74 : decode cX11_goalsBy 74 = .ok (.iload 4, 2) := by decide +kernel
theorem dX11_goalsBy_76 : decode cX11_goalsBy 76 = .ok (.ifCond .eq 17, 3) := by decide +kernel
theorem dX11_goalsBy_79 : decode cX11_goalsBy 79 = .ok (.aload_n 0, 1) := by decide +kernel
theorem dX11_goalsBy_80 : decode cX11_goalsBy 80 = .ok (.iload_n 3, 1) := by decide +kernel
theorem dX11_goalsBy_81 : decode cX11_goalsBy 81 = .ok (.invokevirtual 155, 3) := by decide +kernel
theorem dX11_goalsBy_84 : decode cX11_goalsBy 84 = .ok (.aload_n 0, 1) := by decide +kernel
theorem dX11_goalsBy_85 : decode cX11_goalsBy 85 = .ok (.getfield 117, 3) := by decide +kernel
theorem dX11_goalsBy_88 : decode cX11_goalsBy 88 = .ok (.if_icmp .le 5, 3) := by decide +kernel
theorem dX11_goalsBy_91 : decode cX11_goalsBy 91 = .ok (.iconst 0, 1) := by decide +kernel
theorem dX11_goalsBy_92 : decode cX11_goalsBy 92 = .ok (.ireturn, 1) := by decide +kernel
theorem dX11_goalsBy_93 : decode cX11_goalsBy 93 = .ok (.aload_n 0, 1) := by decide +kernel
theorem dX11_goalsBy_94 : decode cX11_goalsBy 94 = .ok (.dup, 1) := by decide +kernel
theorem dX11_goalsBy_95 : decode cX11_goalsBy 95 = .ok (.getfield 231, 3) := by decide +kernel
theorem dX11_goalsBy_98 : decode cX11_goalsBy 98 = .ok (.iload 4, 2) := by decide +kernel
theorem dX11_goalsBy_100 : decode cX11_goalsBy 100 = .ok (.ifCond .eq 7, 3) := by decide +kernel
theorem dX11_goalsBy_103 : decode cX11_goalsBy 103 = .ok (.iconst 1, 1) := by decide +kernel
theorem dX11_goalsBy_104 : decode cX11_goalsBy 104 = .ok (.goto 4, 3) := by decide +kernel
theorem dX11_goalsBy_107 : decode cX11_goalsBy 107 = .ok (.iconst 0, 1) := by decide +kernel
theorem dX11_goalsBy_108 : decode cX11_goalsBy 108 = .ok (.iadd, 1) := by decide +kernel
theorem dX11_goalsBy_109 : decode cX11_goalsBy 109 = .ok (.putfield 231, 3) := by decide +kernel
theorem dX11_goalsBy_112 : decode cX11_goalsBy 112 = .ok (.aload_n 0, 1) := by decide +kernel
theorem dX11_goalsBy_113 : decode cX11_goalsBy 113 = .ok (.dup, 1) := by decide +kernel
theorem dX11_goalsBy_114 : decode cX11_goalsBy 114 = .ok (.getfield 234, 3) := by decide +kernel
theorem dX11_goalsBy_117 : decode cX11_goalsBy 117 = .ok (.iload 4, 2) := by decide +kernel
theorem dX11_goalsBy_119 : decode cX11_goalsBy 119 = .ok (.ifCond .eq 27, 3) := by decide +kernel
theorem dX11_goalsBy_122 : decode cX11_goalsBy 122 = .ok (.aload_n 0, 1) := by decide +kernel
theorem dX11_goalsBy_123 : decode cX11_goalsBy 123 = .ok (.iload_n 3, 1) := by decide +kernel
theorem dX11_goalsBy_124 : decode cX11_goalsBy 124 = .ok (.invokevirtual 155, 3) := by decide +kernel
theorem dX11_goalsBy_127 : decode cX11_goalsBy 127 = .ok (.aload_n 0, 1) := by decide +kernel
theorem dX11_goalsBy_128 : decode cX11_goalsBy 128 = .ok (.getfield 37, 3) := by decide +kernel
theorem dX11_goalsBy_131 : decode cX11_goalsBy 131 = .ok (.iload_n 3, 1) := by decide +kernel
theorem dX11_goalsBy_132 : decode cX11_goalsBy 132 = .ok (.iaload, 1) := by decide +kernel
theorem dX11_goalsBy_133 : decode cX11_goalsBy 133 = .ok (.aload_n 0, 1) := by decide +kernel
theorem dX11_goalsBy_134 : decode cX11_goalsBy 134 = .ok (.getfield 28, 3) := by decide +kernel
theorem dX11_goalsBy_137 : decode cX11_goalsBy 137 = .ok (.iload_n 3, 1) := by decide +kernel
theorem dX11_goalsBy_138 : decode cX11_goalsBy 138 = .ok (.iaload, 1) := by decide +kernel
theorem dX11_goalsBy_139 : decode cX11_goalsBy 139 = .ok (.invokestatic 168, 3) := by decide +kernel
theorem dX11_goalsBy_142 : decode cX11_goalsBy 142 = .ok (.imul, 1) := by decide +kernel
theorem dX11_goalsBy_143 : decode cX11_goalsBy 143 = .ok (.goto 4, 3) := by decide +kernel
theorem dX11_goalsBy_146 : decode cX11_goalsBy 146 = .ok (.iconst 0, 1) := by decide +kernel
theorem dX11_goalsBy_147 : decode cX11_goalsBy 147 = .ok (.iadd, 1) := by decide +kernel
theorem dX11_goalsBy_148 : decode cX11_goalsBy 148 = .ok (.putfield 234, 3) := by decide +kernel
theorem dX11_goalsBy_151 : decode cX11_goalsBy 151 = .ok (.iinc 3 (-1), 3) := by decide +kernel
theorem dX11_goalsBy_154 : decode cX11_goalsBy 154 = .ok (.goto (-135), 3) := by decide +kernel
theorem dX11_goalsBy_157 : decode cX11_goalsBy 157 = .ok (.iconst 1, 1) := by decide +kernel
theorem dX11_goalsBy_158 : decode cX11_goalsBy 158 = .ok (.ireturn, 1) := by decide +kernel
set_option maxRecDepth 20000 in
theorem ggX11_isPicture_X11_keepHeights : GoodIn wsX11_isPicture wsX11_keepHeights := goodIn_r _ [5, 6, 7, 28, 29, 30, 31, 32, 33, 34, 35, 36, 37, 38, 39, 40, 41, 42, 43, 44, 45, 46, 47, 48, 49, 50, 51, 52, 53, 54, 55, 56, 57, 58, 59, 60, 61, 62, 63, 64, 65, 66] (by decide +kernel) (by decide +kernel)
set_option maxRecDepth 20000 in
theorem gX11_isPicture_X11_keepHeights : GoodIn wsX11_isPicture (wsV RX11 219 RX11 yX11_keepHeights wsX11_keepHeights) := goodIn_app (goodIn_of _ (by decide +kernel)) ggX11_isPicture_X11_keepHeights
set_option maxRecDepth 20000 in
theorem ggX11_isPicture_X11_goes : GoodIn wsX11_isPicture wsX11_goes := goodIn_r _ [11, 12, 7, 13, 28, 29, 30, 31, 32, 33, 34, 35, 36, 37, 38, 39, 40, 41, 42, 43, 44, 45, 46, 47, 48, 49, 50, 51, 52, 53, 54, 55, 56, 57, 58, 59, 60, 61, 62, 63, 64, 65, 66] (by decide +kernel) (by decide +kernel)
set_option maxRecDepth 20000 in
theorem gX11_isPicture_X11_goes : GoodIn wsX11_isPicture (wsV RX11 182 RX11 yX11_goes wsX11_goes) := goodIn_app (goodIn_of _ (by decide +kernel)) ggX11_isPicture_X11_goes
set_option maxRecDepth 20000 in
theorem ggX11_isPicture_X11_seenNow : GoodIn wsX11_isPicture wsX11_seenNow := goodIn_r _ [17, 18, 12, 19, 20, 21, 4, 22, 7, 23, 28, 29, 30, 31, 32, 33, 34, 35, 36, 37, 38, 39, 40, 41, 42, 43, 44, 45, 46, 47, 48, 49, 50, 51, 52, 53, 54, 55, 56, 57, 58, 59, 60, 61, 62, 63, 64, 65, 66] (by decide +kernel) (by decide +kernel)
set_option maxRecDepth 20000 in
theorem gX11_isPicture_X11_seenNow : GoodIn wsX11_isPicture (wsV RX11 161 RX11 yX11_seenNow wsX11_seenNow) := goodIn_app (goodIn_of _ (by decide +kernel)) ggX11_isPicture_X11_seenNow
set_option maxRecDepth 20000 in
theorem ggX11_isPicture_X11_putHeights : GoodIn wsX11_isPicture wsX11_putHeights := goodIn_r _ [27, 7, 6, 28, 29, 30, 31, 32, 33, 34, 35, 36, 37, 38, 39, 40, 41, 42, 43, 44, 45, 46, 47, 48, 49, 50, 51, 52, 53, 54, 55, 56, 57, 58, 59, 60, 61, 62, 63, 64, 65, 66] (by decide +kernel) (by decide +kernel)
set_option maxRecDepth 20000 in
theorem gX11_isPicture_X11_putHeights : GoodIn wsX11_isPicture (wsV RX11 228 RX11 yX11_putHeights wsX11_putHeights) := goodIn_app (goodIn_of _ (by decide +kernel)) ggX11_isPicture_X11_putHeights
theorem dX11_isPicture_0 : decode cX11_isPicture 0 = .ok (.aload_n 0, 1) := by decide +kernel
theorem dX11_isPicture_1 : decode cX11_isPicture 1 = .ok (.invokevirtual 219, 3) := by decide +kernel
theorem dX11_isPicture_4 : decode cX11_isPicture 4 = .ok (.aload_n 0, 1) := by decide +kernel
theorem dX11_isPicture_5 : decode cX11_isPicture 5 = .ok (.invokevirtual 182, 3) := by decide +kernel
theorem dX11_isPicture_8 : decode cX11_isPicture 8 = .ok (.aload_n 0, 1) := by decide +kernel
theorem dX11_isPicture_9 : decode cX11_isPicture 9 = .ok (.invokevirtual 161, 3) := by decide +kernel
theorem dX11_isPicture_12 : decode cX11_isPicture 12 = .ok (.iload_n 1, 1) := by decide +kernel
theorem dX11_isPicture_13 : decode cX11_isPicture 13 = .ok (.if_icmp .ne 7, 3) := by decide +kernel
theorem dX11_isPicture_16 : decode cX11_isPicture 16 = .ok (.iconst 1, 1) := by decide +kernel
theorem dX11_isPicture_17 : decode cX11_isPicture 17 = .ok (.goto 4, 3) := by decide +kernel
theorem dX11_isPicture_20 : decode cX11_isPicture 20 = .ok (.iconst 0, 1) := by decide +kernel
theorem dX11_isPicture_21 : decode cX11_isPicture 21 = .ok (.istore_n 2, 1) := by decide +kernel
theorem dX11_isPicture_22 : decode cX11_isPicture 22 = .ok (.aload_n 0, 1) := by decide +kernel
theorem dX11_isPicture_23 : decode cX11_isPicture 23 = .ok (.invokevirtual 228, 3) := by decide +kernel
theorem dX11_isPicture_26 : decode cX11_isPicture 26 = .ok (.iload_n 2, 1) := by decide +kernel
theorem dX11_isPicture_27 : decode cX11_isPicture 27 = .ok (.ireturn, 1) := by decide +kernel
set_option maxRecDepth 20000 in
theorem ggX11_findPicture_X11_goalsBy : GoodIn wsX11_findPicture wsX11_goalsBy := goodIn_r _ [11, 3, 4, 1, 6, 12, 13, 14, 15, 16, 10, 17, 18, 19, 20, 21, 22, 23, 24, 25, 26, 27, 55, 56, 57, 58, 59, 60, 61, 62, 63, 64, 65, 66, 67, 68, 69, 70, 71, 72, 73, 74, 75, 76, 77, 78, 79, 80, 81, 82, 83, 84, 85, 86, 87, 88, 89, 90, 91, 92, 93] (by decide +kernel) (by decide +kernel)
set_option maxRecDepth 20000 in
theorem gX11_findPicture_X11_goalsBy : GoodIn wsX11_findPicture (wsV RX11 241 RX11 yX11_goalsBy wsX11_goalsBy) := goodIn_app (goodIn_of _ (by decide +kernel)) ggX11_findPicture_X11_goalsBy
set_option maxRecDepth 20000 in
theorem ggX11_findPicture_X11_isPicture : GoodIn wsX11_findPicture wsX11_isPicture := goodIn_r _ [31, 32, 33, 34, 10, 35, 36, 12, 37, 38, 39, 40, 1, 6, 41, 42, 43, 44, 45, 46, 47, 48, 49, 50, 51, 52, 53, 54, 55, 56, 57, 58, 59, 60, 61, 62, 63, 64, 65, 66, 67, 68, 69, 70, 71, 72, 73, 74, 75, 76, 77, 78, 79, 80, 81, 82, 83, 84, 85, 86, 87, 88, 89, 90, 91, 92, 93] (by decide +kernel) (by decide +kernel)
set_option maxRecDepth 20000 in
theorem gX11_findPicture_X11_isPicture : GoodIn wsX11_findPicture (wsV RX11 244 RX11 yX11_isPicture wsX11_isPicture) := goodIn_app (goodIn_of _ (by decide +kernel)) ggX11_findPicture_X11_isPicture
theorem dX11_findPicture_0 : decode cX11_findPicture 0 = .ok (.iconst 1, 1) := by decide +kernel
theorem dX11_findPicture_1 : decode cX11_findPicture 1 = .ok (.istore_n 2, 1) := by decide +kernel
theorem dX11_findPicture_2 : decode cX11_findPicture 2 = .ok (.iconst 0, 1) := by decide +kernel
theorem dX11_findPicture_3 : decode cX11_findPicture 3 = .ok (.istore_n 3, 1) := by decide +kernel
theorem dX11_findPicture_4 : decode cX11_findPicture 4 = .ok (.iload_n 3, 1) := by decide +kernel
theorem dX11_findPicture_5 : decode cX11_findPicture 5 = .ok (.aload_n 0, 1) := by decide +kernel
theorem dX11_findPicture_6 : decode cX11_findPicture 6 = .ok (.getfield 87, 3) := by decide +kernel
theorem dX11_findPicture_9 : decode cX11_findPicture 9 = .ok (.if_icmp .ge 13, 3) := by decide +kernel
theorem dX11_findPicture_12 : decode cX11_findPicture 12 = .ok (.iload_n 2, 1) := by decide +kernel
theorem dX11_findPicture_13 : decode cX11_findPicture 13 = .ok (.iconst 3, 1) := by decide +kernel
theorem dX11_findPicture_14 : decode cX11_findPicture 14 = .ok (.imul, 1) := by decide +kernel
theorem dX11_findPicture_15 : decode cX11_findPicture 15 = .ok (.istore_n 2, 1) := by decide +kernel
theorem dX11_findPicture_16 : decode cX11_findPicture 16 = .ok (.iinc 3 1, 3) := by decide +kernel
theorem dX11_findPicture_19 : decode cX11_findPicture 19 = .ok (.goto (-15), 3) := by decide +kernel
theorem dX11_findPicture_22 : decode cX11_findPicture 22 = .ok (.ldc 240, 2) := by decide +kernel
theorem dX11_findPicture_24 : decode cX11_findPicture 24 = .ok (.istore_n 3, 1) := by decide +kernel
theorem dX11_findPicture_25 : decode cX11_findPicture 25 = .ok (.iconst 0, 1) := by decide +kernel
theorem dX11_findPicture_26 : decode cX11_findPicture 26 = .ok (.istore 4, 2) := by decide +kernel
theorem dX11_findPicture_28 : decode cX11_findPicture 28 = .ok (.iload 4, 2) := by decide +kernel
theorem dX11_findPicture_30 : decode cX11_findPicture 30 = .ok (.iload_n 2, 1) := by decide +kernel
theorem dX11_findPicture_31 : decode cX11_findPicture 31 = .ok (.if_icmp .ge 89, 3) := by decide +kernel
theorem dX11_findPicture_34 : decode cX11_findPicture 34 = .ok (.aload_n 0, 1) := by decide +kernel
theorem dX11_findPicture_35 : decode cX11_findPicture 35 = .ok (.iload 4, 2) := by decide +kernel
theorem dX11_findPicture_37 : decode cX11_findPicture 37 = .ok (.invokevirtual 241, 3) := by decide +kernel
theorem dX11_findPicture_40 : decode cX11_findPicture 40 = .ok (.ifCond .eq 74, 3) := by decide +kernel
theorem dX11_findPicture_43 : decode cX11_findPicture 43 = .ok (.sipush 1000, 3) := by decide +kernel
theorem dX11_findPicture_46 : decode cX11_findPicture 46 = .ok (.aload_n 0, 1) := by decide +kernel
theorem dX11_findPicture_47 : decode cX11_findPicture 47 = .ok (.getfield 231, 3) := by decide +kernel
theorem dX11_findPicture_50 : decode cX11_findPicture 50 = .ok (.imul, 1) := by decide +kernel
theorem dX11_findPicture_51 : decode cX11_findPicture 51 = .ok (.aload_n 0, 1) := by decide +kernel
theorem dX11_findPicture_52 : decode cX11_findPicture 52 = .ok (.getfield 234, 3) := by decide +kernel
theorem dX11_findPicture_55 : decode cX11_findPicture 55 = .ok (.iadd, 1) := by decide +kernel
theorem dX11_findPicture_56 : decode cX11_findPicture 56 = .ok (.iload_n 3, 1) := by decide +kernel
theorem dX11_findPicture_57 : decode cX11_findPicture 57 = .ok (.if_icmp .ge 57, 3) := by decide +kernel
theorem dX11_findPicture_60 : decode cX11_findPicture 60 = .ok (.aload_n 0, 1) := by decide +kernel
theorem dX11_findPicture_61 : decode cX11_findPicture 61 = .ok (.iload_n 1, 1) := by decide +kernel
theorem dX11_findPicture_62 : decode cX11_findPicture 62 = .ok (.invokevirtual 244, 3) := by decide +kernel
theorem dX11_findPicture_65 : decode cX11_findPicture 65 = .ok (.ifCond .eq 49, 3) := by decide +kernel
theorem dX11_findPicture_68 : decode cX11_findPicture 68 = .ok (.sipush 1000, 3) := by decide +kernel
theorem dX11_findPicture_71 : decode cX11_findPicture 71 = .ok (.aload_n 0, 1) := by decide +kernel
theorem dX11_findPicture_72 : decode cX11_findPicture 72 = .ok (.getfield 231, 3) := by decide +kernel
theorem dX11_findPicture_75 : decode cX11_findPicture 75 = .ok (.imul, 1) := by decide +kernel
theorem dX11_findPicture_76 : decode cX11_findPicture 76 = .ok (.aload_n 0, 1) := by decide +kernel
theorem dX11_findPicture_77 : decode cX11_findPicture 77 = .ok (.getfield 234, 3) := by decide +kernel
theorem dX11_findPicture_80 : decode cX11_findPicture 80 = .ok (.iadd, 1) := by decide +kernel
theorem dX11_findPicture_81 : decode cX11_findPicture 81 = .ok (.istore_n 3, 1) := by decide +kernel
theorem dX11_findPicture_82 : decode cX11_findPicture 82 = .ok (.iconst 0, 1) := by decide +kernel
theorem dX11_findPicture_83 : decode cX11_findPicture 83 = .ok (.istore 5, 2) := by decide +kernel
theorem dX11_findPicture_85 : decode cX11_findPicture 85 = .ok (.iload 5, 2) := by decide +kernel
theorem dX11_findPicture_87 : decode cX11_findPicture 87 = .ok (.aload_n 0, 1) := by decide +kernel
theorem dX11_findPicture_88 : decode cX11_findPicture 88 = .ok (.getfield 87, 3) := by decide +kernel
theorem dX11_findPicture_91 : decode cX11_findPicture 91 = .ok (.if_icmp .ge 23, 3) := by decide +kernel
theorem dX11_findPicture_94 : decode cX11_findPicture 94 = .ok (.aload_n 0, 1) := by decide +kernel
theorem dX11_findPicture_95 : decode cX11_findPicture 95 = .ok (.getfield 59, 3) := by decide +kernel
theorem dX11_findPicture_98 : decode cX11_findPicture 98 = .ok (.iload 5, 2) := by decide +kernel
theorem dX11_findPicture_100 : decode cX11_findPicture 100 = .ok (.aload_n 0, 1) := by decide +kernel
theorem dX11_findPicture_101 : decode cX11_findPicture 101 = .ok (.getfield 37, 3) := by decide +kernel
theorem dX11_findPicture_104 : decode cX11_findPicture 104 = .ok (.iload 5, 2) := by decide +kernel
theorem dX11_findPicture_106 : decode cX11_findPicture 106 = .ok (.iaload, 1) := by decide +kernel
theorem dX11_findPicture_107 : decode cX11_findPicture 107 = .ok (.iastore, 1) := by decide +kernel
theorem dX11_findPicture_108 : decode cX11_findPicture 108 = .ok (.iinc 5 1, 3) := by decide +kernel
theorem dX11_findPicture_111 : decode cX11_findPicture 111 = .ok (.goto (-26), 3) := by decide +kernel
theorem dX11_findPicture_114 : decode cX11_findPicture 114 = .ok (.iinc 4 1, 3) := by decide +kernel
theorem dX11_findPicture_117 : decode cX11_findPicture 117 = .ok (.goto (-89), 3) := by decide +kernel
theorem dX11_findPicture_120 : decode cX11_findPicture 120 = .ok (.iload_n 3, 1) := by decide +kernel
theorem dX11_findPicture_121 : decode cX11_findPicture 121 = .ok (.ireturn, 1) := by decide +kernel
set_option maxRecDepth 20000 in
theorem ggX11_picture_X11_within : GoodIn wsX11_picture wsX11_within := goodIn_r _ [7] (by decide +kernel) (by decide +kernel)
set_option maxRecDepth 20000 in
theorem gX11_picture_X11_within : GoodIn wsX11_picture (va_wsS RX11 83 yX11_within wsX11_within) := goodIn_app (goodIn_of _ (by decide +kernel)) ggX11_picture_X11_within
set_option maxRecDepth 20000 in
theorem ggX11_picture_X11_findPicture : GoodIn wsX11_picture wsX11_findPicture := goodIn_r _ [11, 1, 2, 12, 13, 3, 14, 15, 16, 17, 6, 18, 19, 20, 21, 22, 23, 24, 25, 26, 27, 28, 29, 30, 31, 32, 33, 34, 35, 36, 37, 38, 39, 40, 41, 42, 43, 44, 45, 46, 47, 48, 49, 50, 51, 52, 53, 54, 55, 56, 57, 58, 59, 60, 61, 66, 67, 68, 69, 70, 71, 72, 73, 74, 75, 76, 77, 78, 79, 80, 81, 82, 83, 84, 85, 86, 87, 88, 89, 90, 91, 92, 93, 94, 95, 96, 97, 98, 99, 100, 101, 102, 103, 104] (by decide +kernel) (by decide +kernel)
set_option maxRecDepth 20000 in
theorem gX11_picture_X11_findPicture : GoodIn wsX11_picture (wsV RX11 247 RX11 yX11_findPicture wsX11_findPicture) := goodIn_app (goodIn_of _ (by decide +kernel)) ggX11_picture_X11_findPicture
set_option maxRecDepth 20000 in
theorem ggX11_picture_X11_isBatten : GoodIn wsX11_picture wsX11_isBatten := goodIn_r _ [65, 1, 66, 67, 68, 69, 70, 71, 72, 73, 74, 75, 76, 77, 78, 79, 80, 81, 82, 83, 84, 85, 86, 87, 88, 89, 90, 91, 92, 93, 94, 95, 96, 97, 98, 99, 100, 101, 102, 103, 104] (by decide +kernel) (by decide +kernel)
set_option maxRecDepth 20000 in
theorem gX11_picture_X11_isBatten : GoodIn wsX11_picture (wsV RX11 152 RX11 yX11_isBatten wsX11_isBatten) := goodIn_app (goodIn_of _ (by decide +kernel)) ggX11_picture_X11_isBatten
theorem dX11_picture_0 : decode cX11_picture 0 = .ok (.aload_n 0, 1) := by decide +kernel
theorem dX11_picture_1 : decode cX11_picture 1 = .ok (.getfield 87, 3) := by decide +kernel
theorem dX11_picture_4 : decode cX11_picture 4 = .ok (.ifCond .ne 6, 3) := by decide +kernel
theorem dX11_picture_7 : decode cX11_picture 7 = .ok (.bipush (-3), 2) := by decide +kernel
theorem dX11_picture_9 : decode cX11_picture 9 = .ok (.ireturn, 1) := by decide +kernel
theorem dX11_picture_10 : decode cX11_picture 10 = .ok (.iload_n 1, 1) := by decide +kernel
theorem dX11_picture_11 : decode cX11_picture 11 = .ok (.iconst 0, 1) := by decide +kernel
theorem dX11_picture_12 : decode cX11_picture 12 = .ok (.iconst 1, 1) := by decide +kernel
theorem dX11_picture_13 : decode cX11_picture 13 = .ok (.aload_n 0, 1) := by decide +kernel
theorem dX11_picture_14 : decode cX11_picture 14 = .ok (.getfield 87, 3) := by decide +kernel
theorem dX11_picture_17 : decode cX11_picture 17 = .ok (.ishl, 1) := by decide +kernel
theorem dX11_picture_18 : decode cX11_picture 18 = .ok (.iconst 1, 1) := by decide +kernel
theorem dX11_picture_19 : decode cX11_picture 19 = .ok (.isub, 1) := by decide +kernel
theorem dX11_picture_20 : decode cX11_picture 20 = .ok (.invokestatic 83, 3) := by decide +kernel
theorem dX11_picture_23 : decode cX11_picture 23 = .ok (.ifCond .eq 14, 3) := by decide +kernel
theorem dX11_picture_26 : decode cX11_picture 26 = .ok (.iload_n 2, 1) := by decide +kernel
theorem dX11_picture_27 : decode cX11_picture 27 = .ok (.bipush (-2), 2) := by decide +kernel
theorem dX11_picture_29 : decode cX11_picture 29 = .ok (.bipush 7, 2) := by decide +kernel
theorem dX11_picture_31 : decode cX11_picture 31 = .ok (.invokestatic 83, 3) := by decide +kernel
theorem dX11_picture_34 : decode cX11_picture 34 = .ok (.ifCond .ne 6, 3) := by decide +kernel
theorem dX11_picture_37 : decode cX11_picture 37 = .ok (.bipush (-2), 2) := by decide +kernel
theorem dX11_picture_39 : decode cX11_picture 39 = .ok (.ireturn, 1) := by decide +kernel
theorem dX11_picture_40 : decode cX11_picture 40 = .ok (.aload_n 0, 1) := by decide +kernel
theorem dX11_picture_41 : decode cX11_picture 41 = .ok (.iload_n 1, 1) := by decide +kernel
theorem dX11_picture_42 : decode cX11_picture 42 = .ok (.invokevirtual 247, 3) := by decide +kernel
theorem dX11_picture_45 : decode cX11_picture 45 = .ok (.istore_n 3, 1) := by decide +kernel
theorem dX11_picture_46 : decode cX11_picture 46 = .ok (.iload_n 3, 1) := by decide +kernel
theorem dX11_picture_47 : decode cX11_picture 47 = .ok (.ldc 240, 2) := by decide +kernel
theorem dX11_picture_49 : decode cX11_picture 49 = .ok (.if_icmp .ne 6, 3) := by decide +kernel
theorem dX11_picture_52 : decode cX11_picture 52 = .ok (.bipush (-9), 2) := by decide +kernel
theorem dX11_picture_54 : decode cX11_picture 54 = .ok (.ireturn, 1) := by decide +kernel
theorem dX11_picture_55 : decode cX11_picture 55 = .ok (.iload_n 2, 1) := by decide +kernel
theorem dX11_picture_56 : decode cX11_picture 56 = .ok (.ifCond .ge 23, 3) := by decide +kernel
theorem dX11_picture_59 : decode cX11_picture 59 = .ok (.iload_n 2, 1) := by decide +kernel
theorem dX11_picture_60 : decode cX11_picture 60 = .ok (.bipush (-2), 2) := by decide +kernel
theorem dX11_picture_62 : decode cX11_picture 62 = .ok (.if_icmp .ne 11, 3) := by decide +kernel
theorem dX11_picture_65 : decode cX11_picture 65 = .ok (.iload_n 3, 1) := by decide +kernel
theorem dX11_picture_66 : decode cX11_picture 66 = .ok (.sipush 1000, 3) := by decide +kernel
theorem dX11_picture_69 : decode cX11_picture 69 = .ok (.idiv, 1) := by decide +kernel
theorem dX11_picture_70 : decode cX11_picture 70 = .ok (.goto 8, 3) := by decide +kernel
theorem dX11_picture_73 : decode cX11_picture 73 = .ok (.iload_n 3, 1) := by decide +kernel
theorem dX11_picture_74 : decode cX11_picture 74 = .ok (.sipush 1000, 3) := by decide +kernel
theorem dX11_picture_77 : decode cX11_picture 77 = .ok (.irem, 1) := by decide +kernel
theorem dX11_picture_78 : decode cX11_picture 78 = .ok (.ireturn, 1) := by decide +kernel
theorem dX11_picture_79 : decode cX11_picture 79 = .ok (.aload_n 0, 1) := by decide +kernel
theorem dX11_picture_80 : decode cX11_picture 80 = .ok (.iload_n 2, 1) := by decide +kernel
theorem dX11_picture_81 : decode cX11_picture 81 = .ok (.invokevirtual 152, 3) := by decide +kernel
theorem dX11_picture_84 : decode cX11_picture 84 = .ok (.ifCond .eq 12, 3) := by decide +kernel
theorem dX11_picture_87 : decode cX11_picture 87 = .ok (.aload_n 0, 1) := by decide +kernel
theorem dX11_picture_88 : decode cX11_picture 88 = .ok (.getfield 59, 3) := by decide +kernel
theorem dX11_picture_91 : decode cX11_picture 91 = .ok (.iload_n 2, 1) := by decide +kernel
theorem dX11_picture_92 : decode cX11_picture 92 = .ok (.iaload, 1) := by decide +kernel
theorem dX11_picture_93 : decode cX11_picture 93 = .ok (.goto 5, 3) := by decide +kernel
theorem dX11_picture_96 : decode cX11_picture 96 = .ok (.bipush (-9), 2) := by decide +kernel
theorem dX11_picture_98 : decode cX11_picture 98 = .ok (.ireturn, 1) := by decide +kernel
set_option maxRecDepth 20000 in
theorem ggX11_canSplit_X11_keepHeights : GoodIn wsX11_canSplit wsX11_keepHeights := goodIn_r _ [8, 9, 10, 41, 42, 43, 44, 45, 46, 47, 48, 49, 50, 51, 52, 53, 54, 55, 56, 57, 58, 59, 60, 61, 62, 63, 64, 65, 66, 67, 68, 69, 70, 71, 72, 73, 74, 75, 76, 77, 78, 79] (by decide +kernel) (by decide +kernel)
set_option maxRecDepth 20000 in
theorem gX11_canSplit_X11_keepHeights : GoodIn wsX11_canSplit (wsV RX11 219 RX11 yX11_keepHeights wsX11_keepHeights) := goodIn_app (goodIn_of _ (by decide +kernel)) ggX11_canSplit_X11_keepHeights
set_option maxRecDepth 20000 in
theorem ggX11_canSplit_X11_goalsAsNow : GoodIn wsX11_canSplit wsX11_goalsAsNow := goodIn_r _ [14, 15, 2, 10, 41, 42, 43, 44, 45, 46, 47, 48, 49, 50, 51, 52, 53, 54, 55, 56, 57, 58, 59, 60, 61, 62, 63, 64, 65, 66, 67, 68, 69, 70, 71, 72, 73, 74, 75, 76, 77, 78, 79] (by decide +kernel) (by decide +kernel)
set_option maxRecDepth 20000 in
theorem gX11_canSplit_X11_goalsAsNow : GoodIn wsX11_canSplit (wsV RX11 188 RX11 yX11_goalsAsNow wsX11_goalsAsNow) := goodIn_app (goodIn_of _ (by decide +kernel)) ggX11_canSplit_X11_goalsAsNow
set_option maxRecDepth 20000 in
theorem ggX11_canSplit_X11_canBe : GoodIn wsX11_canSplit wsX11_canBe := goodIn_r _ [19, 15, 2, 10, 20, 21, 22, 23, 7, 24, 25, 26, 27, 28, 29, 30, 31, 32, 41, 42, 43, 44, 45, 46, 47, 48, 49, 50, 51, 52, 53, 54, 55, 56, 57, 58, 59, 60, 61, 62, 63, 64, 65, 66, 67, 68, 69, 70, 71, 72, 73, 74, 75, 76, 77, 78, 79] (by decide +kernel) (by decide +kernel)
set_option maxRecDepth 20000 in
theorem gX11_canSplit_X11_canBe : GoodIn wsX11_canSplit (wsV RX11 172 RX11 yX11_canBe wsX11_canBe) := goodIn_app (goodIn_of _ (by decide +kernel)) ggX11_canSplit_X11_canBe
set_option maxRecDepth 20000 in
theorem ggX11_canSplit_X11_goes : GoodIn wsX11_canSplit wsX11_goes := goodIn_r _ [36, 15, 10, 2, 41, 42, 43, 44, 45, 46, 47, 48, 49, 50, 51, 52, 53, 54, 55, 56, 57, 58, 59, 60, 61, 62, 63, 64, 65, 66, 67, 68, 69, 70, 71, 72, 73, 74, 75, 76, 77, 78, 79] (by decide +kernel) (by decide +kernel)
set_option maxRecDepth 20000 in
theorem gX11_canSplit_X11_goes : GoodIn wsX11_canSplit (wsV RX11 182 RX11 yX11_goes wsX11_goes) := goodIn_app (goodIn_of _ (by decide +kernel)) ggX11_canSplit_X11_goes
set_option maxRecDepth 20000 in
theorem ggX11_canSplit_X11_putHeights : GoodIn wsX11_canSplit wsX11_putHeights := goodIn_r _ [40, 10, 9, 41, 42, 43, 44, 45, 46, 47, 48, 49, 50, 51, 52, 53, 54, 55, 56, 57, 58, 59, 60, 61, 62, 63, 64, 65, 66, 67, 68, 69, 70, 71, 72, 73, 74, 75, 76, 77, 78, 79] (by decide +kernel) (by decide +kernel)
set_option maxRecDepth 20000 in
theorem gX11_canSplit_X11_putHeights : GoodIn wsX11_canSplit (wsV RX11 228 RX11 yX11_putHeights wsX11_putHeights) := goodIn_app (goodIn_of _ (by decide +kernel)) ggX11_canSplit_X11_putHeights
theorem dX11_canSplit_0 : decode cX11_canSplit 0 = .ok (.aload_n 0, 1) := by decide +kernel
theorem dX11_canSplit_1 : decode cX11_canSplit 1 = .ok (.invokevirtual 219, 3) := by decide +kernel
theorem dX11_canSplit_4 : decode cX11_canSplit 4 = .ok (.iconst 1, 1) := by decide +kernel
theorem dX11_canSplit_5 : decode cX11_canSplit 5 = .ok (.istore 4, 2) := by decide +kernel
theorem dX11_canSplit_7 : decode cX11_canSplit 7 = .ok (.iconst 0, 1) := by decide +kernel
theorem dX11_canSplit_8 : decode cX11_canSplit 8 = .ok (.istore 5, 2) := by decide +kernel
theorem dX11_canSplit_10 : decode cX11_canSplit 10 = .ok (.iload 5, 2) := by decide +kernel
theorem dX11_canSplit_12 : decode cX11_canSplit 12 = .ok (.iload_n 3, 1) := by decide +kernel
theorem dX11_canSplit_13 : decode cX11_canSplit 13 = .ok (.if_icmp .ge 89, 3) := by decide +kernel
theorem dX11_canSplit_16 : decode cX11_canSplit 16 = .ok (.iload 4, 2) := by decide +kernel
theorem dX11_canSplit_18 : decode cX11_canSplit 18 = .ok (.ifCond .eq 84, 3) := by decide +kernel
theorem dX11_canSplit_21 : decode cX11_canSplit 21 = .ok (.aload_n 0, 1) := by decide +kernel
theorem dX11_canSplit_22 : decode cX11_canSplit 22 = .ok (.invokevirtual 188, 3) := by decide +kernel
theorem dX11_canSplit_25 : decode cX11_canSplit 25 = .ok (.iconst 0, 1) := by decide +kernel
theorem dX11_canSplit_26 : decode cX11_canSplit 26 = .ok (.istore 6, 2) := by decide +kernel
theorem dX11_canSplit_28 : decode cX11_canSplit 28 = .ok (.iload 6, 2) := by decide +kernel
theorem dX11_canSplit_30 : decode cX11_canSplit 30 = .ok (.iload_n 2, 1) := by decide +kernel
theorem dX11_canSplit_31 : decode cX11_canSplit 31 = .ok (.if_icmp .ge 50, 3) := by decide +kernel
theorem dX11_canSplit_34 : decode cX11_canSplit 34 = .ok (.aload_n 0, 1) := by decide +kernel
theorem dX11_canSplit_35 : decode cX11_canSplit 35 = .ok (.getfield 62, 3) := by decide +kernel
theorem dX11_canSplit_38 : decode cX11_canSplit 38 = .ok (.iload 6, 2) := by decide +kernel
theorem dX11_canSplit_40 : decode cX11_canSplit 40 = .ok (.iaload, 1) := by decide +kernel
theorem dX11_canSplit_41 : decode cX11_canSplit 41 = .ok (.iload 5, 2) := by decide +kernel
theorem dX11_canSplit_43 : decode cX11_canSplit 43 = .ok (.if_icmp .ne 32, 3) := by decide +kernel
theorem dX11_canSplit_46 : decode cX11_canSplit 46 = .ok (.aload_n 0, 1) := by decide +kernel
theorem dX11_canSplit_47 : decode cX11_canSplit 47 = .ok (.getfield 37, 3) := by decide +kernel
theorem dX11_canSplit_50 : decode cX11_canSplit 50 = .ok (.aload_n 0, 1) := by decide +kernel
theorem dX11_canSplit_51 : decode cX11_canSplit 51 = .ok (.getfield 16, 3) := by decide +kernel
theorem dX11_canSplit_54 : decode cX11_canSplit 54 = .ok (.iload_n 1, 1) := by decide +kernel
theorem dX11_canSplit_55 : decode cX11_canSplit 55 = .ok (.iconst 2, 1) := by decide +kernel
theorem dX11_canSplit_56 : decode cX11_canSplit 56 = .ok (.iload 6, 2) := by decide +kernel
theorem dX11_canSplit_58 : decode cX11_canSplit 58 = .ok (.imul, 1) := by decide +kernel
theorem dX11_canSplit_59 : decode cX11_canSplit 59 = .ok (.iadd, 1) := by decide +kernel
theorem dX11_canSplit_60 : decode cX11_canSplit 60 = .ok (.iaload, 1) := by decide +kernel
theorem dX11_canSplit_61 : decode cX11_canSplit 61 = .ok (.aload_n 0, 1) := by decide +kernel
theorem dX11_canSplit_62 : decode cX11_canSplit 62 = .ok (.getfield 16, 3) := by decide +kernel
theorem dX11_canSplit_65 : decode cX11_canSplit 65 = .ok (.iload_n 1, 1) := by decide +kernel
theorem dX11_canSplit_66 : decode cX11_canSplit 66 = .ok (.iconst 2, 1) := by decide +kernel
theorem dX11_canSplit_67 : decode cX11_canSplit 67 = .ok (.iload 6, 2) := by decide +kernel
theorem dX11_canSplit_69 : decode cX11_canSplit 69 = .ok (.imul, 1) := by decide +kernel
theorem dX11_canSplit_70 : decode cX11_canSplit 70 = .ok (.iadd, 1) := by decide +kernel
theorem dX11_canSplit_71 : decode cX11_canSplit 71 = .ok (.iconst 1, 1) := by decide +kernel
theorem dX11_canSplit_72 : decode cX11_canSplit 72 = .ok (.iadd, 1) := by decide +kernel
theorem dX11_canSplit_73 : decode cX11_canSplit 73 = .ok (.iaload, 1) := by decide +kernel
theorem dX11_canSplit_74 : decode cX11_canSplit 74 = .ok (.iastore, 1) := by decide +kernel
theorem dX11_canSplit_75 : decode cX11_canSplit 75 = .ok (.iinc 6 1, 3) := by decide +kernel
theorem dX11_canSplit_78 : decode cX11_canSplit 78 = .ok (.goto (-50), 3) := by decide +kernel
theorem dX11_canSplit_81 : decode cX11_canSplit 81 = .ok (.aload_n 0, 1) := by decide +kernel
theorem dX11_canSplit_82 : decode cX11_canSplit 82 = .ok (.invokevirtual 172, 3) := by decide +kernel
theorem dX11_canSplit_85 : decode cX11_canSplit 85 = .ok (.istore 4, 2) := by decide +kernel
theorem dX11_canSplit_87 : decode cX11_canSplit 87 = .ok (.iload 4, 2) := by decide +kernel
theorem dX11_canSplit_89 : decode cX11_canSplit 89 = .ok (.ifCond .eq 7, 3) := by decide +kernel
theorem dX11_canSplit_92 : decode cX11_canSplit 92 = .ok (.aload_n 0, 1) := by decide +kernel
theorem dX11_canSplit_93 : decode cX11_canSplit 93 = .ok (.invokevirtual 182, 3) := by decide +kernel
theorem dX11_canSplit_96 : decode cX11_canSplit 96 = .ok (.iinc 5 1, 3) := by decide +kernel
theorem dX11_canSplit_99 : decode cX11_canSplit 99 = .ok (.goto (-89), 3) := by decide +kernel
theorem dX11_canSplit_102 : decode cX11_canSplit 102 = .ok (.aload_n 0, 1) := by decide +kernel
theorem dX11_canSplit_103 : decode cX11_canSplit 103 = .ok (.invokevirtual 228, 3) := by decide +kernel
theorem dX11_canSplit_106 : decode cX11_canSplit 106 = .ok (.iload 4, 2) := by decide +kernel
theorem dX11_canSplit_108 : decode cX11_canSplit 108 = .ok (.ireturn, 1) := by decide +kernel
set_option maxRecDepth 20000 in
theorem ggX11_findSplit_X11_canSplit : GoodIn wsX11_findSplit wsX11_canSplit := goodIn_r _ [7, 1, 8, 9, 10, 11, 12, 6, 13, 14, 15, 16, 17, 18, 19, 20, 21, 22, 23, 24, 25, 26, 27, 28, 29, 30, 31, 32, 33, 34, 35, 36, 37, 38, 39, 40, 41, 42, 43, 44, 45, 46, 47, 48, 49, 50, 51, 52, 53, 54, 55, 56, 57, 58, 59, 60, 61, 62, 63, 64, 65, 66, 67, 68, 69, 70, 71, 72, 73, 74, 75, 76, 77, 78, 79, 80, 81, 82, 83, 84] (by decide +kernel) (by decide +kernel)
set_option maxRecDepth 20000 in
theorem gX11_findSplit_X11_canSplit : GoodIn wsX11_findSplit (wsV RX11 250 RX11 yX11_canSplit wsX11_canSplit) := goodIn_app (goodIn_of _ (by decide +kernel)) ggX11_findSplit_X11_canSplit
theorem dX11_findSplit_0 : decode cX11_findSplit 0 = .ok (.iconst 0, 1) := by decide +kernel
theorem dX11_findSplit_1 : decode cX11_findSplit 1 = .ok (.istore_n 3, 1) := by decide +kernel
theorem dX11_findSplit_2 : decode cX11_findSplit 2 = .ok (.iload_n 3, 1) := by decide +kernel
theorem dX11_findSplit_3 : decode cX11_findSplit 3 = .ok (.iload_n 2, 1) := by decide +kernel
theorem dX11_findSplit_4 : decode cX11_findSplit 4 = .ok (.if_icmp .gt 127, 3) := by decide +kernel
theorem dX11_findSplit_7 : decode cX11_findSplit 7 = .ok (.iconst 1, 1) := by decide +kernel
theorem dX11_findSplit_8 : decode cX11_findSplit 8 = .ok (.istore 4, 2) := by decide +kernel
theorem dX11_findSplit_10 : decode cX11_findSplit 10 = .ok (.iconst 0, 1) := by decide +kernel
theorem dX11_findSplit_11 : decode cX11_findSplit 11 = .ok (.istore 5, 2) := by decide +kernel
theorem dX11_findSplit_13 : decode cX11_findSplit 13 = .ok (.iload 5, 2) := by decide +kernel
theorem dX11_findSplit_15 : decode cX11_findSplit 15 = .ok (.iload_n 2, 1) := by decide +kernel
theorem dX11_findSplit_16 : decode cX11_findSplit 16 = .ok (.if_icmp .ge 15, 3) := by decide +kernel
theorem dX11_findSplit_19 : decode cX11_findSplit 19 = .ok (.iload 4, 2) := by decide +kernel
theorem dX11_findSplit_21 : decode cX11_findSplit 21 = .ok (.iload_n 3, 1) := by decide +kernel
theorem dX11_findSplit_22 : decode cX11_findSplit 22 = .ok (.imul, 1) := by decide +kernel
theorem dX11_findSplit_23 : decode cX11_findSplit 23 = .ok (.istore 4, 2) := by decide +kernel
theorem dX11_findSplit_25 : decode cX11_findSplit 25 = .ok (.iinc 5 1, 3) := by decide +kernel
theorem dX11_findSplit_28 : decode cX11_findSplit 28 = .ok (.goto (-15), 3) := by decide +kernel
theorem dX11_findSplit_31 : decode cX11_findSplit 31 = .ok (.iconst 0, 1) := by decide +kernel
theorem dX11_findSplit_32 : decode cX11_findSplit 32 = .ok (.istore 5, 2) := by decide +kernel
theorem dX11_findSplit_34 : decode cX11_findSplit 34 = .ok (.iload 5, 2) := by decide +kernel
theorem dX11_findSplit_36 : decode cX11_findSplit 36 = .ok (.iload 4, 2) := by decide +kernel
theorem dX11_findSplit_38 : decode cX11_findSplit 38 = .ok (.if_icmp .ge 87, 3) := by decide +kernel
theorem dX11_findSplit_41 : decode cX11_findSplit 41 = .ok (.iload 5, 2) := by decide +kernel
theorem dX11_findSplit_43 : decode cX11_findSplit 43 = .ok (.istore 6, 2) := by decide +kernel
theorem dX11_findSplit_45 : decode cX11_findSplit 45 = .ok (.iload_n 2, 1) := by decide +kernel
theorem dX11_findSplit_46 : decode cX11_findSplit 46 = .ok (.iconst 1, 1) := by decide +kernel
theorem dX11_findSplit_47 : decode cX11_findSplit 47 = .ok (.isub, 1) := by decide +kernel
theorem dX11_findSplit_48 : decode cX11_findSplit 48 = .ok (.istore 7, 2) := by decide +kernel
theorem dX11_findSplit_50 : decode cX11_findSplit 50 = .ok (.iload 7, 2) := by decide +kernel
theorem dX11_findSplit_52 : decode cX11_findSplit 52 = .ok (.ifCond .lt 26, 3) := by decide +kernel
theorem dX11_findSplit_55 : decode cX11_findSplit 55 = .ok (.aload_n 0, 1) := by decide +kernel
theorem dX11_findSplit_56 : decode cX11_findSplit 56 = .ok (.getfield 62, 3) := by decide +kernel
theorem dX11_findSplit_59 : decode cX11_findSplit 59 = .ok (.iload 7, 2) := by decide +kernel
theorem dX11_findSplit_61 : decode cX11_findSplit 61 = .ok (.iload 6, 2) := by decide +kernel
theorem dX11_findSplit_63 : decode cX11_findSplit 63 = .ok (.iload_n 3, 1) := by decide +kernel
theorem dX11_findSplit_64 : decode cX11_findSplit 64 = .ok (.irem, 1) := by decide +kernel
theorem dX11_findSplit_65 : decode cX11_findSplit 65 = .ok (.iastore, 1) := by decide +kernel
theorem dX11_findSplit_66 : decode cX11_findSplit 66 = .ok (.iload 6, 2) := by decide +kernel
theorem dX11_findSplit_68 : decode cX11_findSplit 68 = .ok (.iload_n 3, 1) := by decide +kernel
theorem dX11_findSplit_69 : decode cX11_findSplit 69 = .ok (.idiv, 1) := by decide +kernel
theorem dX11_findSplit_70 : decode cX11_findSplit 70 = .ok (.istore 6, 2) := by decide +kernel
theorem dX11_findSplit_72 : decode cX11_findSplit 72 = .ok (.iinc 7 (-1), 3) := by decide +kernel
theorem dX11_findSplit_75 : decode cX11_findSplit 75 = .ok (.goto (-25), 3) := by decide +kernel
theorem dX11_findSplit_78 : decode cX11_findSplit 78 = .ok (.aload_n 0, 1) := by decide +kernel
theorem dX11_findSplit_79 : decode cX11_findSplit 79 = .ok (.iload_n 1, 1) := by decide +kernel
theorem dX11_findSplit_80 : decode cX11_findSplit 80 = .ok (.iload_n 2, 1) := by decide +kernel
theorem dX11_findSplit_81 : decode cX11_findSplit 81 = .ok (.iload_n 3, 1) := by decide +kernel
theorem dX11_findSplit_82 : decode cX11_findSplit 82 = .ok (.invokevirtual 250, 3) := by decide +kernel
theorem dX11_findSplit_85 : decode cX11_findSplit 85 = .ok (.ifCond .eq 34, 3) := by decide +kernel
theorem dX11_findSplit_88 : decode cX11_findSplit 88 = .ok (.iconst 0, 1) := by decide +kernel
theorem dX11_findSplit_89 : decode cX11_findSplit 89 = .ok (.istore 7, 2) := by decide +kernel
theorem dX11_findSplit_91 : decode cX11_findSplit 91 = .ok (.iload 7, 2) := by decide +kernel
theorem dX11_findSplit_93 : decode cX11_findSplit 93 = .ok (.iload_n 2, 1) := by decide +kernel
theorem dX11_findSplit_94 : decode cX11_findSplit 94 = .ok (.if_icmp .ge 23, 3) := by decide +kernel
theorem dX11_findSplit_97 : decode cX11_findSplit 97 = .ok (.aload_n 0, 1) := by decide +kernel
theorem dX11_findSplit_98 : decode cX11_findSplit 98 = .ok (.getfield 65, 3) := by decide +kernel
theorem dX11_findSplit_101 : decode cX11_findSplit 101 = .ok (.iload 7, 2) := by decide +kernel
theorem dX11_findSplit_103 : decode cX11_findSplit 103 = .ok (.aload_n 0, 1) := by decide +kernel
theorem dX11_findSplit_104 : decode cX11_findSplit 104 = .ok (.getfield 62, 3) := by decide +kernel
theorem dX11_findSplit_107 : decode cX11_findSplit 107 = .ok (.iload 7, 2) := by decide +kernel
theorem dX11_findSplit_109 : decode cX11_findSplit 109 = .ok (.iaload, 1) := by decide +kernel
theorem dX11_findSplit_110 : decode cX11_findSplit 110 = .ok (.iastore, 1) := by decide +kernel
theorem dX11_findSplit_111 : decode cX11_findSplit 111 = .ok (.iinc 7 1, 3) := by decide +kernel
theorem dX11_findSplit_114 : decode cX11_findSplit 114 = .ok (.goto (-23), 3) := by decide +kernel
theorem dX11_findSplit_117 : decode cX11_findSplit 117 = .ok (.iload_n 3, 1) := by decide +kernel
theorem dX11_findSplit_118 : decode cX11_findSplit 118 = .ok (.ireturn, 1) := by decide +kernel
theorem dX11_findSplit_119 : decode cX11_findSplit 119 = .ok (.iinc 5 1, 3) := by decide +kernel
theorem dX11_findSplit_122 : decode cX11_findSplit 122 = .ok (.goto (-88), 3) := by decide +kernel
theorem dX11_findSplit_125 : decode cX11_findSplit 125 = .ok (.iinc 3 1, 3) := by decide +kernel
theorem dX11_findSplit_128 : decode cX11_findSplit 128 = .ok (.goto (-126), 3) := by decide +kernel
theorem dX11_findSplit_131 : decode cX11_findSplit 131 = .ok (.bipush (-9), 2) := by decide +kernel
theorem dX11_findSplit_133 : decode cX11_findSplit 133 = .ok (.ireturn, 1) := by decide +kernel
set_option maxRecDepth 20000 in
theorem ggX11_split_X11_isSheet : GoodIn wsX11_split wsX11_isSheet := goodIn_r _ [7, 8, 9, 6, 10] (by decide +kernel) (by decide +kernel)
set_option maxRecDepth 20000 in
theorem gX11_split_X11_isSheet : GoodIn wsX11_split (va_wsS RX11 93 yX11_isSheet wsX11_isSheet) := goodIn_app (goodIn_of _ (by decide +kernel)) ggX11_split_X11_isSheet
set_option maxRecDepth 20000 in
theorem ggX11_split_X11_isSort : GoodIn wsX11_split wsX11_isSort := goodIn_r _ [13, 8, 9, 6, 10] (by decide +kernel) (by decide +kernel)
set_option maxRecDepth 20000 in
theorem gX11_split_X11_isSort : GoodIn wsX11_split (va_wsS RX11 97 yX11_isSort wsX11_isSort) := goodIn_app (goodIn_of _ (by decide +kernel)) ggX11_split_X11_isSort
set_option maxRecDepth 20000 in
theorem ggX11_split_X11_within : GoodIn wsX11_split wsX11_within := goodIn_r _ [10] (by decide +kernel) (by decide +kernel)
set_option maxRecDepth 20000 in
theorem gX11_split_X11_within : GoodIn wsX11_split (va_wsS RX11 83 yX11_within wsX11_within) := goodIn_app (goodIn_of _ (by decide +kernel)) ggX11_split_X11_within
set_option maxRecDepth 20000 in
theorem ggX11_split_X11_against : GoodIn wsX11_split wsX11_against := goodIn_r _ [17, 18, 19, 85, 86, 87, 88, 89, 90, 91, 92, 93, 94, 95, 96, 97, 98, 99, 100, 101, 102, 103, 104, 105, 106, 107, 108, 109, 110, 111, 112, 113, 114, 115, 116, 117, 118, 119, 120, 121, 122, 123] (by decide +kernel) (by decide +kernel)
set_option maxRecDepth 20000 in
theorem gX11_split_X11_against : GoodIn wsX11_split (wsV RX11 100 RX11 yX11_against wsX11_against) := goodIn_app (goodIn_of _ (by decide +kernel)) ggX11_split_X11_against
set_option maxRecDepth 20000 in
theorem ggX11_split_X11_fails : GoodIn wsX11_split wsX11_fails := goodIn_r _ [23, 1, 85, 86, 87, 88, 89, 90, 91, 92, 93, 94, 95, 96, 97, 98, 99, 100, 101, 102, 103, 104, 105, 106, 107, 108, 109, 110, 111, 112, 113, 114, 115, 116, 117, 118, 119, 120, 121, 122, 123] (by decide +kernel) (by decide +kernel)
set_option maxRecDepth 20000 in
theorem gX11_split_X11_fails : GoodIn wsX11_split (wsV RX11 104 RX11 yX11_fails wsX11_fails) := goodIn_app (goodIn_of _ (by decide +kernel)) ggX11_split_X11_fails
set_option maxRecDepth 20000 in
theorem ggX11_split_X11_refusesPairs : GoodIn wsX11_split wsX11_refusesPairs := goodIn_r _ [27, 28, 29, 30, 31, 6, 32, 2, 33, 34, 35, 8, 9, 10, 85, 86, 87, 88, 89, 90, 91, 92, 93, 94, 95, 96, 97, 98, 99, 100, 101, 102, 103, 104, 105, 106, 107, 108, 109, 110, 111, 112, 113, 114, 115, 116, 117, 118, 119, 120, 121, 122, 123] (by decide +kernel) (by decide +kernel)
set_option maxRecDepth 20000 in
theorem gX11_split_X11_refusesPairs : GoodIn wsX11_split (wsV RX11 194 RX11 yX11_refusesPairs wsX11_refusesPairs) := goodIn_app (goodIn_of _ (by decide +kernel)) ggX11_split_X11_refusesPairs
set_option maxRecDepth 20000 in
theorem ggX11_split_X11_isTwice : GoodIn wsX11_split wsX11_isTwice := goodIn_r _ [39, 28, 85, 86, 87, 88, 89, 90, 91, 92, 93, 94, 95, 96, 97, 98, 99, 100, 101, 102, 103, 104, 105, 106, 107, 108, 109, 110, 111, 112, 113, 114, 115, 116, 117, 118, 119, 120, 121, 122, 123] (by decide +kernel) (by decide +kernel)
set_option maxRecDepth 20000 in
theorem gX11_split_X11_isTwice : GoodIn wsX11_split (wsV RX11 197 RX11 yX11_isTwice wsX11_isTwice) := goodIn_app (goodIn_of _ (by decide +kernel)) ggX11_split_X11_isTwice
set_option maxRecDepth 20000 in
theorem ggX11_split_X11_findSplit : GoodIn wsX11_split wsX11_findSplit := goodIn_r _ [43, 44, 3, 45, 46, 47, 6, 48, 49, 28, 50, 51, 52, 53, 54, 55, 56, 57, 58, 59, 2, 60, 61, 62, 63, 64, 65, 66, 67, 68, 69, 70, 71, 72, 73, 74, 75, 76, 77, 78, 79, 80, 81, 82, 83, 84, 85, 86, 87, 88, 89, 90, 91, 92, 93, 94, 95, 96, 97, 98, 99, 100, 101, 102, 103, 104, 105, 106, 107, 108, 109, 110, 111, 112, 113, 114, 115, 116, 117, 118, 119, 120, 121, 122, 123] (by decide +kernel) (by decide +kernel)
set_option maxRecDepth 20000 in
theorem gX11_split_X11_findSplit : GoodIn wsX11_split (wsV RX11 253 RX11 yX11_findSplit wsX11_findSplit) := goodIn_app (goodIn_of _ (by decide +kernel)) ggX11_split_X11_findSplit
theorem dX11_split_0 : decode cX11_split 0 = .ok (.aload_n 0, 1) := by decide +kernel
theorem dX11_split_1 : decode cX11_split 1 = .ok (.iconst 0, 1) := by decide +kernel
theorem dX11_split_2 : decode cX11_split 2 = .ok (.putfield 77, 3) := by decide +kernel
theorem dX11_split_5 : decode cX11_split 5 = .ok (.iload_n 1, 1) := by decide +kernel
theorem dX11_split_6 : decode cX11_split 6 = .ok (.invokestatic 93, 3) := by decide +kernel
theorem dX11_split_9 : decode cX11_split 9 = .ok (.ifCond .ne 5, 3) := by decide +kernel
theorem dX11_split_12 : decode cX11_split 12 = .ok (.iconst (-1), 1) := by decide +kernel
theorem dX11_split_13 : decode cX11_split 13 = .ok (.ireturn, 1) := by decide +kernel
theorem dX11_split_14 : decode cX11_split 14 = .ok (.iload_n 2, 1) := by decide +kernel
theorem dX11_split_15 : decode cX11_split 15 = .ok (.invokestatic 97, 3) := by decide +kernel
theorem dX11_split_18 : decode cX11_split 18 = .ok (.ifCond .eq 23, 3) := by decide +kernel
theorem dX11_split_21 : decode cX11_split 21 = .ok (.iload 4, 2) := by decide +kernel
theorem dX11_split_23 : decode cX11_split 23 = .ok (.iconst 0, 1) := by decide +kernel
theorem dX11_split_24 : decode cX11_split 24 = .ok (.iconst 5, 1) := by decide +kernel
theorem dX11_split_25 : decode cX11_split 25 = .ok (.invokestatic 83, 3) := by decide +kernel
theorem dX11_split_28 : decode cX11_split 28 = .ok (.ifCond .eq 13, 3) := by decide +kernel
theorem dX11_split_31 : decode cX11_split 31 = .ok (.iload 5, 2) := by decide +kernel
theorem dX11_split_33 : decode cX11_split 33 = .ok (.iconst (-1), 1) := by decide +kernel
theorem dX11_split_34 : decode cX11_split 34 = .ok (.iconst 4, 1) := by decide +kernel
theorem dX11_split_35 : decode cX11_split 35 = .ok (.invokestatic 83, 3) := by decide +kernel
theorem dX11_split_38 : decode cX11_split 38 = .ok (.ifCond .ne 6, 3) := by decide +kernel
theorem dX11_split_41 : decode cX11_split 41 = .ok (.bipush (-2), 2) := by decide +kernel
theorem dX11_split_43 : decode cX11_split 43 = .ok (.ireturn, 1) := by decide +kernel
theorem dX11_split_44 : decode cX11_split 44 = .ok (.aload_n 0, 1) := by decide +kernel
theorem dX11_split_45 : decode cX11_split 45 = .ok (.iload_n 1, 1) := by decide +kernel
theorem dX11_split_46 : decode cX11_split 46 = .ok (.iload_n 2, 1) := by decide +kernel
theorem dX11_split_47 : decode cX11_split 47 = .ok (.iload_n 3, 1) := by decide +kernel
theorem dX11_split_48 : decode cX11_split 48 = .ok (.iconst 2, 1) := by decide +kernel
theorem dX11_split_49 : decode cX11_split 49 = .ok (.iload 4, 2) := by decide +kernel
theorem dX11_split_51 : decode cX11_split 51 = .ok (.imul, 1) := by decide +kernel
theorem dX11_split_52 : decode cX11_split 52 = .ok (.invokevirtual 100, 3) := by decide +kernel
theorem dX11_split_55 : decode cX11_split 55 = .ok (.istore 6, 2) := by decide +kernel
theorem dX11_split_57 : decode cX11_split 57 = .ok (.iload 6, 2) := by decide +kernel
theorem dX11_split_59 : decode cX11_split 59 = .ok (.ifCond .eq 10, 3) := by decide +kernel
theorem dX11_split_62 : decode cX11_split 62 = .ok (.aload_n 0, 1) := by decide +kernel
theorem dX11_split_63 : decode cX11_split 63 = .ok (.iload 6, 2) := by decide +kernel
theorem dX11_split_65 : decode cX11_split 65 = .ok (.invokevirtual 104, 3) := by decide +kernel
theorem dX11_split_68 : decode cX11_split 68 = .ok (.ireturn, 1) := by decide +kernel
theorem dX11_split_69 : decode cX11_split 69 = .ok (.aload_n 0, 1) := by decide +kernel
theorem dX11_split_70 : decode cX11_split 70 = .ok (.getfield 87, 3) := by decide +kernel
theorem dX11_split_73 : decode cX11_split 73 = .ok (.ifCond .ne 6, 3) := by decide +kernel
theorem dX11_split_76 : decode cX11_split 76 = .ok (.bipush (-3), 2) := by decide +kernel
theorem dX11_split_78 : decode cX11_split 78 = .ok (.ireturn, 1) := by decide +kernel
theorem dX11_split_79 : decode cX11_split 79 = .ok (.bipush 60, 2) := by decide +kernel
theorem dX11_split_81 : decode cX11_split 81 = .ok (.iload_n 1, 1) := by decide +kernel
theorem dX11_split_82 : decode cX11_split 82 = .ok (.imul, 1) := by decide +kernel
theorem dX11_split_83 : decode cX11_split 83 = .ok (.iload_n 3, 1) := by decide +kernel
theorem dX11_split_84 : decode cX11_split 84 = .ok (.iadd, 1) := by decide +kernel
theorem dX11_split_85 : decode cX11_split 85 = .ok (.istore 7, 2) := by decide +kernel
theorem dX11_split_87 : decode cX11_split 87 = .ok (.aload_n 0, 1) := by decide +kernel
theorem dX11_split_88 : decode cX11_split 88 = .ok (.iload 7, 2) := by decide +kernel
theorem dX11_split_90 : decode cX11_split 90 = .ok (.iload 4, 2) := by decide +kernel
theorem dX11_split_92 : decode cX11_split 92 = .ok (.invokevirtual 194, 3) := by decide +kernel
theorem dX11_split_95 : decode cX11_split 95 = .ok (.istore 8, 2) := by decide +kernel
theorem dX11_split_97 : decode cX11_split 97 = .ok (.iload 8, 2) := by decide +kernel
theorem dX11_split_99 : decode cX11_split 99 = .ok (.ifCond .eq 6, 3) := by decide +kernel
theorem dX11_split_102 : decode cX11_split 102 = .ok (.iload 8, 2) := by decide +kernel
theorem dX11_split_104 : decode cX11_split 104 = .ok (.ireturn, 1) := by decide +kernel
theorem dX11_split_105 : decode cX11_split 105 = .ok (.aload_n 0, 1) := by decide +kernel
theorem dX11_split_106 : decode cX11_split 106 = .ok (.iload 7, 2) := by decide +kernel
theorem dX11_split_108 : decode cX11_split 108 = .ok (.iload 4, 2) := by decide +kernel
theorem dX11_split_110 : decode cX11_split 110 = .ok (.invokevirtual 197, 3) := by decide +kernel
theorem dX11_split_113 : decode cX11_split 113 = .ok (.ifCond .eq 6, 3) := by decide +kernel
theorem dX11_split_116 : decode cX11_split 116 = .ok (.bipush (-3), 2) := by decide +kernel
theorem dX11_split_118 : decode cX11_split 118 = .ok (.ireturn, 1) := by decide +kernel
theorem dX11_split_119 : decode cX11_split 119 = .ok (.aload_n 0, 1) := by decide +kernel
theorem dX11_split_120 : decode cX11_split 120 = .ok (.iload 7, 2) := by decide +kernel
theorem dX11_split_122 : decode cX11_split 122 = .ok (.iload 4, 2) := by decide +kernel
theorem dX11_split_124 : decode cX11_split 124 = .ok (.invokevirtual 253, 3) := by decide +kernel
theorem dX11_split_127 : decode cX11_split 127 = .ok (.istore 9, 2) := by decide +kernel
theorem dX11_split_129 : decode cX11_split 129 = .ok (.iload 5, 2) := by decide +kernel
theorem dX11_split_131 : decode cX11_split 131 = .ok (.iconst (-1), 1) := by decide +kernel
theorem dX11_split_132 : decode cX11_split 132 = .ok (.if_icmp .ne 6, 3) := by decide +kernel
theorem dX11_split_135 : decode cX11_split 135 = .ok (.iload 9, 2) := by decide +kernel
theorem dX11_split_137 : decode cX11_split 137 = .ok (.ireturn, 1) := by decide +kernel
theorem dX11_split_138 : decode cX11_split 138 = .ok (.iload 9, 2) := by decide +kernel
theorem dX11_split_140 : decode cX11_split 140 = .ok (.bipush (-9), 2) := by decide +kernel
theorem dX11_split_142 : decode cX11_split 142 = .ok (.if_icmp .eq 20, 3) := by decide +kernel
theorem dX11_split_145 : decode cX11_split 145 = .ok (.iload 5, 2) := by decide +kernel
theorem dX11_split_147 : decode cX11_split 147 = .ok (.iload 4, 2) := by decide +kernel
theorem dX11_split_149 : decode cX11_split 149 = .ok (.if_icmp .ge 13, 3) := by decide +kernel
theorem dX11_split_152 : decode cX11_split 152 = .ok (.aload_n 0, 1) := by decide +kernel
theorem dX11_split_153 : decode cX11_split 153 = .ok (.getfield 65, 3) := by decide +kernel
theorem dX11_split_156 : decode cX11_split 156 = .ok (.iload 5, 2) := by decide +kernel
theorem dX11_split_158 : decode cX11_split 158 = .ok (.iaload, 1) := by decide +kernel
theorem dX11_split_159 : decode cX11_split 159 = .ok (.goto 5, 3) := by decide +kernel
theorem dX11_split_162 : decode cX11_split 162 = .ok (.bipush (-9), 2) := by decide +kernel
theorem dX11_split_164 : decode cX11_split 164 = .ok (.ireturn, 1) := by decide +kernel
set_option maxRecDepth 20000 in
theorem ggX11_balance_X11_isBatten : GoodIn wsX11_balance wsX11_isBatten := goodIn_r _ [7, 8, 24, 25, 26, 27, 28, 29, 30, 31, 32, 33, 34, 35, 36, 37, 38, 39, 40, 41, 42, 43, 44, 45, 46, 47, 48, 49, 50, 51, 52, 53, 54, 55, 56, 57, 58, 59, 60, 61, 62] (by decide +kernel) (by decide +kernel)
set_option maxRecDepth 20000 in
theorem gX11_balance_X11_isBatten : GoodIn wsX11_balance (wsV RX11 152 RX11 yX11_isBatten wsX11_isBatten) := goodIn_app (goodIn_of _ (by decide +kernel)) ggX11_balance_X11_isBatten
set_option maxRecDepth 20000 in
theorem ggX11_balance_X11_isDigit : GoodIn wsX11_balance wsX11_isDigit := goodIn_r _ [11, 12, 13, 6, 14] (by decide +kernel) (by decide +kernel)
set_option maxRecDepth 20000 in
theorem gX11_balance_X11_isDigit : GoodIn wsX11_balance (va_wsS RX11 185 yX11_isDigit wsX11_isDigit) := goodIn_app (goodIn_of _ (by decide +kernel)) ggX11_balance_X11_isDigit
set_option maxRecDepth 20000 in
theorem ggX11_balance_X11_pullOf : GoodIn wsX11_balance wsX11_pullOf := goodIn_r _ [18, 19, 1, 20, 24, 25, 26, 27, 28, 29, 30, 31, 32, 33, 34, 35, 36, 37, 38, 39, 40, 41, 42, 43, 44, 45, 46, 47, 48, 49, 50, 51, 52, 53, 54, 55, 56, 57, 58, 59, 60, 61, 62] (by decide +kernel) (by decide +kernel)
set_option maxRecDepth 20000 in
theorem gX11_balance_X11_pullOf : GoodIn wsX11_balance (wsV RX11 155 RX11 yX11_pullOf wsX11_pullOf) := goodIn_app (goodIn_of _ (by decide +kernel)) ggX11_balance_X11_pullOf
set_option maxRecDepth 20000 in
theorem ggX11_balance_X11_apart : GoodIn wsX11_balance wsX11_apart := goodIn_r _ [23] (by decide +kernel) (by decide +kernel)
set_option maxRecDepth 20000 in
theorem gX11_balance_X11_apart : GoodIn wsX11_balance (va_wsS RX11 168 yX11_apart wsX11_apart) := goodIn_app (goodIn_of _ (by decide +kernel)) ggX11_balance_X11_apart
theorem dX11_balance_0 : decode cX11_balance 0 = .ok (.aload_n 0, 1) := by decide +kernel
theorem dX11_balance_1 : decode cX11_balance 1 = .ok (.iload_n 1, 1) := by decide +kernel
theorem dX11_balance_2 : decode cX11_balance 2 = .ok (.invokevirtual 152, 3) := by decide +kernel
theorem dX11_balance_5 : decode cX11_balance 5 = .ok (.ifCond .ne 5, 3) := by decide +kernel
theorem dX11_balance_8 : decode cX11_balance 8 = .ok (.iconst (-1), 1) := by decide +kernel
theorem dX11_balance_9 : decode cX11_balance 9 = .ok (.ireturn, 1) := by decide +kernel
theorem dX11_balance_10 : decode cX11_balance 10 = .ok (.iload_n 2, 1) := by decide +kernel
theorem dX11_balance_11 : decode cX11_balance 11 = .ok (.invokestatic 185, 3) := by decide +kernel
theorem dX11_balance_14 : decode cX11_balance 14 = .ok (.ifCond .ne 6, 3) := by decide +kernel
theorem dX11_balance_17 : decode cX11_balance 17 = .ok (.bipush (-2), 2) := by decide +kernel
theorem dX11_balance_19 : decode cX11_balance 19 = .ok (.ireturn, 1) := by decide +kernel
theorem dX11_balance_20 : decode cX11_balance 20 = .ok (.aload_n 0, 1) := by decide +kernel
theorem dX11_balance_21 : decode cX11_balance 21 = .ok (.getfield 25, 3) := by decide +kernel
theorem dX11_balance_24 : decode cX11_balance 24 = .ok (.iload_n 1, 1) := by decide +kernel
theorem dX11_balance_25 : decode cX11_balance 25 = .ok (.iaload, 1) := by decide +kernel
theorem dX11_balance_26 : decode cX11_balance 26 = .ok (.istore_n 3, 1) := by decide +kernel
theorem dX11_balance_27 : decode cX11_balance 27 = .ok (.bipush (-9), 2) := by decide +kernel
theorem dX11_balance_29 : decode cX11_balance 29 = .ok (.istore 4, 2) := by decide +kernel
theorem dX11_balance_31 : decode cX11_balance 31 = .ok (.iconst 0, 1) := by decide +kernel
theorem dX11_balance_32 : decode cX11_balance 32 = .ok (.istore 5, 2) := by decide +kernel
theorem dX11_balance_34 : decode cX11_balance 34 = .ok (.iload 5, 2) := by decide +kernel
theorem dX11_balance_36 : decode cX11_balance 36 = .ok (.bipush 9, 2) := by decide +kernel
theorem dX11_balance_38 : decode cX11_balance 38 = .ok (.if_icmp .gt 80, 3) := by decide +kernel
theorem dX11_balance_41 : decode cX11_balance 41 = .ok (.iload 5, 2) := by decide +kernel
theorem dX11_balance_43 : decode cX11_balance 43 = .ok (.iload_n 3, 1) := by decide +kernel
theorem dX11_balance_44 : decode cX11_balance 44 = .ok (.aload_n 0, 1) := by decide +kernel
theorem dX11_balance_45 : decode cX11_balance 45 = .ok (.getfield 129, 3) := by decide +kernel
theorem dX11_balance_48 : decode cX11_balance 48 = .ok (.iadd, 1) := by decide +kernel
theorem dX11_balance_49 : decode cX11_balance 49 = .ok (.if_icmp .gt 69, 3) := by decide +kernel
theorem dX11_balance_52 : decode cX11_balance 52 = .ok (.aload_n 0, 1) := by decide +kernel
theorem dX11_balance_53 : decode cX11_balance 53 = .ok (.getfield 25, 3) := by decide +kernel
theorem dX11_balance_56 : decode cX11_balance 56 = .ok (.iload_n 1, 1) := by decide +kernel
theorem dX11_balance_57 : decode cX11_balance 57 = .ok (.iload 5, 2) := by decide +kernel
theorem dX11_balance_59 : decode cX11_balance 59 = .ok (.iastore, 1) := by decide +kernel
theorem dX11_balance_60 : decode cX11_balance 60 = .ok (.aload_n 0, 1) := by decide +kernel
theorem dX11_balance_61 : decode cX11_balance 61 = .ok (.iload_n 1, 1) := by decide +kernel
theorem dX11_balance_62 : decode cX11_balance 62 = .ok (.invokevirtual 155, 3) := by decide +kernel
theorem dX11_balance_65 : decode cX11_balance 65 = .ok (.iload_n 2, 1) := by decide +kernel
theorem dX11_balance_66 : decode cX11_balance 66 = .ok (.if_icmp .gt 7, 3) := by decide +kernel
theorem dX11_balance_69 : decode cX11_balance 69 = .ok (.iconst 1, 1) := by decide +kernel
theorem dX11_balance_70 : decode cX11_balance 70 = .ok (.goto 4, 3) := by decide +kernel
theorem dX11_balance_73 : decode cX11_balance 73 = .ok (.iconst 0, 1) := by decide +kernel
theorem dX11_balance_74 : decode cX11_balance 74 = .ok (.istore 6, 2) := by decide +kernel
theorem dX11_balance_76 : decode cX11_balance 76 = .ok (.iload 6, 2) := by decide +kernel
theorem dX11_balance_78 : decode cX11_balance 78 = .ok (.ifCond .eq 30, 3) := by decide +kernel
theorem dX11_balance_81 : decode cX11_balance 81 = .ok (.iload 4, 2) := by decide +kernel
theorem dX11_balance_83 : decode cX11_balance 83 = .ok (.bipush (-9), 2) := by decide +kernel
theorem dX11_balance_85 : decode cX11_balance 85 = .ok (.if_icmp .eq 18, 3) := by decide +kernel
theorem dX11_balance_88 : decode cX11_balance 88 = .ok (.iload 5, 2) := by decide +kernel
theorem dX11_balance_90 : decode cX11_balance 90 = .ok (.iload_n 3, 1) := by decide +kernel
theorem dX11_balance_91 : decode cX11_balance 91 = .ok (.invokestatic 168, 3) := by decide +kernel
theorem dX11_balance_94 : decode cX11_balance 94 = .ok (.iload 4, 2) := by decide +kernel
theorem dX11_balance_96 : decode cX11_balance 96 = .ok (.iload_n 3, 1) := by decide +kernel
theorem dX11_balance_97 : decode cX11_balance 97 = .ok (.invokestatic 168, 3) := by decide +kernel
theorem dX11_balance_100 : decode cX11_balance 100 = .ok (.if_icmp .ge 8, 3) := by decide +kernel
theorem dX11_balance_103 : decode cX11_balance 103 = .ok (.iload 5, 2) := by decide +kernel
theorem dX11_balance_105 : decode cX11_balance 105 = .ok (.goto 5, 3) := by decide +kernel
theorem dX11_balance_108 : decode cX11_balance 108 = .ok (.iload 4, 2) := by decide +kernel
theorem dX11_balance_110 : decode cX11_balance 110 = .ok (.istore 4, 2) := by decide +kernel
theorem dX11_balance_112 : decode cX11_balance 112 = .ok (.iinc 5 1, 3) := by decide +kernel
theorem dX11_balance_115 : decode cX11_balance 115 = .ok (.goto (-81), 3) := by decide +kernel
theorem dX11_balance_118 : decode cX11_balance 118 = .ok (.aload_n 0, 1) := by decide +kernel
theorem dX11_balance_119 : decode cX11_balance 119 = .ok (.getfield 25, 3) := by decide +kernel
theorem dX11_balance_122 : decode cX11_balance 122 = .ok (.iload_n 1, 1) := by decide +kernel
theorem dX11_balance_123 : decode cX11_balance 123 = .ok (.iload_n 3, 1) := by decide +kernel
theorem dX11_balance_124 : decode cX11_balance 124 = .ok (.iastore, 1) := by decide +kernel
theorem dX11_balance_125 : decode cX11_balance 125 = .ok (.iload 4, 2) := by decide +kernel
theorem dX11_balance_127 : decode cX11_balance 127 = .ok (.ireturn, 1) := by decide +kernel
set_option maxRecDepth 20000 in
theorem ggX11_reading_X11_isBatten : GoodIn wsX11_reading wsX11_isBatten := goodIn_r _ [9, 10, 14, 15, 16, 17, 18, 19, 20, 21, 22, 23, 24, 25, 26, 27, 28, 29, 30, 31, 32, 33, 34, 35, 36, 37, 38, 39, 40, 41, 42, 43, 44, 45, 46, 47, 48, 49, 50, 51, 52] (by decide +kernel) (by decide +kernel)
set_option maxRecDepth 20000 in
theorem gX11_reading_X11_isBatten : GoodIn wsX11_reading (wsV RX11 152 RX11 yX11_isBatten wsX11_isBatten) := goodIn_app (goodIn_of _ (by decide +kernel)) ggX11_reading_X11_isBatten
set_option maxRecDepth 20000 in
theorem ggX11_reading_X11_within : GoodIn wsX11_reading wsX11_within := goodIn_r _ [13] (by decide +kernel) (by decide +kernel)
set_option maxRecDepth 20000 in
theorem gX11_reading_X11_within : GoodIn wsX11_reading (va_wsS RX11 83 yX11_within wsX11_within) := goodIn_app (goodIn_of _ (by decide +kernel)) ggX11_reading_X11_within
theorem dX11_reading_0 : decode cX11_reading 0 = .ok (.aload_n 0, 1) := by decide +kernel
theorem dX11_reading_1 : decode cX11_reading 1 = .ok (.iload_n 1, 1) := by decide +kernel
theorem dX11_reading_2 : decode cX11_reading 2 = .ok (.invokevirtual 152, 3) := by decide +kernel
theorem dX11_reading_5 : decode cX11_reading 5 = .ok (.ifCond .ne 5, 3) := by decide +kernel
theorem dX11_reading_8 : decode cX11_reading 8 = .ok (.iconst (-1), 1) := by decide +kernel
theorem dX11_reading_9 : decode cX11_reading 9 = .ok (.ireturn, 1) := by decide +kernel
theorem dX11_reading_10 : decode cX11_reading 10 = .ok (.iload_n 2, 1) := by decide +kernel
theorem dX11_reading_11 : decode cX11_reading 11 = .ok (.iconst 1, 1) := by decide +kernel
theorem dX11_reading_12 : decode cX11_reading 12 = .ok (.bipush 9, 2) := by decide +kernel
theorem dX11_reading_14 : decode cX11_reading 14 = .ok (.invokestatic 83, 3) := by decide +kernel
theorem dX11_reading_17 : decode cX11_reading 17 = .ok (.ifCond .eq 13, 3) := by decide +kernel
theorem dX11_reading_20 : decode cX11_reading 20 = .ok (.iload_n 3, 1) := by decide +kernel
theorem dX11_reading_21 : decode cX11_reading 21 = .ok (.iconst 0, 1) := by decide +kernel
theorem dX11_reading_22 : decode cX11_reading 22 = .ok (.bipush 81, 2) := by decide +kernel
theorem dX11_reading_24 : decode cX11_reading 24 = .ok (.invokestatic 83, 3) := by decide +kernel
theorem dX11_reading_27 : decode cX11_reading 27 = .ok (.ifCond .ne 6, 3) := by decide +kernel
theorem dX11_reading_30 : decode cX11_reading 30 = .ok (.bipush (-2), 2) := by decide +kernel
theorem dX11_reading_32 : decode cX11_reading 32 = .ok (.ireturn, 1) := by decide +kernel
theorem dX11_reading_33 : decode cX11_reading 33 = .ok (.aload_n 0, 1) := by decide +kernel
theorem dX11_reading_34 : decode cX11_reading 34 = .ok (.getfield 138, 3) := by decide +kernel
theorem dX11_reading_37 : decode cX11_reading 37 = .ok (.bipush 8, 2) := by decide +kernel
theorem dX11_reading_39 : decode cX11_reading 39 = .ok (.if_icmp .ne 6, 3) := by decide +kernel
theorem dX11_reading_42 : decode cX11_reading 42 = .ok (.bipush (-4), 2) := by decide +kernel
theorem dX11_reading_44 : decode cX11_reading 44 = .ok (.ireturn, 1) := by decide +kernel
theorem dX11_reading_45 : decode cX11_reading 45 = .ok (.aload_n 0, 1) := by decide +kernel
theorem dX11_reading_46 : decode cX11_reading 46 = .ok (.getfield 68, 3) := by decide +kernel
theorem dX11_reading_49 : decode cX11_reading 49 = .ok (.aload_n 0, 1) := by decide +kernel
theorem dX11_reading_50 : decode cX11_reading 50 = .ok (.getfield 138, 3) := by decide +kernel
theorem dX11_reading_53 : decode cX11_reading 53 = .ok (.iload_n 1, 1) := by decide +kernel
theorem dX11_reading_54 : decode cX11_reading 54 = .ok (.iastore, 1) := by decide +kernel
theorem dX11_reading_55 : decode cX11_reading 55 = .ok (.aload_n 0, 1) := by decide +kernel
theorem dX11_reading_56 : decode cX11_reading 56 = .ok (.getfield 71, 3) := by decide +kernel
theorem dX11_reading_59 : decode cX11_reading 59 = .ok (.aload_n 0, 1) := by decide +kernel
theorem dX11_reading_60 : decode cX11_reading 60 = .ok (.getfield 138, 3) := by decide +kernel
theorem dX11_reading_63 : decode cX11_reading 63 = .ok (.iload_n 2, 1) := by decide +kernel
theorem dX11_reading_64 : decode cX11_reading 64 = .ok (.iastore, 1) := by decide +kernel
theorem dX11_reading_65 : decode cX11_reading 65 = .ok (.aload_n 0, 1) := by decide +kernel
theorem dX11_reading_66 : decode cX11_reading 66 = .ok (.getfield 74, 3) := by decide +kernel
theorem dX11_reading_69 : decode cX11_reading 69 = .ok (.aload_n 0, 1) := by decide +kernel
